section
-- ===== PART A: goes FIRST, ahead of the names: the tables' words, and 'selects' of the private methods out of them =====
/-- a private method of a class that the tables say can be made, by its rows of tables_1 -/
def lw_okq (q : MethodName × Nat) : Prop := (q.1.cls ≠ "java/lang/invoke/MethodHandle" ∧ q.1.cls ≠ "java/lang/invoke/VarHandle") ∧ Cond.instantiable q.1.cls q.2 ∈ tables_1 ∧ Cond.privateMethod q.1 ∈ tables_1 ∧ Cond.instanceMethod q.1 ∈ tables_1
theorem lw_p0 : lw_okq (⟨"RoundBounds$LinkedTrees", "makeTree", "()Z"⟩, 6) := ⟨⟨by decide +kernel, by decide +kernel⟩, List.mem_of_getElem? (i := 66) (by decide +kernel), List.mem_of_getElem? (i := 228) (by decide +kernel), List.mem_of_getElem? (i := 229) (by decide +kernel)⟩
theorem lw_p1 : lw_okq (⟨"RoundBounds$LinkedTrees", "joinTwoPieces", "()Z"⟩, 6) := ⟨⟨by decide +kernel, by decide +kernel⟩, List.mem_of_getElem? (i := 66) (by decide +kernel), List.mem_of_getElem? (i := 233) (by decide +kernel), List.mem_of_getElem? (i := 234) (by decide +kernel)⟩
theorem lw_p2 : lw_okq (⟨"RoundBounds$LinkedTrees", "price", "(II)J"⟩, 6) := ⟨⟨by decide +kernel, by decide +kernel⟩, List.mem_of_getElem? (i := 66) (by decide +kernel), List.mem_of_getElem? (i := 237) (by decide +kernel), List.mem_of_getElem? (i := 238) (by decide +kernel)⟩
theorem lw_p3 : lw_okq (⟨"RoundBounds$LinkedTrees", "take", "(II)V"⟩, 6) := ⟨⟨by decide +kernel, by decide +kernel⟩, List.mem_of_getElem? (i := 66) (by decide +kernel), List.mem_of_getElem? (i := 241) (by decide +kernel), List.mem_of_getElem? (i := 242) (by decide +kernel)⟩
theorem lw_p4 : lw_okq (⟨"RoundBounds$LinkedTrees", "uniteWith", "(II)V"⟩, 6) := ⟨⟨by decide +kernel, by decide +kernel⟩, List.mem_of_getElem? (i := 66) (by decide +kernel), List.mem_of_getElem? (i := 245) (by decide +kernel), List.mem_of_getElem? (i := 246) (by decide +kernel)⟩
theorem lw_p5 : lw_okq (⟨"RoundBounds$LinkedTrees", "cheapestFromPlace0", "(I)I"⟩, 6) := ⟨⟨by decide +kernel, by decide +kernel⟩, List.mem_of_getElem? (i := 66) (by decide +kernel), List.mem_of_getElem? (i := 249) (by decide +kernel), List.mem_of_getElem? (i := 250) (by decide +kernel)⟩
theorem lw_p6 : lw_okq (⟨"RoundBounds$LinkedTrees", "moveWeights", "(I)V"⟩, 6) := ⟨⟨by decide +kernel, by decide +kernel⟩, List.mem_of_getElem? (i := 66) (by decide +kernel), List.mem_of_getElem? (i := 257) (by decide +kernel), List.mem_of_getElem? (i := 258) (by decide +kernel)⟩
theorem lw_p7 : lw_okq (⟨"RoundBounds$Assignment", "findFreeColumn", "()I"⟩, 7) := ⟨⟨by decide +kernel, by decide +kernel⟩, List.mem_of_getElem? (i := 92) (by decide +kernel), List.mem_of_getElem? (i := 277) (by decide +kernel), List.mem_of_getElem? (i := 278) (by decide +kernel)⟩
theorem lw_p8 : lw_okq (⟨"RoundBounds$Assignment", "lowerSlackFrom", "(I)V"⟩, 7) := ⟨⟨by decide +kernel, by decide +kernel⟩, List.mem_of_getElem? (i := 92) (by decide +kernel), List.mem_of_getElem? (i := 282) (by decide +kernel), List.mem_of_getElem? (i := 283) (by decide +kernel)⟩
theorem lw_p9 : lw_okq (⟨"RoundBounds$Assignment", "cost", "(II)J"⟩, 7) := ⟨⟨by decide +kernel, by decide +kernel⟩, List.mem_of_getElem? (i := 92) (by decide +kernel), List.mem_of_getElem? (i := 286) (by decide +kernel), List.mem_of_getElem? (i := 287) (by decide +kernel)⟩
theorem lw_p10 : lw_okq (⟨"RoundBounds$Assignment", "nearestColumn", "()I"⟩, 7) := ⟨⟨by decide +kernel, by decide +kernel⟩, List.mem_of_getElem? (i := 92) (by decide +kernel), List.mem_of_getElem? (i := 291) (by decide +kernel), List.mem_of_getElem? (i := 292) (by decide +kernel)⟩
theorem lw_p11 : lw_okq (⟨"RoundBounds$Assignment", "shiftPotentials", "(J)V"⟩, 7) := ⟨⟨by decide +kernel, by decide +kernel⟩, List.mem_of_getElem? (i := 92) (by decide +kernel), List.mem_of_getElem? (i := 295) (by decide +kernel), List.mem_of_getElem? (i := 296) (by decide +kernel)⟩
theorem lw_p12 : lw_okq (⟨"RoundBounds$Assignment", "changeAlong", "(I)V"⟩, 7) := ⟨⟨by decide +kernel, by decide +kernel⟩, List.mem_of_getElem? (i := 92) (by decide +kernel), List.mem_of_getElem? (i := 299) (by decide +kernel), List.mem_of_getElem? (i := 300) (by decide +kernel)⟩
theorem lw_p13 : lw_okq (⟨"RoundBounds$Assignment", "sumOfChosen", "()J"⟩, 7) := ⟨⟨by decide +kernel, by decide +kernel⟩, List.mem_of_getElem? (i := 92) (by decide +kernel), List.mem_of_getElem? (i := 303) (by decide +kernel), List.mem_of_getElem? (i := 304) (by decide +kernel)⟩
theorem lw_p14 : lw_okq (⟨"RoundBounds$LeastCut", "findChain", "(II)Z"⟩, 4) := ⟨⟨by decide +kernel, by decide +kernel⟩, List.mem_of_getElem? (i := 122) (by decide +kernel), List.mem_of_getElem? (i := 323) (by decide +kernel), List.mem_of_getElem? (i := 324) (by decide +kernel)⟩
theorem lw_p15 : lw_okq (⟨"RoundBounds$LeastCut", "fillChain", "(II)I"⟩, 4) := ⟨⟨by decide +kernel, by decide +kernel⟩, List.mem_of_getElem? (i := 122) (by decide +kernel), List.mem_of_getElem? (i := 328) (by decide +kernel), List.mem_of_getElem? (i := 329) (by decide +kernel)⟩
def lw_privs_1 : List (MethodName × Nat) := [(⟨"RoundBounds$LinkedTrees", "makeTree", "()Z"⟩, 6), (⟨"RoundBounds$LinkedTrees", "joinTwoPieces", "()Z"⟩, 6), (⟨"RoundBounds$LinkedTrees", "price", "(II)J"⟩, 6), (⟨"RoundBounds$LinkedTrees", "take", "(II)V"⟩, 6), (⟨"RoundBounds$LinkedTrees", "uniteWith", "(II)V"⟩, 6), (⟨"RoundBounds$LinkedTrees", "cheapestFromPlace0", "(I)I"⟩, 6), (⟨"RoundBounds$LinkedTrees", "moveWeights", "(I)V"⟩, 6), (⟨"RoundBounds$Assignment", "findFreeColumn", "()I"⟩, 7), (⟨"RoundBounds$Assignment", "lowerSlackFrom", "(I)V"⟩, 7), (⟨"RoundBounds$Assignment", "cost", "(II)J"⟩, 7), (⟨"RoundBounds$Assignment", "nearestColumn", "()I"⟩, 7), (⟨"RoundBounds$Assignment", "shiftPotentials", "(J)V"⟩, 7), (⟨"RoundBounds$Assignment", "changeAlong", "(I)V"⟩, 7), (⟨"RoundBounds$Assignment", "sumOfChosen", "()J"⟩, 7), (⟨"RoundBounds$LeastCut", "findChain", "(II)Z"⟩, 4), (⟨"RoundBounds$LeastCut", "fillChain", "(II)I"⟩, 4)]
theorem lw_r1 : ∀ q ∈ lw_privs_1, lw_okq q := List.forall_mem_cons.mpr ⟨lw_p0, List.forall_mem_cons.mpr ⟨lw_p1, List.forall_mem_cons.mpr ⟨lw_p2, List.forall_mem_cons.mpr ⟨lw_p3, List.forall_mem_cons.mpr ⟨lw_p4, List.forall_mem_cons.mpr ⟨lw_p5, List.forall_mem_cons.mpr ⟨lw_p6, List.forall_mem_cons.mpr ⟨lw_p7, List.forall_mem_cons.mpr ⟨lw_p8, List.forall_mem_cons.mpr ⟨lw_p9, List.forall_mem_cons.mpr ⟨lw_p10, List.forall_mem_cons.mpr ⟨lw_p11, List.forall_mem_cons.mpr ⟨lw_p12, List.forall_mem_cons.mpr ⟨lw_p13, List.forall_mem_cons.mpr ⟨lw_p14, List.forall_mem_cons.mpr ⟨lw_p15, fun _ h => absurd h List.not_mem_nil⟩⟩⟩⟩⟩⟩⟩⟩⟩⟩⟩⟩⟩⟩⟩⟩
theorem lw_p16 : lw_okq (⟨"RoundBounds$Net", "placesWithStreets", "()I"⟩, 3) := ⟨⟨by decide +kernel, by decide +kernel⟩, List.mem_of_getElem? (i := 33) (by decide +kernel), List.mem_of_getElem? (i := 346) (by decide +kernel), List.mem_of_getElem? (i := 347) (by decide +kernel)⟩
theorem lw_p17 : lw_okq (⟨"RoundBounds$Net", "reached", "([[IIZ)I"⟩, 3) := ⟨⟨by decide +kernel, by decide +kernel⟩, List.mem_of_getElem? (i := 33) (by decide +kernel), List.mem_of_getElem? (i := 350) (by decide +kernel), List.mem_of_getElem? (i := 351) (by decide +kernel)⟩
theorem lw_p18 : lw_okq (⟨"RoundBounds$Net", "spread", "([[IIZ)I"⟩, 3) := ⟨⟨by decide +kernel, by decide +kernel⟩, List.mem_of_getElem? (i := 33) (by decide +kernel), List.mem_of_getElem? (i := 354) (by decide +kernel), List.mem_of_getElem? (i := 355) (by decide +kernel)⟩
theorem lw_p19 : lw_okq (⟨"RoundBounds$WayPost", "goEachOnce", "()J"⟩, 5) := ⟨⟨by decide +kernel, by decide +kernel⟩, List.mem_of_getElem? (i := 171) (by decide +kernel), List.mem_of_getElem? (i := 359) (by decide +kernel), List.mem_of_getElem? (i := 360) (by decide +kernel)⟩
theorem lw_p20 : lw_okq (⟨"RoundBounds$WayPost", "findCosts", "()V"⟩, 5) := ⟨⟨by decide +kernel, by decide +kernel⟩, List.mem_of_getElem? (i := 171) (by decide +kernel), List.mem_of_getElem? (i := 364) (by decide +kernel), List.mem_of_getElem? (i := 365) (by decide +kernel)⟩
theorem lw_p21 : lw_okq (⟨"RoundBounds$WayPost", "lowerCosts", "()Z"⟩, 5) := ⟨⟨by decide +kernel, by decide +kernel⟩, List.mem_of_getElem? (i := 171) (by decide +kernel), List.mem_of_getElem? (i := 369) (by decide +kernel), List.mem_of_getElem? (i := 370) (by decide +kernel)⟩
theorem lw_p22 : lw_okq (⟨"RoundBounds$WayPost", "costOfStep", "(II)J"⟩, 5) := ⟨⟨by decide +kernel, by decide +kernel⟩, List.mem_of_getElem? (i := 171) (by decide +kernel), List.mem_of_getElem? (i := 373) (by decide +kernel), List.mem_of_getElem? (i := 374) (by decide +kernel)⟩
theorem lw_p23 : lw_okq (⟨"RoundBounds$WayPost", "cheapestEnd", "()I"⟩, 5) := ⟨⟨by decide +kernel, by decide +kernel⟩, List.mem_of_getElem? (i := 171) (by decide +kernel), List.mem_of_getElem? (i := 377) (by decide +kernel), List.mem_of_getElem? (i := 378) (by decide +kernel)⟩
theorem lw_p24 : lw_okq (⟨"RoundBounds$WayPost", "goTo", "(I)V"⟩, 5) := ⟨⟨by decide +kernel, by decide +kernel⟩, List.mem_of_getElem? (i := 171) (by decide +kernel), List.mem_of_getElem? (i := 381) (by decide +kernel), List.mem_of_getElem? (i := 382) (by decide +kernel)⟩
theorem lw_p25 : lw_okq (⟨"RoundBounds$StreetPost", "sumOfStreets", "()J"⟩, 7) := ⟨⟨by decide +kernel, by decide +kernel⟩, List.mem_of_getElem? (i := 142) (by decide +kernel), List.mem_of_getElem? (i := 394) (by decide +kernel), List.mem_of_getElem? (i := 395) (by decide +kernel)⟩
theorem lw_p26 : lw_okq (⟨"RoundBounds$StreetPost", "findOddPlaces", "()V"⟩, 7) := ⟨⟨by decide +kernel, by decide +kernel⟩, List.mem_of_getElem? (i := 142) (by decide +kernel), List.mem_of_getElem? (i := 399) (by decide +kernel), List.mem_of_getElem? (i := 400) (by decide +kernel)⟩
theorem lw_p27 : lw_okq (⟨"RoundBounds$StreetPost", "findShortest", "()V"⟩, 7) := ⟨⟨by decide +kernel, by decide +kernel⟩, List.mem_of_getElem? (i := 142) (by decide +kernel), List.mem_of_getElem? (i := 403) (by decide +kernel), List.mem_of_getElem? (i := 404) (by decide +kernel)⟩
theorem lw_p28 : lw_okq (⟨"RoundBounds$StreetPost", "findLeastSums", "()V"⟩, 7) := ⟨⟨by decide +kernel, by decide +kernel⟩, List.mem_of_getElem? (i := 142) (by decide +kernel), List.mem_of_getElem? (i := 409) (by decide +kernel), List.mem_of_getElem? (i := 410) (by decide +kernel)⟩
theorem lw_p29 : lw_okq (⟨"RoundBounds$StreetPost", "everyOdd", "()I"⟩, 7) := ⟨⟨by decide +kernel, by decide +kernel⟩, List.mem_of_getElem? (i := 142) (by decide +kernel), List.mem_of_getElem? (i := 413) (by decide +kernel), List.mem_of_getElem? (i := 414) (by decide +kernel)⟩
theorem lw_p30 : lw_okq (⟨"RoundBounds$StreetPost", "bestPartner", "(I)I"⟩, 7) := ⟨⟨by decide +kernel, by decide +kernel⟩, List.mem_of_getElem? (i := 142) (by decide +kernel), List.mem_of_getElem? (i := 423) (by decide +kernel), List.mem_of_getElem? (i := 424) (by decide +kernel)⟩
theorem lw_p31 : lw_okq (⟨"RoundBounds$StreetPost", "sumWith", "(II)I"⟩, 7) := ⟨⟨by decide +kernel, by decide +kernel⟩, List.mem_of_getElem? (i := 142) (by decide +kernel), List.mem_of_getElem? (i := 435) (by decide +kernel), List.mem_of_getElem? (i := 436) (by decide +kernel)⟩
def lw_privs_2 : List (MethodName × Nat) := [(⟨"RoundBounds$Net", "placesWithStreets", "()I"⟩, 3), (⟨"RoundBounds$Net", "reached", "([[IIZ)I"⟩, 3), (⟨"RoundBounds$Net", "spread", "([[IIZ)I"⟩, 3), (⟨"RoundBounds$WayPost", "goEachOnce", "()J"⟩, 5), (⟨"RoundBounds$WayPost", "findCosts", "()V"⟩, 5), (⟨"RoundBounds$WayPost", "lowerCosts", "()Z"⟩, 5), (⟨"RoundBounds$WayPost", "costOfStep", "(II)J"⟩, 5), (⟨"RoundBounds$WayPost", "cheapestEnd", "()I"⟩, 5), (⟨"RoundBounds$WayPost", "goTo", "(I)V"⟩, 5), (⟨"RoundBounds$StreetPost", "sumOfStreets", "()J"⟩, 7), (⟨"RoundBounds$StreetPost", "findOddPlaces", "()V"⟩, 7), (⟨"RoundBounds$StreetPost", "findShortest", "()V"⟩, 7), (⟨"RoundBounds$StreetPost", "findLeastSums", "()V"⟩, 7), (⟨"RoundBounds$StreetPost", "everyOdd", "()I"⟩, 7), (⟨"RoundBounds$StreetPost", "bestPartner", "(I)I"⟩, 7), (⟨"RoundBounds$StreetPost", "sumWith", "(II)I"⟩, 7)]
theorem lw_r2 : ∀ q ∈ lw_privs_2, lw_okq q := List.forall_mem_cons.mpr ⟨lw_p16, List.forall_mem_cons.mpr ⟨lw_p17, List.forall_mem_cons.mpr ⟨lw_p18, List.forall_mem_cons.mpr ⟨lw_p19, List.forall_mem_cons.mpr ⟨lw_p20, List.forall_mem_cons.mpr ⟨lw_p21, List.forall_mem_cons.mpr ⟨lw_p22, List.forall_mem_cons.mpr ⟨lw_p23, List.forall_mem_cons.mpr ⟨lw_p24, List.forall_mem_cons.mpr ⟨lw_p25, List.forall_mem_cons.mpr ⟨lw_p26, List.forall_mem_cons.mpr ⟨lw_p27, List.forall_mem_cons.mpr ⟨lw_p28, List.forall_mem_cons.mpr ⟨lw_p29, List.forall_mem_cons.mpr ⟨lw_p30, List.forall_mem_cons.mpr ⟨lw_p31, fun _ h => absurd h List.not_mem_nil⟩⟩⟩⟩⟩⟩⟩⟩⟩⟩⟩⟩⟩⟩⟩⟩
theorem lw_p32 : lw_okq (⟨"RoundBounds$StreetPost", "keepPairs", "()V"⟩, 7) := ⟨⟨by decide +kernel, by decide +kernel⟩, List.mem_of_getElem? (i := 142) (by decide +kernel), List.mem_of_getElem? (i := 442) (by decide +kernel), List.mem_of_getElem? (i := 443) (by decide +kernel)⟩
theorem lw_p33 : lw_okq (⟨"RoundBounds", "pickRow", "(I)V"⟩, 8) := ⟨⟨by decide +kernel, by decide +kernel⟩, List.mem_of_getElem? (i := 19) (by decide +kernel), List.mem_of_getElem? (i := 466) (by decide +kernel), List.mem_of_getElem? (i := 467) (by decide +kernel)⟩
theorem lw_p34 : lw_okq (⟨"RoundBounds", "lengthOfRow", "()J"⟩, 8) := ⟨⟨by decide +kernel, by decide +kernel⟩, List.mem_of_getElem? (i := 19) (by decide +kernel), List.mem_of_getElem? (i := 470) (by decide +kernel), List.mem_of_getElem? (i := 471) (by decide +kernel)⟩
theorem lw_p35 : lw_okq (⟨"java/lang/Throwable", "fillInStackTrace", "(I)Ljava/lang/Throwable;"⟩, 6) := ⟨⟨by decide +kernel, by decide +kernel⟩, List.mem_of_getElem? (i := 524) (by decide +kernel), List.mem_of_getElem? (i := 522) (by decide +kernel), List.mem_of_getElem? (i := 523) (by decide +kernel)⟩
theorem lw_p36 : lw_okq (⟨"RoundBoundsModel", "isPlace", "(I)Z"⟩, 17) := ⟨⟨by decide +kernel, by decide +kernel⟩, List.mem_of_getElem? (i := 593) (by decide +kernel), List.mem_of_getElem? (i := 660) (by decide +kernel), List.mem_of_getElem? (i := 661) (by decide +kernel)⟩
theorem lw_p37 : lw_okq (⟨"RoundBoundsModel", "grow", "(I)J"⟩, 17) := ⟨⟨by decide +kernel, by decide +kernel⟩, List.mem_of_getElem? (i := 593) (by decide +kernel), List.mem_of_getElem? (i := 669) (by decide +kernel), List.mem_of_getElem? (i := 670) (by decide +kernel)⟩
theorem lw_p38 : lw_okq (⟨"RoundBoundsModel", "link", "()Z"⟩, 17) := ⟨⟨by decide +kernel, by decide +kernel⟩, List.mem_of_getElem? (i := 593) (by decide +kernel), List.mem_of_getElem? (i := 674) (by decide +kernel), List.mem_of_getElem? (i := 675) (by decide +kernel)⟩
theorem lw_p39 : lw_okq (⟨"RoundBoundsModel", "length", "(II)J"⟩, 17) := ⟨⟨by decide +kernel, by decide +kernel⟩, List.mem_of_getElem? (i := 593) (by decide +kernel), List.mem_of_getElem? (i := 678) (by decide +kernel), List.mem_of_getElem? (i := 679) (by decide +kernel)⟩
theorem lw_p40 : lw_okq (⟨"RoundBoundsModel", "way", "(II)J"⟩, 17) := ⟨⟨by decide +kernel, by decide +kernel⟩, List.mem_of_getElem? (i := 593) (by decide +kernel), List.mem_of_getElem? (i := 682) (by decide +kernel), List.mem_of_getElem? (i := 683) (by decide +kernel)⟩
theorem lw_p41 : lw_okq (⟨"RoundBoundsModel", "isBefore", "(IIII)Z"⟩, 17) := ⟨⟨by decide +kernel, by decide +kernel⟩, List.mem_of_getElem? (i := 593) (by decide +kernel), List.mem_of_getElem? (i := 686) (by decide +kernel), List.mem_of_getElem? (i := 687) (by decide +kernel)⟩
theorem lw_p42 : lw_okq (⟨"RoundBoundsModel", "price", "(II)J"⟩, 17) := ⟨⟨by decide +kernel, by decide +kernel⟩, List.mem_of_getElem? (i := 593) (by decide +kernel), List.mem_of_getElem? (i := 690) (by decide +kernel), List.mem_of_getElem? (i := 691) (by decide +kernel)⟩
theorem lw_p43 : lw_okq (⟨"RoundBoundsModel", "take", "(II)V"⟩, 17) := ⟨⟨by decide +kernel, by decide +kernel⟩, List.mem_of_getElem? (i := 593) (by decide +kernel), List.mem_of_getElem? (i := 695) (by decide +kernel), List.mem_of_getElem? (i := 696) (by decide +kernel)⟩
theorem lw_p44 : lw_okq (⟨"RoundBoundsModel", "assignNow", "()J"⟩, 17) := ⟨⟨by decide +kernel, by decide +kernel⟩, List.mem_of_getElem? (i := 593) (by decide +kernel), List.mem_of_getElem? (i := 711) (by decide +kernel), List.mem_of_getElem? (i := 712) (by decide +kernel)⟩
theorem lw_p45 : lw_okq (⟨"RoundBoundsModel", "shorten", "(Z)Z"⟩, 17) := ⟨⟨by decide +kernel, by decide +kernel⟩, List.mem_of_getElem? (i := 593) (by decide +kernel), List.mem_of_getElem? (i := 723) (by decide +kernel), List.mem_of_getElem? (i := 724) (by decide +kernel)⟩
theorem lw_p46 : lw_okq (⟨"RoundBoundsModel", "has", "(IZ)Z"⟩, 17) := ⟨⟨by decide +kernel, by decide +kernel⟩, List.mem_of_getElem? (i := 593) (by decide +kernel), List.mem_of_getElem? (i := 727) (by decide +kernel), List.mem_of_getElem? (i := 728) (by decide +kernel)⟩
theorem lw_p47 : lw_okq (⟨"RoundBoundsModel", "one", "()J"⟩, 17) := ⟨⟨by decide +kernel, by decide +kernel⟩, List.mem_of_getElem? (i := 593) (by decide +kernel), List.mem_of_getElem? (i := 731) (by decide +kernel), List.mem_of_getElem? (i := 732) (by decide +kernel)⟩
def lw_privs_3 : List (MethodName × Nat) := [(⟨"RoundBounds$StreetPost", "keepPairs", "()V"⟩, 7), (⟨"RoundBounds", "pickRow", "(I)V"⟩, 8), (⟨"RoundBounds", "lengthOfRow", "()J"⟩, 8), (⟨"java/lang/Throwable", "fillInStackTrace", "(I)Ljava/lang/Throwable;"⟩, 6), (⟨"RoundBoundsModel", "isPlace", "(I)Z"⟩, 17), (⟨"RoundBoundsModel", "grow", "(I)J"⟩, 17), (⟨"RoundBoundsModel", "link", "()Z"⟩, 17), (⟨"RoundBoundsModel", "length", "(II)J"⟩, 17), (⟨"RoundBoundsModel", "way", "(II)J"⟩, 17), (⟨"RoundBoundsModel", "isBefore", "(IIII)Z"⟩, 17), (⟨"RoundBoundsModel", "price", "(II)J"⟩, 17), (⟨"RoundBoundsModel", "take", "(II)V"⟩, 17), (⟨"RoundBoundsModel", "assignNow", "()J"⟩, 17), (⟨"RoundBoundsModel", "shorten", "(Z)Z"⟩, 17), (⟨"RoundBoundsModel", "has", "(IZ)Z"⟩, 17), (⟨"RoundBoundsModel", "one", "()J"⟩, 17)]
theorem lw_r3 : ∀ q ∈ lw_privs_3, lw_okq q := List.forall_mem_cons.mpr ⟨lw_p32, List.forall_mem_cons.mpr ⟨lw_p33, List.forall_mem_cons.mpr ⟨lw_p34, List.forall_mem_cons.mpr ⟨lw_p35, List.forall_mem_cons.mpr ⟨lw_p36, List.forall_mem_cons.mpr ⟨lw_p37, List.forall_mem_cons.mpr ⟨lw_p38, List.forall_mem_cons.mpr ⟨lw_p39, List.forall_mem_cons.mpr ⟨lw_p40, List.forall_mem_cons.mpr ⟨lw_p41, List.forall_mem_cons.mpr ⟨lw_p42, List.forall_mem_cons.mpr ⟨lw_p43, List.forall_mem_cons.mpr ⟨lw_p44, List.forall_mem_cons.mpr ⟨lw_p45, List.forall_mem_cons.mpr ⟨lw_p46, List.forall_mem_cons.mpr ⟨lw_p47, fun _ h => absurd h List.not_mem_nil⟩⟩⟩⟩⟩⟩⟩⟩⟩⟩⟩⟩⟩⟩⟩⟩
theorem lw_p48 : lw_okq (⟨"RoundBoundsModel", "cheaper", "()Z"⟩, 17) := ⟨⟨by decide +kernel, by decide +kernel⟩, List.mem_of_getElem? (i := 593) (by decide +kernel), List.mem_of_getElem? (i := 735) (by decide +kernel), List.mem_of_getElem? (i := 736) (by decide +kernel)⟩
theorem lw_p49 : lw_okq (⟨"RoundBoundsModel", "step", "(II)J"⟩, 17) := ⟨⟨by decide +kernel, by decide +kernel⟩, List.mem_of_getElem? (i := 593) (by decide +kernel), List.mem_of_getElem? (i := 739) (by decide +kernel), List.mem_of_getElem? (i := 740) (by decide +kernel)⟩
theorem lw_p50 : lw_okq (⟨"RoundBoundsModel", "sends", "(I)Z"⟩, 17) := ⟨⟨by decide +kernel, by decide +kernel⟩, List.mem_of_getElem? (i := 593) (by decide +kernel), List.mem_of_getElem? (i := 743) (by decide +kernel), List.mem_of_getElem? (i := 744) (by decide +kernel)⟩
theorem lw_p51 : lw_okq (⟨"RoundBoundsModel", "gets", "(I)Z"⟩, 17) := ⟨⟨by decide +kernel, by decide +kernel⟩, List.mem_of_getElem? (i := 593) (by decide +kernel), List.mem_of_getElem? (i := 747) (by decide +kernel), List.mem_of_getElem? (i := 748) (by decide +kernel)⟩
theorem lw_p52 : lw_okq (⟨"RoundBoundsModel", "both", "()J"⟩, 17) := ⟨⟨by decide +kernel, by decide +kernel⟩, List.mem_of_getElem? (i := 593) (by decide +kernel), List.mem_of_getElem? (i := 751) (by decide +kernel), List.mem_of_getElem? (i := 752) (by decide +kernel)⟩
theorem lw_p53 : lw_okq (⟨"RoundBoundsModel", "least", "(I)I"⟩, 17) := ⟨⟨by decide +kernel, by decide +kernel⟩, List.mem_of_getElem? (i := 593) (by decide +kernel), List.mem_of_getElem? (i := 755) (by decide +kernel), List.mem_of_getElem? (i := 756) (by decide +kernel)⟩
theorem lw_p54 : lw_okq (⟨"RoundBoundsModel", "greatestNow", "()J"⟩, 17) := ⟨⟨by decide +kernel, by decide +kernel⟩, List.mem_of_getElem? (i := 593) (by decide +kernel), List.mem_of_getElem? (i := 767) (by decide +kernel), List.mem_of_getElem? (i := 768) (by decide +kernel)⟩
def lw_privs_4 : List (MethodName × Nat) := [(⟨"RoundBoundsModel", "cheaper", "()Z"⟩, 17), (⟨"RoundBoundsModel", "step", "(II)J"⟩, 17), (⟨"RoundBoundsModel", "sends", "(I)Z"⟩, 17), (⟨"RoundBoundsModel", "gets", "(I)Z"⟩, 17), (⟨"RoundBoundsModel", "both", "()J"⟩, 17), (⟨"RoundBoundsModel", "least", "(I)I"⟩, 17), (⟨"RoundBoundsModel", "greatestNow", "()J"⟩, 17)]
theorem lw_r4 : ∀ q ∈ lw_privs_4, lw_okq q := List.forall_mem_cons.mpr ⟨lw_p48, List.forall_mem_cons.mpr ⟨lw_p49, List.forall_mem_cons.mpr ⟨lw_p50, List.forall_mem_cons.mpr ⟨lw_p51, List.forall_mem_cons.mpr ⟨lw_p52, List.forall_mem_cons.mpr ⟨lw_p53, List.forall_mem_cons.mpr ⟨lw_p54, fun _ h => absurd h List.not_mem_nil⟩⟩⟩⟩⟩⟩⟩
def lw_privs : List (MethodName × Nat) := lw_privs_1 ++ (lw_privs_2 ++ (lw_privs_3 ++ (lw_privs_4)))
def lw_tbl : List Cond := k2_sels lw_privs ++ tables_1
theorem lw_privs_ok : ∀ q ∈ lw_privs, lw_okq q := by
  show ∀ q ∈ lw_privs_1 ++ (lw_privs_2 ++ (lw_privs_3 ++ (lw_privs_4))), lw_okq q
  exact List.forall_mem_append.mpr ⟨lw_r1, List.forall_mem_append.mpr ⟨lw_r2, List.forall_mem_append.mpr ⟨lw_r3, lw_r4⟩⟩⟩
-- ===== end of PART A; then your names; then what follows =====
end
section
/-! ===== BEGIN words of one list among another's, by their places ===== -/
theorem goodIn_r {big : List Cond} (ws : List Cond) (ps : List Nat) (hp : ws = ps.filterMap (fun i => big[i]?)) (h : ws.all goodWord = true) : GoodIn big ws := by
  intro w hw
  have h1 := List.all_eq_true.mp h w hw
  rw [hp] at hw
  obtain ⟨i, -, hi⟩ := List.mem_filterMap.mp hw
  have hm : w ∈ big := by first | exact List.mem_of_getElem? hi | exact List.getElem?_mem hi
  exact ⟨hm, good_of_word h1⟩
theorem goodIn_app {big a b : List Cond} (ha : GoodIn big a) (hb : GoodIn big b) : GoodIn big (a ++ b) := fun w h => (List.mem_append.mp h).elim (ha w) (hb w)
theorem goodIn_ca {big a b : List Cond} {c : Cond} (ha : GoodIn big (c :: a)) (hb : GoodIn big b) : GoodIn big (c :: (a ++ b)) := fun w h => (List.mem_cons.mp h).elim (fun e => ha w (List.mem_cons.mpr (Or.inl e))) (fun h => (List.mem_append.mp h).elim (fun h => ha w (List.mem_cons.mpr (Or.inr h))) (hb w))
theorem goodIn_sub {big ws : List Cond} (hm : ∀ w ∈ ws, w ∈ big) (h : ws.all goodWord = true) : GoodIn big ws := fun w hw => ⟨hm w hw, good_of_word (List.all_eq_true.mp h w hw)⟩
/-! ===== END ===== -/
end
section
/-! ===== BEGIN printed: names, fields, word lists, decode rows ===== -/
def RX0 : String := "RoundBounds$Assignment"
def TX0 : u_T := fun k => match k with
  | 0 => ("RoundBounds$Assignment", "net", "LRoundBounds$Net;", true)
  | 1 => ("RoundBounds$Assignment", "rowPotential", "[J", true)
  | 2 => ("RoundBounds$Assignment", "columnPotential", "[J", true)
  | 3 => ("RoundBounds$Assignment", "slack", "[J", true)
  | 4 => ("RoundBounds$Assignment", "rowOf", "[I", true)
  | 5 => ("RoundBounds$Assignment", "columnBefore", "[I", true)
  | _ => ("RoundBounds$Assignment", "done", "[Z", true)
def tyX0 : Nat → FieldType := fun k => match k with
  | 0 => .object "RoundBounds$Net"
  | 1 => .array .long
  | 2 => .array .long
  | 3 => .array .long
  | 4 => .array .int
  | 5 => .array .int
  | _ => .array .boolean
abbrev wsX00 : List Cond := u_ws RX0 TX0 7
theorem nmX0 : ∀ a, a < 7 → ∀ b, b < 7 → a ≠ b → (TX0 a).2.1 ≠ (TX0 b).2.1 := by decide +kernel
theorem tyX0_ok : ∀ k, k < 7 → parseFieldDescriptor (TX0 k).2.2.1 = some (tyX0 k) := by decide +kernel
abbrev cX0_init : ByteArray := prog_2_method_1_code
def yX0_init : MethodName := ⟨RX0, "<init>", "(LRoundBounds$Net;)V"⟩
abbrev cX0_leastSum : ByteArray := prog_2_method_2_code
def yX0_leastSum : MethodName := ⟨RX0, "leastSum", "()J"⟩
abbrev cX0_findFreeColumn : ByteArray := prog_2_method_3_code
def yX0_findFreeColumn : MethodName := ⟨RX0, "findFreeColumn", "()I"⟩
abbrev cX0_lowerSlackFrom : ByteArray := prog_2_method_4_code
def yX0_lowerSlackFrom : MethodName := ⟨RX0, "lowerSlackFrom", "(I)V"⟩
abbrev cX0_nearestColumn : ByteArray := prog_2_method_5_code
def yX0_nearestColumn : MethodName := ⟨RX0, "nearestColumn", "()I"⟩
abbrev cX0_shiftPotentials : ByteArray := prog_2_method_6_code
def yX0_shiftPotentials : MethodName := ⟨RX0, "shiftPotentials", "(J)V"⟩
abbrev cX0_changeAlong : ByteArray := prog_2_method_7_code
def yX0_changeAlong : MethodName := ⟨RX0, "changeAlong", "(I)V"⟩
abbrev cX0_sumOfChosen : ByteArray := prog_2_method_8_code
def yX0_sumOfChosen : MethodName := ⟨RX0, "sumOfChosen", "()J"⟩
abbrev cX0_cost : ByteArray := prog_2_method_9_code
def yX0_cost : MethodName := ⟨RX0, "cost", "(II)J"⟩
def RX1 : String := "RoundBounds$LeastCut"
def TX1 : u_T := fun k => match k with
  | 0 => ("RoundBounds$LeastCut", "net", "LRoundBounds$Net;", true)
  | 1 => ("RoundBounds$LeastCut", "room", "[[I", true)
  | 2 => ("RoundBounds$LeastCut", "queue", "[I", true)
  | _ => ("RoundBounds$LeastCut", "before", "[I", true)
def tyX1 : Nat → FieldType := fun k => match k with
  | 0 => .object "RoundBounds$Net"
  | 1 => .array (.array .int)
  | 2 => .array .int
  | _ => .array .int
abbrev wsX10 : List Cond := u_ws RX1 TX1 4
theorem nmX1 : ∀ a, a < 4 → ∀ b, b < 4 → a ≠ b → (TX1 a).2.1 ≠ (TX1 b).2.1 := by decide +kernel
theorem tyX1_ok : ∀ k, k < 4 → parseFieldDescriptor (TX1 k).2.2.1 = some (tyX1 k) := by decide +kernel
abbrev cX1_init : ByteArray := prog_3_method_1_code
def yX1_init : MethodName := ⟨RX1, "<init>", "(LRoundBounds$Net;)V"⟩
abbrev cX1_width : ByteArray := prog_3_method_2_code
def yX1_width : MethodName := ⟨RX1, "width", "(II)J"⟩
abbrev cX1_findChain : ByteArray := prog_3_method_3_code
def yX1_findChain : MethodName := ⟨RX1, "findChain", "(II)Z"⟩
abbrev cX1_fillChain : ByteArray := prog_3_method_4_code
def yX1_fillChain : MethodName := ⟨RX1, "fillChain", "(II)I"⟩
def RX2 : String := "RoundBounds$LinkedTrees"
def TX2 : u_T := fun k => match k with
  | 0 => ("RoundBounds$LinkedTrees", "net", "LRoundBounds$Net;", true)
  | 1 => ("RoundBounds$LinkedTrees", "weights", "[I", true)
  | 2 => ("RoundBounds$LinkedTrees", "degrees", "[I", true)
  | 3 => ("RoundBounds$LinkedTrees", "pieces", "[I", true)
  | 4 => ("RoundBounds$LinkedTrees", "worth", "J", false)
  | _ => ("RoundBounds$LinkedTrees", "bestRound", "I", false)
def tyX2 : Nat → FieldType := fun k => match k with
  | 0 => .object "RoundBounds$Net"
  | 1 => .array .int
  | 2 => .array .int
  | 3 => .array .int
  | 4 => .long
  | _ => .int
abbrev wsX20 : List Cond := u_ws RX2 TX2 6
theorem nmX2 : ∀ a, a < 6 → ∀ b, b < 6 → a ≠ b → (TX2 a).2.1 ≠ (TX2 b).2.1 := by decide +kernel
theorem tyX2_ok : ∀ k, k < 6 → parseFieldDescriptor (TX2 k).2.2.1 = some (tyX2 k) := by decide +kernel
abbrev cX2_init : ByteArray := prog_4_method_1_code
def yX2_init : MethodName := ⟨RX2, "<init>", "(LRoundBounds$Net;)V"⟩
abbrev cX2_bound : ByteArray := prog_4_method_2_code
def yX2_bound : MethodName := ⟨RX2, "bound", "(I)J"⟩
abbrev cX2_stepOf : ByteArray := prog_4_method_3_code
def yX2_stepOf : MethodName := ⟨RX2, "stepOf", "(I)I"⟩
abbrev cX2_moveWeights : ByteArray := prog_4_method_4_code
def yX2_moveWeights : MethodName := ⟨RX2, "moveWeights", "(I)V"⟩
abbrev cX2_makeTree : ByteArray := prog_4_method_5_code
def yX2_makeTree : MethodName := ⟨RX2, "makeTree", "()Z"⟩
abbrev cX2_joinTwoPieces : ByteArray := prog_4_method_6_code
def yX2_joinTwoPieces : MethodName := ⟨RX2, "joinTwoPieces", "()Z"⟩
abbrev cX2_uniteWith : ByteArray := prog_4_method_7_code
def yX2_uniteWith : MethodName := ⟨RX2, "uniteWith", "(II)V"⟩
abbrev cX2_cheapestFromPlace0 : ByteArray := prog_4_method_8_code
def yX2_cheapestFromPlace0 : MethodName := ⟨RX2, "cheapestFromPlace0", "(I)I"⟩
abbrev cX2_take : ByteArray := prog_4_method_9_code
def yX2_take : MethodName := ⟨RX2, "take", "(II)V"⟩
abbrev cX2_price : ByteArray := prog_4_method_10_code
def yX2_price : MethodName := ⟨RX2, "price", "(II)J"⟩
def RX3 : String := "RoundBounds$Net"
def TX3 : u_T := fun k => match k with
  | 0 => ("RoundBounds$Net", "n", "I", true)
  | 1 => ("RoundBounds$Net", "ways", "[[I", true)
  | _ => ("RoundBounds$Net", "streets", "[[I", true)
def tyX3 : Nat → FieldType := fun k => match k with
  | 0 => .int
  | 1 => .array (.array .int)
  | _ => .array (.array .int)
abbrev wsX30 : List Cond := u_ws RX3 TX3 3
theorem nmX3 : ∀ a, a < 3 → ∀ b, b < 3 → a ≠ b → (TX3 a).2.1 ≠ (TX3 b).2.1 := by decide +kernel
theorem tyX3_ok : ∀ k, k < 3 → parseFieldDescriptor (TX3 k).2.2.1 = some (tyX3 k) := by decide +kernel
abbrev cX3_init : ByteArray := prog_5_method_1_code
def yX3_init : MethodName := ⟨RX3, "<init>", "(I)V"⟩
abbrev cX3_has : ByteArray := prog_5_method_2_code
def yX3_has : MethodName := ⟨RX3, "has", "(I)Z"⟩
abbrev cX3_tell : ByteArray := prog_5_method_3_code
def yX3_tell : MethodName := ⟨RX3, "tell", "(III)V"⟩
abbrev cX3_shorter : ByteArray := prog_5_method_4_code
def yX3_shorter : MethodName := ⟨RX3, "shorter", "(II)I"⟩
abbrev cX3_streetsHangTogether : ByteArray := prog_5_method_5_code
def yX3_streetsHangTogether : MethodName := ⟨RX3, "streetsHangTogether", "()Z"⟩
abbrev cX3_waysLeadFromEachToEach : ByteArray := prog_5_method_6_code
def yX3_waysLeadFromEachToEach : MethodName := ⟨RX3, "waysLeadFromEachToEach", "()Z"⟩
abbrev cX3_placesWithStreets : ByteArray := prog_5_method_7_code
def yX3_placesWithStreets : MethodName := ⟨RX3, "placesWithStreets", "()I"⟩
abbrev cX3_reached : ByteArray := prog_5_method_8_code
def yX3_reached : MethodName := ⟨RX3, "reached", "([[IIZ)I"⟩
abbrev cX3_spread : ByteArray := prog_5_method_9_code
def yX3_spread : MethodName := ⟨RX3, "spread", "([[IIZ)I"⟩
def RX4 : String := "RoundBounds$StreetPost"
def TX4 : u_T := fun k => match k with
  | 0 => ("RoundBounds$StreetPost", "net", "LRoundBounds$Net;", true)
  | 1 => ("RoundBounds$StreetPost", "shortest", "[[I", true)
  | 2 => ("RoundBounds$StreetPost", "odd", "[I", true)
  | 3 => ("RoundBounds$StreetPost", "oddCount", "I", false)
  | 4 => ("RoundBounds$StreetPost", "leastSums", "[I", true)
  | 5 => ("RoundBounds$StreetPost", "pairs", "[I", true)
  | _ => ("RoundBounds$StreetPost", "pairCount", "I", false)
def tyX4 : Nat → FieldType := fun k => match k with
  | 0 => .object "RoundBounds$Net"
  | 1 => .array (.array .int)
  | 2 => .array .int
  | 3 => .int
  | 4 => .array .int
  | 5 => .array .int
  | _ => .int
abbrev wsX40 : List Cond := u_ws RX4 TX4 7
theorem nmX4 : ∀ a, a < 7 → ∀ b, b < 7 → a ≠ b → (TX4 a).2.1 ≠ (TX4 b).2.1 := by decide +kernel
theorem tyX4_ok : ∀ k, k < 7 → parseFieldDescriptor (TX4 k).2.2.1 = some (tyX4 k) := by decide +kernel
abbrev cX4_init : ByteArray := prog_6_method_1_code
def yX4_init : MethodName := ⟨RX4, "<init>", "(LRoundBounds$Net;)V"⟩
abbrev cX4_member : ByteArray := prog_6_method_2_code
def yX4_member : MethodName := ⟨RX4, "member", "(II)I"⟩
abbrev cX4_leastWay : ByteArray := prog_6_method_3_code
def yX4_leastWay : MethodName := ⟨RX4, "leastWay", "()J"⟩
abbrev cX4_sumOfStreets : ByteArray := prog_6_method_4_code
def yX4_sumOfStreets : MethodName := ⟨RX4, "sumOfStreets", "()J"⟩
abbrev cX4_findOddPlaces : ByteArray := prog_6_method_5_code
def yX4_findOddPlaces : MethodName := ⟨RX4, "findOddPlaces", "()V"⟩
abbrev cX4_findShortest : ByteArray := prog_6_method_6_code
def yX4_findShortest : MethodName := ⟨RX4, "findShortest", "()V"⟩
abbrev cX4_everyOdd : ByteArray := prog_6_method_7_code
def yX4_everyOdd : MethodName := ⟨RX4, "everyOdd", "()I"⟩
abbrev cX4_findLeastSums : ByteArray := prog_6_method_8_code
def yX4_findLeastSums : MethodName := ⟨RX4, "findLeastSums", "()V"⟩
abbrev cX4_bestPartner : ByteArray := prog_6_method_9_code
def yX4_bestPartner : MethodName := ⟨RX4, "bestPartner", "(I)I"⟩
abbrev cX4_sumWith : ByteArray := prog_6_method_10_code
def yX4_sumWith : MethodName := ⟨RX4, "sumWith", "(II)I"⟩
abbrev cX4_firstOf : ByteArray := prog_6_method_11_code
def yX4_firstOf : MethodName := ⟨RX4, "firstOf", "(I)I"⟩
abbrev cX4_without : ByteArray := prog_6_method_12_code
def yX4_without : MethodName := ⟨RX4, "without", "(II)I"⟩
abbrev cX4_keepPairs : ByteArray := prog_6_method_13_code
def yX4_keepPairs : MethodName := ⟨RX4, "keepPairs", "()V"⟩
def RX5 : String := "RoundBounds$WayPost"
def TX5 : u_T := fun k => match k with
  | 0 => ("RoundBounds$WayPost", "net", "LRoundBounds$Net;", true)
  | 1 => ("RoundBounds$WayPost", "again", "[[I", true)
  | 2 => ("RoundBounds$WayPost", "surplus", "[I", true)
  | 3 => ("RoundBounds$WayPost", "costs", "[J", true)
  | _ => ("RoundBounds$WayPost", "before", "[I", true)
def tyX5 : Nat → FieldType := fun k => match k with
  | 0 => .object "RoundBounds$Net"
  | 1 => .array (.array .int)
  | 2 => .array .int
  | 3 => .array .long
  | _ => .array .int
abbrev wsX50 : List Cond := u_ws RX5 TX5 5
theorem nmX5 : ∀ a, a < 5 → ∀ b, b < 5 → a ≠ b → (TX5 a).2.1 ≠ (TX5 b).2.1 := by decide +kernel
theorem tyX5_ok : ∀ k, k < 5 → parseFieldDescriptor (TX5 k).2.2.1 = some (tyX5 k) := by decide +kernel
abbrev cX5_init : ByteArray := prog_7_method_1_code
def yX5_init : MethodName := ⟨RX5, "<init>", "(LRoundBounds$Net;)V"⟩
abbrev cX5_leastWay : ByteArray := prog_7_method_2_code
def yX5_leastWay : MethodName := ⟨RX5, "leastWay", "()J"⟩
abbrev cX5_goEachOnce : ByteArray := prog_7_method_3_code
def yX5_goEachOnce : MethodName := ⟨RX5, "goEachOnce", "()J"⟩
abbrev cX5_findCosts : ByteArray := prog_7_method_4_code
def yX5_findCosts : MethodName := ⟨RX5, "findCosts", "()V"⟩
abbrev cX5_lowerCosts : ByteArray := prog_7_method_5_code
def yX5_lowerCosts : MethodName := ⟨RX5, "lowerCosts", "()Z"⟩
abbrev cX5_costOfStep : ByteArray := prog_7_method_6_code
def yX5_costOfStep : MethodName := ⟨RX5, "costOfStep", "(II)J"⟩
abbrev cX5_cheapestEnd : ByteArray := prog_7_method_7_code
def yX5_cheapestEnd : MethodName := ⟨RX5, "cheapestEnd", "()I"⟩
abbrev cX5_goTo : ByteArray := prog_7_method_8_code
def yX5_goTo : MethodName := ⟨RX5, "goTo", "(I)V"⟩
def RX6 : String := "RoundBounds"
def TX6 : u_T := fun k => match k with
  | 0 => ("RoundBounds", "net", "LRoundBounds$Net;", true)
  | 1 => ("RoundBounds", "trees", "LRoundBounds$LinkedTrees;", true)
  | 2 => ("RoundBounds", "assignment", "LRoundBounds$Assignment;", true)
  | 3 => ("RoundBounds", "leastCut", "LRoundBounds$LeastCut;", true)
  | 4 => ("RoundBounds", "streetPost", "LRoundBounds$StreetPost;", true)
  | 5 => ("RoundBounds", "wayPost", "LRoundBounds$WayPost;", true)
  | 6 => ("RoundBounds", "row", "[I", true)
  | _ => ("RoundBounds", "roundOfBest", "I", false)
def tyX6 : Nat → FieldType := fun k => match k with
  | 0 => .object "RoundBounds$Net"
  | 1 => .object "RoundBounds$LinkedTrees"
  | 2 => .object "RoundBounds$Assignment"
  | 3 => .object "RoundBounds$LeastCut"
  | 4 => .object "RoundBounds$StreetPost"
  | 5 => .object "RoundBounds$WayPost"
  | 6 => .array .int
  | _ => .int
abbrev wsX60 : List Cond := u_ws RX6 TX6 8
theorem nmX6 : ∀ a, a < 8 → ∀ b, b < 8 → a ≠ b → (TX6 a).2.1 ≠ (TX6 b).2.1 := by decide +kernel
theorem tyX6_ok : ∀ k, k < 8 → parseFieldDescriptor (TX6 k).2.2.1 = some (tyX6 k) := by decide +kernel
abbrev cX6_init : ByteArray := prog_1_method_1_code
def yX6_init : MethodName := ⟨RX6, "<init>", "(I)V"⟩
abbrev cX6_way : ByteArray := prog_1_method_2_code
def yX6_way : MethodName := ⟨RX6, "way", "(IIJ)V"⟩
abbrev cX6_tree : ByteArray := prog_1_method_3_code
def yX6_tree : MethodName := ⟨RX6, "tree", "(I)J"⟩
abbrev cX6_rounds : ByteArray := prog_1_method_4_code
def yX6_rounds : MethodName := ⟨RX6, "rounds", "()I"⟩
abbrev cX6_assign : ByteArray := prog_1_method_5_code
def yX6_assign : MethodName := ⟨RX6, "assign", "()J"⟩
abbrev cX6_cut : ByteArray := prog_1_method_6_code
def yX6_cut : MethodName := ⟨RX6, "cut", "(II)J"⟩
abbrev cX6_postman : ByteArray := prog_1_method_7_code
def yX6_postman : MethodName := ⟨RX6, "postman", "(Z)J"⟩
abbrev cX6_pair : ByteArray := prog_1_method_8_code
def yX6_pair : MethodName := ⟨RX6, "pair", "(II)I"⟩
abbrev cX6_greatest : ByteArray := prog_1_method_9_code
def yX6_greatest : MethodName := ⟨RX6, "greatest", "()J"⟩
abbrev cX6_linear : ByteArray := prog_1_method_10_code
def yX6_linear : MethodName := ⟨RX6, "linear", "(I)J"⟩
abbrev cX6_certificate : ByteArray := prog_1_method_11_code
def yX6_certificate : MethodName := ⟨RX6, "certificate", "(I)Z"⟩
abbrev cX6_pickRow : ByteArray := prog_1_method_12_code
def yX6_pickRow : MethodName := ⟨RX6, "pickRow", "(I)V"⟩
abbrev cX6_lengthOfRow : ByteArray := prog_1_method_13_code
def yX6_lengthOfRow : MethodName := ⟨RX6, "lengthOfRow", "()J"⟩
def RX7 : String := "RoundBoundsModel"
def TX7 : u_T := fun k => match k with
  | 0 => ("RoundBoundsModel", "thrown", "I", false)
  | 1 => ("RoundBoundsModel", "n", "I", true)
  | 2 => ("RoundBoundsModel", "ways", "[J", true)
  | 3 => ("RoundBoundsModel", "bestRound", "I", false)
  | 4 => ("RoundBoundsModel", "pairs", "I", false)
  | 5 => ("RoundBoundsModel", "paired", "[I", true)
  | 6 => ("RoundBoundsModel", "weights", "[J", true)
  | 7 => ("RoundBoundsModel", "degrees", "[I", true)
  | 8 => ("RoundBoundsModel", "in", "[Z", true)
  | 9 => ("RoundBoundsModel", "worth", "J", false)
  | 10 => ("RoundBoundsModel", "sets", "[J", true)
  | 11 => ("RoundBoundsModel", "shortest", "[J", true)
  | 12 => ("RoundBoundsModel", "sent", "[I", true)
  | 13 => ("RoundBoundsModel", "spare", "[I", true)
  | 14 => ("RoundBoundsModel", "row", "[I", true)
  | 15 => ("RoundBoundsModel", "reach", "[J", true)
  | _ => ("RoundBoundsModel", "by", "[I", true)
def tyX7 : Nat → FieldType := fun k => match k with
  | 0 => .int
  | 1 => .int
  | 2 => .array .long
  | 3 => .int
  | 4 => .int
  | 5 => .array .int
  | 6 => .array .long
  | 7 => .array .int
  | 8 => .array .boolean
  | 9 => .long
  | 10 => .array .long
  | 11 => .array .long
  | 12 => .array .int
  | 13 => .array .int
  | 14 => .array .int
  | 15 => .array .long
  | _ => .array .int
abbrev wsX70 : List Cond := u_ws RX7 TX7 17
theorem nmX7 : ∀ a, a < 17 → ∀ b, b < 17 → a ≠ b → (TX7 a).2.1 ≠ (TX7 b).2.1 := by decide +kernel
theorem tyX7_ok : ∀ k, k < 17 → parseFieldDescriptor (TX7 k).2.2.1 = some (tyX7 k) := by decide +kernel
abbrev cX7_init : ByteArray := prog_9_method_1_code
def yX7_init : MethodName := ⟨RX7, "<init>", "(I)V"⟩
abbrev cX7_thrown : ByteArray := prog_9_method_2_code
def yX7_thrown : MethodName := ⟨RX7, "thrown", "()I"⟩
abbrev cX7_isPlace : ByteArray := prog_9_method_3_code
def yX7_isPlace : MethodName := ⟨RX7, "isPlace", "(I)Z"⟩
abbrev cX7_way : ByteArray := prog_9_method_4_code
def yX7_way : MethodName := ⟨RX7, "way", "(IIJ)V"⟩
abbrev cX7_way_ : ByteArray := prog_9_method_5_code
def yX7_way_ : MethodName := ⟨RX7, "way", "(II)J"⟩
abbrev cX7_length : ByteArray := prog_9_method_6_code
def yX7_length : MethodName := ⟨RX7, "length", "(II)J"⟩
abbrev cX7_price : ByteArray := prog_9_method_7_code
def yX7_price : MethodName := ⟨RX7, "price", "(II)J"⟩
abbrev cX7_isBefore : ByteArray := prog_9_method_8_code
def yX7_isBefore : MethodName := ⟨RX7, "isBefore", "(IIII)Z"⟩
abbrev cX7_take : ByteArray := prog_9_method_9_code
def yX7_take : MethodName := ⟨RX7, "take", "(II)V"⟩
abbrev cX7_link : ByteArray := prog_9_method_10_code
def yX7_link : MethodName := ⟨RX7, "link", "()Z"⟩
abbrev cX7_grow : ByteArray := prog_9_method_11_code
def yX7_grow : MethodName := ⟨RX7, "grow", "(I)J"⟩
abbrev cX7_half : ByteArray := prog_9_method_12_code
def yX7_half : MethodName := ⟨RX7, "half", "(J)J"⟩
abbrev cX7_tree : ByteArray := prog_9_method_13_code
def yX7_tree : MethodName := ⟨RX7, "tree", "(I)J"⟩
abbrev cX7_rounds : ByteArray := prog_9_method_14_code
def yX7_rounds : MethodName := ⟨RX7, "rounds", "()I"⟩
abbrev cX7_assignNow : ByteArray := prog_9_method_15_code
def yX7_assignNow : MethodName := ⟨RX7, "assignNow", "()J"⟩
abbrev cX7_assign : ByteArray := prog_9_method_16_code
def yX7_assign : MethodName := ⟨RX7, "assign", "()J"⟩
abbrev cX7_cut : ByteArray := prog_9_method_17_code
def yX7_cut : MethodName := ⟨RX7, "cut", "(II)J"⟩
abbrev cX7_has : ByteArray := prog_9_method_18_code
def yX7_has : MethodName := ⟨RX7, "has", "(IZ)Z"⟩
abbrev cX7_shorten : ByteArray := prog_9_method_19_code
def yX7_shorten : MethodName := ⟨RX7, "shorten", "(Z)Z"⟩
abbrev cX7_least : ByteArray := prog_9_method_20_code
def yX7_least : MethodName := ⟨RX7, "least", "(I)I"⟩
abbrev cX7_both : ByteArray := prog_9_method_21_code
def yX7_both : MethodName := ⟨RX7, "both", "()J"⟩
abbrev cX7_one : ByteArray := prog_9_method_22_code
def yX7_one : MethodName := ⟨RX7, "one", "()J"⟩
abbrev cX7_sends : ByteArray := prog_9_method_23_code
def yX7_sends : MethodName := ⟨RX7, "sends", "(I)Z"⟩
abbrev cX7_gets : ByteArray := prog_9_method_24_code
def yX7_gets : MethodName := ⟨RX7, "gets", "(I)Z"⟩
abbrev cX7_step : ByteArray := prog_9_method_25_code
def yX7_step : MethodName := ⟨RX7, "step", "(II)J"⟩
abbrev cX7_cheaper : ByteArray := prog_9_method_26_code
def yX7_cheaper : MethodName := ⟨RX7, "cheaper", "()Z"⟩
abbrev cX7_postman : ByteArray := prog_9_method_27_code
def yX7_postman : MethodName := ⟨RX7, "postman", "(Z)J"⟩
abbrev cX7_pair : ByteArray := prog_9_method_28_code
def yX7_pair : MethodName := ⟨RX7, "pair", "(II)I"⟩
abbrev cX7_greatestNow : ByteArray := prog_9_method_29_code
def yX7_greatestNow : MethodName := ⟨RX7, "greatestNow", "()J"⟩
abbrev cX7_greatest : ByteArray := prog_9_method_30_code
def yX7_greatest : MethodName := ⟨RX7, "greatest", "()J"⟩
abbrev cX7_linear : ByteArray := prog_9_method_31_code
def yX7_linear : MethodName := ⟨RX7, "linear", "(I)J"⟩
abbrev cX7_certificate : ByteArray := prog_9_method_32_code
def yX7_certificate : MethodName := ⟨RX7, "certificate", "(I)Z"⟩
def RJx00060 : String := "java/lang/ArrayIndexOutOfBoundsException"
def TJx00060 : u_T := fun k => match k with
  | 0 => ("java/lang/Throwable", "cause", "Ljava/lang/Throwable;", false)
  | 1 => ("java/lang/Throwable", "stackTrace", "[Ljava/lang/StackTraceElement;", false)
  | 2 => ("java/lang/Throwable", "suppressedExceptions", "Ljava/util/List;", false)
  | 3 => ("java/lang/Throwable", "detailMessage", "Ljava/lang/String;", false)
  | 4 => ("java/lang/Throwable", "backtrace", "Ljava/lang/Object;", false)
  | _ => ("java/lang/Throwable", "depth", "I", false)
def tyJx00060 : Nat → FieldType := fun k => match k with
  | 0 => .object "java/lang/Throwable"
  | 1 => .array (.object "java/lang/StackTraceElement")
  | 2 => .object "java/util/List"
  | 3 => .object "java/lang/String"
  | 4 => .object "java/lang/Object"
  | _ => .int
abbrev wsJx000600 : List Cond := u_ws RJx00060 TJx00060 6
theorem nmJx00060 : ∀ a, a < 6 → ∀ b, b < 6 → a ≠ b → (TJx00060 a).2.1 ≠ (TJx00060 b).2.1 := by decide +kernel
theorem tyJx00060_ok : ∀ k, k < 6 → parseFieldDescriptor (TJx00060 k).2.2.1 = some (tyJx00060 k) := by decide +kernel
abbrev cJx00060_init_a7421 : ByteArray := prog_11_method_2_code
def yJx00060_init_a7421 : MethodName := ⟨RJx00060, "<init>", "(Ljava/lang/String;)V"⟩
def RJ6 : String := "java/lang/Integer"
def TJ6 : u_T := fun k => match k with
  | _ => ("", "", "", false)
def tyJ6 : Nat → FieldType := fun k => match k with
  | _ => .int
abbrev wsJ60 : List Cond := u_ws RJ6 TJ6 0
theorem nmJ6 : ∀ a, a < 0 → ∀ b, b < 0 → a ≠ b → (TJ6 a).2.1 ≠ (TJ6 b).2.1 := by decide +kernel
theorem tyJ6_ok : ∀ k, k < 0 → parseFieldDescriptor (TJ6 k).2.2.1 = some (tyJ6 k) := by decide +kernel
abbrev cJ6_numberOfTrailingZeros_0f7a4 : ByteArray := prog_14_method_48_code
def yJ6_numberOfTrailingZeros_0f7a4 : MethodName := ⟨RJ6, "numberOfTrailingZeros", "(I)I"⟩
abbrev cJ6_bitCount_0f7a4 : ByteArray := prog_14_method_49_code
def yJ6_bitCount_0f7a4 : MethodName := ⟨RJ6, "bitCount", "(I)I"⟩
def RJ9 : String := "java/lang/Math"
def TJ9 : u_T := fun k => match k with
  | _ => ("", "", "", false)
def tyJ9 : Nat → FieldType := fun k => match k with
  | _ => .int
abbrev wsJ90 : List Cond := u_ws RJ9 TJ9 0
theorem nmJ9 : ∀ a, a < 0 → ∀ b, b < 0 → a ≠ b → (TJ9 a).2.1 ≠ (TJ9 b).2.1 := by decide +kernel
theorem tyJ9_ok : ∀ k, k < 0 → parseFieldDescriptor (TJ9 k).2.2.1 = some (tyJ9 k) := by decide +kernel
abbrev cJ9_max_7cf53 : ByteArray := prog_15_method_65_code
def yJ9_max_7cf53 : MethodName := ⟨RJ9, "max", "(II)I"⟩
abbrev cJ9_max_f86c9 : ByteArray := prog_15_method_66_code
def yJ9_max_f86c9 : MethodName := ⟨RJ9, "max", "(JJ)J"⟩
abbrev cJ9_min_7cf53 : ByteArray := prog_15_method_69_code
def yJ9_min_7cf53 : MethodName := ⟨RJ9, "min", "(II)I"⟩
def RJ0 : String := "java/lang/String"
def TJ0 : u_T := fun k => match k with
  | _ => ("", "", "", false)
def tyJ0 : Nat → FieldType := fun k => match k with
  | _ => .int
abbrev wsJ00 : List Cond := u_ws RJ0 TJ0 0
theorem nmJ0 : ∀ a, a < 0 → ∀ b, b < 0 → a ≠ b → (TJ0 a).2.1 ≠ (TJ0 b).2.1 := by decide +kernel
theorem tyJ0_ok : ∀ k, k < 0 → parseFieldDescriptor (TJ0 k).2.2.1 = some (tyJ0 k) := by decide +kernel
def RJ7 : String := "java/util/Arrays"
def TJ7 : u_T := fun k => match k with
  | _ => ("", "", "", false)
def tyJ7 : Nat → FieldType := fun k => match k with
  | _ => .int
abbrev wsJ70 : List Cond := u_ws RJ7 TJ7 0
theorem nmJ7 : ∀ a, a < 0 → ∀ b, b < 0 → a ≠ b → (TJ7 a).2.1 ≠ (TJ7 b).2.1 := by decide +kernel
theorem tyJ7_ok : ∀ k, k < 0 → parseFieldDescriptor (TJ7 k).2.2.1 = some (tyJ7 k) := by decide +kernel
abbrev cJ7_fill_d0a16 : ByteArray := prog_19_method_101_code
def yJ7_fill_d0a16 : MethodName := ⟨RJ7, "fill", "([JJ)V"⟩
abbrev cJ7_fill_53178 : ByteArray := prog_19_method_103_code
def yJ7_fill_53178 : MethodName := ⟨RJ7, "fill", "([II)V"⟩
def RL : String := "RoundBoundsLaw"
abbrev cL_cell : ByteArray := method_2_code
def yL_cell : MethodName := ⟨RL, "cell", "([II)I"⟩
abbrev cL_way : ByteArray := method_3_code
def yL_way : MethodName := ⟨RL, "way", "(LRoundBounds;IIJ)I"⟩
abbrev cL_linear : ByteArray := method_4_code
def yL_linear : MethodName := ⟨RL, "linear", "(LRoundBounds;I[J)I"⟩
abbrev cL_law : ByteArray := code
def yL_law : MethodName := ⟨RL, "law", "([I)Z"⟩
def wsX0_init : List Cond := .code yX0_init cX0_init 3 none :: ([.methodLink RX0 3 objectInit, .instanceMethod objectInit, .code objectInit ⟨#[0xb1]⟩ 1 none, .fieldLink RX0 9 "RoundBounds$Assignment" "net" "LRoundBounds$Net;", .arrayClass .long, .fieldLink RX0 21 "RoundBounds$Assignment" "rowPotential" "[J", .fieldLink RX0 25 "RoundBounds$Assignment" "columnPotential" "[J", .fieldLink RX0 28 "RoundBounds$Assignment" "slack" "[J", .arrayClass .int, .fieldLink RX0 31 "RoundBounds$Assignment" "rowOf" "[I", .fieldLink RX0 35 "RoundBounds$Assignment" "columnBefore" "[I", .arrayClass .boolean, .fieldLink RX0 38 "RoundBounds$Assignment" "done" "[Z"] ++ wsX00 ++ wsX30)
def wsJ7_fill_d0a16 : List Cond := .code yJ7_fill_d0a16 cJ7_fill_d0a16 5 none :: ([])
def wsJ7_fill_53178 : List Cond := .code yJ7_fill_53178 cJ7_fill_53178 4 none :: ([])
def wsX0_cost : List Cond := .code yX0_cost cX0_cost 4 (some .long) :: ([.fieldLink RX0 9 "RoundBounds$Assignment" "net" "LRoundBounds$Net;", .constantLong RX0 79 (100000000)] ++ wsX00 ++ wsX30)
def wsX0_lowerSlackFrom : List Cond := .code yX0_lowerSlackFrom cX0_lowerSlackFrom 6 none :: ([.fieldLink RX0 31 "RoundBounds$Assignment" "rowOf" "[I", .fieldLink RX0 9 "RoundBounds$Assignment" "net" "LRoundBounds$Net;", .fieldLink RX0 21 "RoundBounds$Assignment" "rowPotential" "[J", .fieldLink RX0 25 "RoundBounds$Assignment" "columnPotential" "[J", .fieldLink RX0 38 "RoundBounds$Assignment" "done" "[Z", .fieldLink RX0 28 "RoundBounds$Assignment" "slack" "[J", .fieldLink RX0 35 "RoundBounds$Assignment" "columnBefore" "[I", .methodLink RX0 75 yX0_cost, .instanceMethod yX0_cost, .selects RX0 yX0_cost yX0_cost, .initialized RX0, .code yX0_cost cX0_cost 4 (some .long), .constantLong RX0 79 (100000000)] ++ wsX00 ++ wsX30)
def wsX0_nearestColumn : List Cond := .code yX0_nearestColumn cX0_nearestColumn 3 (some .int) :: ([.fieldLink RX0 9 "RoundBounds$Assignment" "net" "LRoundBounds$Net;", .fieldLink RX0 38 "RoundBounds$Assignment" "done" "[Z", .fieldLink RX0 28 "RoundBounds$Assignment" "slack" "[J"] ++ wsX00 ++ wsX30)
def wsX0_shiftPotentials : List Cond := .code yX0_shiftPotentials cX0_shiftPotentials 4 none :: ([.fieldLink RX0 9 "RoundBounds$Assignment" "net" "LRoundBounds$Net;", .fieldLink RX0 38 "RoundBounds$Assignment" "done" "[Z", .fieldLink RX0 21 "RoundBounds$Assignment" "rowPotential" "[J", .fieldLink RX0 31 "RoundBounds$Assignment" "rowOf" "[I", .fieldLink RX0 25 "RoundBounds$Assignment" "columnPotential" "[J", .fieldLink RX0 28 "RoundBounds$Assignment" "slack" "[J"] ++ wsX00 ++ wsX30)
def wsX0_findFreeColumn_r1 : List Cond := [Cond.fieldLink RX0 9 "RoundBounds$Assignment" "net" "LRoundBounds$Net;", Cond.fieldLink RX0 28 "RoundBounds$Assignment" "slack" "[J", Cond.constantLong RX0 63 (1000000000000), Cond.fieldLink RX0 35 "RoundBounds$Assignment" "columnBefore" "[I", Cond.fieldLink RX0 38 "RoundBounds$Assignment" "done" "[Z", Cond.fieldLink RX0 31 "RoundBounds$Assignment" "rowOf" "[I", Cond.methodLink RX0 65 yX0_lowerSlackFrom, Cond.instanceMethod yX0_lowerSlackFrom, Cond.selects RX0 yX0_lowerSlackFrom yX0_lowerSlackFrom, Cond.initialized RX0, Cond.code yX0_lowerSlackFrom cX0_lowerSlackFrom 6 none, Cond.fieldLink RX0 21 "RoundBounds$Assignment" "rowPotential" "[J", Cond.fieldLink RX0 25 "RoundBounds$Assignment" "columnPotential" "[J", Cond.methodLink RX0 75 yX0_cost, Cond.instanceMethod yX0_cost, Cond.selects RX0 yX0_cost yX0_cost, Cond.code yX0_cost cX0_cost 4 (some .long), Cond.constantLong RX0 79 (100000000), Cond.methodLink RX0 68 yX0_nearestColumn, Cond.instanceMethod yX0_nearestColumn, Cond.selects RX0 yX0_nearestColumn yX0_nearestColumn, Cond.code yX0_nearestColumn cX0_nearestColumn 3 (some .int), Cond.methodLink RX0 71 yX0_shiftPotentials, Cond.instanceMethod yX0_shiftPotentials]
def wsX0_findFreeColumn_r2 : List Cond := [Cond.selects RX0 yX0_shiftPotentials yX0_shiftPotentials, Cond.code yX0_shiftPotentials cX0_shiftPotentials 4 none]
def wsX0_findFreeColumn : List Cond := .code yX0_findFreeColumn cX0_findFreeColumn 3 (some .int) :: ((wsX0_findFreeColumn_r1 ++ wsX0_findFreeColumn_r2) ++ wsX00 ++ wsX30)
def wsX0_changeAlong : List Cond := .code yX0_changeAlong cX0_changeAlong 5 none :: ([.fieldLink RX0 9 "RoundBounds$Assignment" "net" "LRoundBounds$Net;", .fieldLink RX0 35 "RoundBounds$Assignment" "columnBefore" "[I", .fieldLink RX0 31 "RoundBounds$Assignment" "rowOf" "[I"] ++ wsX00 ++ wsX30)
def wsX0_sumOfChosen : List Cond := .code yX0_sumOfChosen cX0_sumOfChosen 4 (some .long) :: ([.fieldLink RX0 9 "RoundBounds$Assignment" "net" "LRoundBounds$Net;", .fieldLink RX0 31 "RoundBounds$Assignment" "rowOf" "[I", .constantLong RX0 79 (100000000), .constantLong RX0 81 (-1), .methodLink RX0 75 yX0_cost, .instanceMethod yX0_cost, .selects RX0 yX0_cost yX0_cost, .initialized RX0, .code yX0_cost cX0_cost 4 (some .long)] ++ wsX00 ++ wsX30)
def wsX0_leastSum_r1 : List Cond := [Cond.fieldLink RX0 21 "RoundBounds$Assignment" "rowPotential" "[J", Cond.fieldLink RX0 25 "RoundBounds$Assignment" "columnPotential" "[J", Cond.fieldLink RX0 31 "RoundBounds$Assignment" "rowOf" "[I", Cond.fieldLink RX0 9 "RoundBounds$Assignment" "net" "LRoundBounds$Net;", Cond.methodLink RX0 42 yJ7_fill_d0a16, Cond.static yJ7_fill_d0a16, Cond.initialized RJ7, Cond.code yJ7_fill_d0a16 cJ7_fill_d0a16 5 none, Cond.methodLink RX0 48 yJ7_fill_53178, Cond.static yJ7_fill_53178, Cond.code yJ7_fill_53178 cJ7_fill_53178 4 none, Cond.methodLink RX0 51 yX0_findFreeColumn, Cond.instanceMethod yX0_findFreeColumn, Cond.selects RX0 yX0_findFreeColumn yX0_findFreeColumn, Cond.initialized RX0, Cond.code yX0_findFreeColumn cX0_findFreeColumn 3 (some .int), Cond.fieldLink RX0 28 "RoundBounds$Assignment" "slack" "[J", Cond.constantLong RX0 63 (1000000000000), Cond.fieldLink RX0 35 "RoundBounds$Assignment" "columnBefore" "[I", Cond.fieldLink RX0 38 "RoundBounds$Assignment" "done" "[Z", Cond.methodLink RX0 65 yX0_lowerSlackFrom, Cond.instanceMethod yX0_lowerSlackFrom, Cond.selects RX0 yX0_lowerSlackFrom yX0_lowerSlackFrom, Cond.code yX0_lowerSlackFrom cX0_lowerSlackFrom 6 none]
def wsX0_leastSum_r2 : List Cond := [Cond.methodLink RX0 75 yX0_cost, Cond.instanceMethod yX0_cost, Cond.selects RX0 yX0_cost yX0_cost, Cond.code yX0_cost cX0_cost 4 (some .long), Cond.constantLong RX0 79 (100000000), Cond.methodLink RX0 68 yX0_nearestColumn, Cond.instanceMethod yX0_nearestColumn, Cond.selects RX0 yX0_nearestColumn yX0_nearestColumn, Cond.code yX0_nearestColumn cX0_nearestColumn 3 (some .int), Cond.methodLink RX0 71 yX0_shiftPotentials, Cond.instanceMethod yX0_shiftPotentials, Cond.selects RX0 yX0_shiftPotentials yX0_shiftPotentials, Cond.code yX0_shiftPotentials cX0_shiftPotentials 4 none, Cond.methodLink RX0 55 yX0_changeAlong, Cond.instanceMethod yX0_changeAlong, Cond.selects RX0 yX0_changeAlong yX0_changeAlong, Cond.code yX0_changeAlong cX0_changeAlong 5 none, Cond.methodLink RX0 59 yX0_sumOfChosen, Cond.instanceMethod yX0_sumOfChosen, Cond.selects RX0 yX0_sumOfChosen yX0_sumOfChosen, Cond.code yX0_sumOfChosen cX0_sumOfChosen 4 (some .long), Cond.constantLong RX0 81 (-1)]
def wsX0_leastSum : List Cond := .code yX0_leastSum cX0_leastSum 2 (some .long) :: ((wsX0_leastSum_r1 ++ wsX0_leastSum_r2) ++ wsX00 ++ wsX30)
def wsX1_init : List Cond := .code yX1_init cX1_init 2 none :: ([.methodLink RX1 3 objectInit, .instanceMethod objectInit, .code objectInit ⟨#[0xb1]⟩ 1 none, .fieldLink RX1 9 "RoundBounds$LeastCut" "net" "LRoundBounds$Net;", .classLink RX1 21 "[[I", .arrayClass .int, .fieldLink RX1 23 "RoundBounds$LeastCut" "room" "[[I", .fieldLink RX1 26 "RoundBounds$LeastCut" "queue" "[I", .fieldLink RX1 30 "RoundBounds$LeastCut" "before" "[I"] ++ wsX10 ++ wsX30)
def wsX1_findChain : List Cond := .code yX1_findChain cX1_findChain 7 (some .boolean) :: ([.fieldLink RX1 30 "RoundBounds$LeastCut" "before" "[I", .fieldLink RX1 26 "RoundBounds$LeastCut" "queue" "[I", .fieldLink RX1 9 "RoundBounds$LeastCut" "net" "LRoundBounds$Net;", .fieldLink RX1 23 "RoundBounds$LeastCut" "room" "[[I", .methodLink RX1 50 yJ7_fill_53178, .static yJ7_fill_53178, .initialized RJ7, .code yJ7_fill_53178 cJ7_fill_53178 4 none] ++ wsX10 ++ wsX30)
def wsX1_fillChain : List Cond := .code yX1_fillChain cX1_fillChain 6 (some .int) :: ([.constant RX1 58 (2147483647), .fieldLink RX1 9 "RoundBounds$LeastCut" "net" "LRoundBounds$Net;", .fieldLink RX1 23 "RoundBounds$LeastCut" "room" "[[I", .fieldLink RX1 30 "RoundBounds$LeastCut" "before" "[I", .methodLink RX1 59 Lib.Math.min.name, .static Lib.Math.min.name, .initialized "java/lang/Math", .code Lib.Math.min.name Lib.Math.min.code 2 (some .int)] ++ wsX10 ++ wsX30)
def wsX1_width_r1 : List Cond := [Cond.fieldLink RX1 9 "RoundBounds$LeastCut" "net" "LRoundBounds$Net;", Cond.fieldLink RX1 23 "RoundBounds$LeastCut" "room" "[[I", Cond.methodLink RX1 36 Lib.Math.max.name, Cond.static Lib.Math.max.name, Cond.initialized "java/lang/Math", Cond.code Lib.Math.max.name Lib.Math.max.code 2 (some .int), Cond.constant RX1 42 (1000000), Cond.methodLink RX1 43 yX1_findChain, Cond.instanceMethod yX1_findChain, Cond.selects RX1 yX1_findChain yX1_findChain, Cond.initialized RX1, Cond.code yX1_findChain cX1_findChain 7 (some .boolean), Cond.fieldLink RX1 30 "RoundBounds$LeastCut" "before" "[I", Cond.fieldLink RX1 26 "RoundBounds$LeastCut" "queue" "[I", Cond.methodLink RX1 50 yJ7_fill_53178, Cond.static yJ7_fill_53178, Cond.initialized RJ7, Cond.code yJ7_fill_53178 cJ7_fill_53178 4 none, Cond.methodLink RX1 47 yX1_fillChain, Cond.instanceMethod yX1_fillChain, Cond.selects RX1 yX1_fillChain yX1_fillChain, Cond.code yX1_fillChain cX1_fillChain 6 (some .int), Cond.constant RX1 58 (2147483647), Cond.methodLink RX1 59 Lib.Math.min.name]
def wsX1_width_r2 : List Cond := [Cond.static Lib.Math.min.name, Cond.code Lib.Math.min.name Lib.Math.min.code 2 (some .int)]
def wsX1_width : List Cond := .code yX1_width cX1_width 6 (some .long) :: ((wsX1_width_r1 ++ wsX1_width_r2) ++ wsX10 ++ wsX30)
def wsX2_init : List Cond := .code yX2_init cX2_init 2 none :: ([.methodLink RX2 3 objectInit, .instanceMethod objectInit, .code objectInit ⟨#[0xb1]⟩ 1 none, .fieldLink RX2 9 "RoundBounds$LinkedTrees" "net" "LRoundBounds$Net;", .arrayClass .int, .fieldLink RX2 21 "RoundBounds$LinkedTrees" "weights" "[I", .fieldLink RX2 25 "RoundBounds$LinkedTrees" "degrees" "[I", .fieldLink RX2 28 "RoundBounds$LinkedTrees" "pieces" "[I", .fieldLink RX2 31 "RoundBounds$LinkedTrees" "worth" "J", .fieldLink RX2 35 "RoundBounds$LinkedTrees" "bestRound" "I"] ++ wsX20 ++ wsX30)
def wsX2_price : List Cond := .code yX2_price cX2_price 3 (some .long) :: ([.constantLong RX2 58 (2), .fieldLink RX2 9 "RoundBounds$LinkedTrees" "net" "LRoundBounds$Net;", .fieldLink RX2 21 "RoundBounds$LinkedTrees" "weights" "[I"] ++ wsX20 ++ wsX30)
def wsX2_take : List Cond := .code yX2_take cX2_take 3 none :: ([.fieldLink RX2 31 "RoundBounds$LinkedTrees" "worth" "J", .fieldLink RX2 25 "RoundBounds$LinkedTrees" "degrees" "[I", .methodLink RX2 74 yX2_price, .instanceMethod yX2_price, .selects RX2 yX2_price yX2_price, .initialized RX2, .code yX2_price cX2_price 3 (some .long), .constantLong RX2 58 (2), .fieldLink RX2 9 "RoundBounds$LinkedTrees" "net" "LRoundBounds$Net;", .fieldLink RX2 21 "RoundBounds$LinkedTrees" "weights" "[I"] ++ wsX20 ++ wsX30)
def wsX2_uniteWith : List Cond := .code yX2_uniteWith cX2_uniteWith 4 none :: ([.fieldLink RX2 9 "RoundBounds$LinkedTrees" "net" "LRoundBounds$Net;", .fieldLink RX2 28 "RoundBounds$LinkedTrees" "pieces" "[I"] ++ wsX20 ++ wsX30)
def wsX2_joinTwoPieces : List Cond := .code yX2_joinTwoPieces cX2_joinTwoPieces 5 (some .boolean) :: ([.fieldLink RX2 9 "RoundBounds$LinkedTrees" "net" "LRoundBounds$Net;", .fieldLink RX2 28 "RoundBounds$LinkedTrees" "pieces" "[I", .methodLink RX2 74 yX2_price, .instanceMethod yX2_price, .selects RX2 yX2_price yX2_price, .initialized RX2, .code yX2_price cX2_price 3 (some .long), .constantLong RX2 58 (2), .fieldLink RX2 21 "RoundBounds$LinkedTrees" "weights" "[I", .methodLink RX2 66 yX2_take, .instanceMethod yX2_take, .selects RX2 yX2_take yX2_take, .code yX2_take cX2_take 3 none, .fieldLink RX2 31 "RoundBounds$LinkedTrees" "worth" "J", .fieldLink RX2 25 "RoundBounds$LinkedTrees" "degrees" "[I", .methodLink RX2 78 yX2_uniteWith, .instanceMethod yX2_uniteWith, .selects RX2 yX2_uniteWith yX2_uniteWith, .code yX2_uniteWith cX2_uniteWith 4 none] ++ wsX20 ++ wsX30)
def wsX2_cheapestFromPlace0 : List Cond := .code yX2_cheapestFromPlace0 cX2_cheapestFromPlace0 4 (some .int) :: ([.fieldLink RX2 9 "RoundBounds$LinkedTrees" "net" "LRoundBounds$Net;", .methodLink RX2 74 yX2_price, .instanceMethod yX2_price, .selects RX2 yX2_price yX2_price, .initialized RX2, .code yX2_price cX2_price 3 (some .long), .constantLong RX2 58 (2), .fieldLink RX2 21 "RoundBounds$LinkedTrees" "weights" "[I"] ++ wsX20 ++ wsX30)
def wsX2_makeTree_r1 : List Cond := [Cond.fieldLink RX2 31 "RoundBounds$LinkedTrees" "worth" "J", Cond.fieldLink RX2 9 "RoundBounds$LinkedTrees" "net" "LRoundBounds$Net;", Cond.fieldLink RX2 25 "RoundBounds$LinkedTrees" "degrees" "[I", Cond.fieldLink RX2 28 "RoundBounds$LinkedTrees" "pieces" "[I", Cond.constantLong RX2 58 (2), Cond.fieldLink RX2 21 "RoundBounds$LinkedTrees" "weights" "[I", Cond.methodLink RX2 60 yX2_joinTwoPieces, Cond.instanceMethod yX2_joinTwoPieces, Cond.selects RX2 yX2_joinTwoPieces yX2_joinTwoPieces, Cond.initialized RX2, Cond.code yX2_joinTwoPieces cX2_joinTwoPieces 5 (some .boolean), Cond.methodLink RX2 74 yX2_price, Cond.instanceMethod yX2_price, Cond.selects RX2 yX2_price yX2_price, Cond.code yX2_price cX2_price 3 (some .long), Cond.methodLink RX2 66 yX2_take, Cond.instanceMethod yX2_take, Cond.selects RX2 yX2_take yX2_take, Cond.code yX2_take cX2_take 3 none, Cond.methodLink RX2 78 yX2_uniteWith, Cond.instanceMethod yX2_uniteWith, Cond.selects RX2 yX2_uniteWith yX2_uniteWith, Cond.code yX2_uniteWith cX2_uniteWith 4 none, Cond.methodLink RX2 63 yX2_cheapestFromPlace0]
def wsX2_makeTree_r2 : List Cond := [Cond.instanceMethod yX2_cheapestFromPlace0, Cond.selects RX2 yX2_cheapestFromPlace0 yX2_cheapestFromPlace0, Cond.code yX2_cheapestFromPlace0 cX2_cheapestFromPlace0 4 (some .int)]
def wsX2_makeTree : List Cond := .code yX2_makeTree cX2_makeTree 3 (some .boolean) :: ((wsX2_makeTree_r1 ++ wsX2_makeTree_r2) ++ wsX20 ++ wsX30)
def wsX2_stepOf : List Cond := .code yX2_stepOf cX2_stepOf 2 (some .int) :: ([])
def wsX2_moveWeights : List Cond := .code yX2_moveWeights cX2_moveWeights 3 none :: ([.fieldLink RX2 9 "RoundBounds$LinkedTrees" "net" "LRoundBounds$Net;", .fieldLink RX2 21 "RoundBounds$LinkedTrees" "weights" "[I", .fieldLink RX2 25 "RoundBounds$LinkedTrees" "degrees" "[I"] ++ wsX20 ++ wsX30)
def wsX2_bound_r1 : List Cond := [Cond.fieldLink RX2 21 "RoundBounds$LinkedTrees" "weights" "[I", Cond.fieldLink RX2 35 "RoundBounds$LinkedTrees" "bestRound" "I", Cond.constantLong RX2 48 (-1), Cond.fieldLink RX2 31 "RoundBounds$LinkedTrees" "worth" "J", Cond.constantLong RX2 58 (2), Cond.methodLink RX2 38 yJ7_fill_53178, Cond.static yJ7_fill_53178, Cond.initialized RJ7, Cond.code yJ7_fill_53178 cJ7_fill_53178 4 none, Cond.methodLink RX2 44 yX2_makeTree, Cond.instanceMethod yX2_makeTree, Cond.selects RX2 yX2_makeTree yX2_makeTree, Cond.initialized RX2, Cond.code yX2_makeTree cX2_makeTree 3 (some .boolean), Cond.fieldLink RX2 9 "RoundBounds$LinkedTrees" "net" "LRoundBounds$Net;", Cond.fieldLink RX2 25 "RoundBounds$LinkedTrees" "degrees" "[I", Cond.fieldLink RX2 28 "RoundBounds$LinkedTrees" "pieces" "[I", Cond.methodLink RX2 60 yX2_joinTwoPieces, Cond.instanceMethod yX2_joinTwoPieces, Cond.selects RX2 yX2_joinTwoPieces yX2_joinTwoPieces, Cond.code yX2_joinTwoPieces cX2_joinTwoPieces 5 (some .boolean), Cond.methodLink RX2 74 yX2_price, Cond.instanceMethod yX2_price, Cond.selects RX2 yX2_price yX2_price]
def wsX2_bound_r2 : List Cond := [Cond.code yX2_price cX2_price 3 (some .long), Cond.methodLink RX2 66 yX2_take, Cond.instanceMethod yX2_take, Cond.selects RX2 yX2_take yX2_take, Cond.code yX2_take cX2_take 3 none, Cond.methodLink RX2 78 yX2_uniteWith, Cond.instanceMethod yX2_uniteWith, Cond.selects RX2 yX2_uniteWith yX2_uniteWith, Cond.code yX2_uniteWith cX2_uniteWith 4 none, Cond.methodLink RX2 63 yX2_cheapestFromPlace0, Cond.instanceMethod yX2_cheapestFromPlace0, Cond.selects RX2 yX2_cheapestFromPlace0 yX2_cheapestFromPlace0, Cond.code yX2_cheapestFromPlace0 cX2_cheapestFromPlace0 4 (some .int), Cond.methodLink RX2 50 yX2_stepOf, Cond.static yX2_stepOf, Cond.code yX2_stepOf cX2_stepOf 2 (some .int), Cond.methodLink RX2 54 yX2_moveWeights, Cond.instanceMethod yX2_moveWeights, Cond.selects RX2 yX2_moveWeights yX2_moveWeights, Cond.code yX2_moveWeights cX2_moveWeights 3 none]
def wsX2_bound : List Cond := .code yX2_bound cX2_bound 5 (some .long) :: ((wsX2_bound_r1 ++ wsX2_bound_r2) ++ wsX20 ++ wsX30)
def wsX3_init : List Cond := .code yX3_init cX3_init 3 none :: ([.methodLink RX3 3 objectInit, .instanceMethod objectInit, .code objectInit ⟨#[0xb1]⟩ 1 none, .fieldLink RX3 9 "RoundBounds$Net" "n" "I", .classLink RX3 15 "[[I", .arrayClass .int, .fieldLink RX3 17 "RoundBounds$Net" "ways" "[[I", .fieldLink RX3 20 "RoundBounds$Net" "streets" "[[I", .methodLink RX3 23 yJ7_fill_53178, .static yJ7_fill_53178, .initialized RJ7, .code yJ7_fill_53178 cJ7_fill_53178 4 none] ++ wsX30)
def wsX3_has : List Cond := .code yX3_has cX3_has 2 (some .boolean) :: ([.fieldLink RX3 9 "RoundBounds$Net" "n" "I"] ++ wsX30)
def wsX3_shorter : List Cond := .code yX3_shorter cX3_shorter 2 (some .int) :: ([.methodLink RX3 33 Lib.Math.max.name, .static Lib.Math.max.name, .initialized "java/lang/Math", .code Lib.Math.max.name Lib.Math.max.code 2 (some .int), .methodLink RX3 38 Lib.Math.min.name, .static Lib.Math.min.name, .code Lib.Math.min.name Lib.Math.min.code 2 (some .int)])
def wsX3_tell : List Cond := .code yX3_tell cX3_tell 5 none :: ([.fieldLink RX3 17 "RoundBounds$Net" "ways" "[[I", .fieldLink RX3 20 "RoundBounds$Net" "streets" "[[I", .methodLink RX3 29 yX3_shorter, .static yX3_shorter, .initialized RX3, .code yX3_shorter cX3_shorter 2 (some .int), .methodLink RX3 33 Lib.Math.max.name, .static Lib.Math.max.name, .initialized "java/lang/Math", .code Lib.Math.max.name Lib.Math.max.code 2 (some .int), .methodLink RX3 38 Lib.Math.min.name, .static Lib.Math.min.name, .code Lib.Math.min.name Lib.Math.min.code 2 (some .int)] ++ wsX30)
def wsX3_placesWithStreets : List Cond := .code yX3_placesWithStreets cX3_placesWithStreets 4 (some .int) :: ([.fieldLink RX3 9 "RoundBounds$Net" "n" "I", .fieldLink RX3 20 "RoundBounds$Net" "streets" "[[I"] ++ wsX30)
def wsX3_spread : List Cond := .code yX3_spread cX3_spread 9 (some .int) :: ([.fieldLink RX3 9 "RoundBounds$Net" "n" "I"] ++ wsX30)
def wsX3_reached : List Cond := .code yX3_reached cX3_reached 6 (some .int) :: ([.fieldLink RX3 9 "RoundBounds$Net" "n" "I", .methodLink RX3 49 yX3_spread, .instanceMethod yX3_spread, .selects RX3 yX3_spread yX3_spread, .initialized RX3, .code yX3_spread cX3_spread 9 (some .int)] ++ wsX30)
def wsX3_streetsHangTogether : List Cond := .code yX3_streetsHangTogether cX3_streetsHangTogether 2 (some .boolean) :: ([.fieldLink RX3 20 "RoundBounds$Net" "streets" "[[I", .methodLink RX3 41 yX3_placesWithStreets, .instanceMethod yX3_placesWithStreets, .selects RX3 yX3_placesWithStreets yX3_placesWithStreets, .initialized RX3, .code yX3_placesWithStreets cX3_placesWithStreets 4 (some .int), .fieldLink RX3 9 "RoundBounds$Net" "n" "I", .methodLink RX3 45 yX3_reached, .instanceMethod yX3_reached, .selects RX3 yX3_reached yX3_reached, .code yX3_reached cX3_reached 6 (some .int), .methodLink RX3 49 yX3_spread, .instanceMethod yX3_spread, .selects RX3 yX3_spread yX3_spread, .code yX3_spread cX3_spread 9 (some .int)] ++ wsX30)
def wsX3_waysLeadFromEachToEach : List Cond := .code yX3_waysLeadFromEachToEach cX3_waysLeadFromEachToEach 2 (some .boolean) :: ([.fieldLink RX3 17 "RoundBounds$Net" "ways" "[[I", .methodLink RX3 41 yX3_placesWithStreets, .instanceMethod yX3_placesWithStreets, .selects RX3 yX3_placesWithStreets yX3_placesWithStreets, .initialized RX3, .code yX3_placesWithStreets cX3_placesWithStreets 4 (some .int), .fieldLink RX3 9 "RoundBounds$Net" "n" "I", .fieldLink RX3 20 "RoundBounds$Net" "streets" "[[I", .methodLink RX3 45 yX3_reached, .instanceMethod yX3_reached, .selects RX3 yX3_reached yX3_reached, .code yX3_reached cX3_reached 6 (some .int), .methodLink RX3 49 yX3_spread, .instanceMethod yX3_spread, .selects RX3 yX3_spread yX3_spread, .code yX3_spread cX3_spread 9 (some .int)] ++ wsX30)
def wsX4_init : List Cond := .code yX4_init cX4_init 2 none :: ([.methodLink RX4 3 objectInit, .instanceMethod objectInit, .code objectInit ⟨#[0xb1]⟩ 1 none, .fieldLink RX4 9 "RoundBounds$StreetPost" "net" "LRoundBounds$Net;", .classLink RX4 21 "[[I", .arrayClass .int, .fieldLink RX4 23 "RoundBounds$StreetPost" "shortest" "[[I", .fieldLink RX4 26 "RoundBounds$StreetPost" "odd" "[I", .fieldLink RX4 30 "RoundBounds$StreetPost" "oddCount" "I", .fieldLink RX4 33 "RoundBounds$StreetPost" "leastSums" "[I", .fieldLink RX4 36 "RoundBounds$StreetPost" "pairs" "[I", .fieldLink RX4 39 "RoundBounds$StreetPost" "pairCount" "I"] ++ wsX40 ++ wsX30)
def wsX4_member : List Cond := .code yX4_member cX4_member 3 (some .int) :: ([.fieldLink RX4 39 "RoundBounds$StreetPost" "pairCount" "I", .fieldLink RX4 36 "RoundBounds$StreetPost" "pairs" "[I"] ++ wsX40)
def wsX4_sumOfStreets : List Cond := .code yX4_sumOfStreets cX4_sumOfStreets 5 (some .long) :: ([.fieldLink RX4 9 "RoundBounds$StreetPost" "net" "LRoundBounds$Net;", .methodLink RX4 71 Lib.Math.max.name, .static Lib.Math.max.name, .initialized "java/lang/Math", .code Lib.Math.max.name Lib.Math.max.code 2 (some .int)] ++ wsX40 ++ wsX30)
def wsX4_findOddPlaces : List Cond := .code yX4_findOddPlaces cX4_findOddPlaces 4 none :: ([.fieldLink RX4 30 "RoundBounds$StreetPost" "oddCount" "I", .fieldLink RX4 9 "RoundBounds$StreetPost" "net" "LRoundBounds$Net;", .fieldLink RX4 26 "RoundBounds$StreetPost" "odd" "[I"] ++ wsX40 ++ wsX30)
def wsX4_findShortest : List Cond := .code yX4_findShortest cX4_findShortest 4 none :: ([.fieldLink RX4 9 "RoundBounds$StreetPost" "net" "LRoundBounds$Net;", .fieldLink RX4 23 "RoundBounds$StreetPost" "shortest" "[[I", .constant RX4 77 (500000000), .methodLink RX4 78 Lib.Math.min.name, .static Lib.Math.min.name, .initialized "java/lang/Math", .code Lib.Math.min.name Lib.Math.min.code 2 (some .int)] ++ wsX40 ++ wsX30)
def wsX4_everyOdd : List Cond := .code yX4_everyOdd cX4_everyOdd 1 (some .int) :: ([.fieldLink RX4 30 "RoundBounds$StreetPost" "oddCount" "I"] ++ wsX40)
def wsJ6_bitCount_0f7a4 : List Cond := .code yJ6_bitCount_0f7a4 cJ6_bitCount_0f7a4 1 (some .int) :: ([.constant RJ6 265 (1431655765), .constant RJ6 266 (858993459), .constant RJ6 267 (252645135)])
def wsJ6_numberOfTrailingZeros_0f7a4 : List Cond := .code yJ6_numberOfTrailingZeros_0f7a4 cJ6_numberOfTrailingZeros_0f7a4 2 (some .int) :: ([.constant RJ6 264 (65536)])
def wsX4_firstOf : List Cond := .code yX4_firstOf cX4_firstOf 1 (some .int) :: ([.methodLink RX4 100 yJ6_numberOfTrailingZeros_0f7a4, .static yJ6_numberOfTrailingZeros_0f7a4, .initialized RJ6, .code yJ6_numberOfTrailingZeros_0f7a4 cJ6_numberOfTrailingZeros_0f7a4 2 (some .int), .constant RJ6 264 (65536)])
def wsX4_without : List Cond := .code yX4_without cX4_without 2 (some .int) :: ([.methodLink RX4 94 yX4_firstOf, .static yX4_firstOf, .initialized RX4, .code yX4_firstOf cX4_firstOf 1 (some .int), .methodLink RX4 100 yJ6_numberOfTrailingZeros_0f7a4, .static yJ6_numberOfTrailingZeros_0f7a4, .initialized RJ6, .code yJ6_numberOfTrailingZeros_0f7a4 cJ6_numberOfTrailingZeros_0f7a4 2 (some .int), .constant RJ6 264 (65536)])
def wsX4_sumWith : List Cond := .code yX4_sumWith cX4_sumWith 4 (some .int) :: ([.fieldLink RX4 30 "RoundBounds$StreetPost" "oddCount" "I", .fieldLink RX4 23 "RoundBounds$StreetPost" "shortest" "[[I", .fieldLink RX4 26 "RoundBounds$StreetPost" "odd" "[I", .fieldLink RX4 33 "RoundBounds$StreetPost" "leastSums" "[I", .methodLink RX4 94 yX4_firstOf, .static yX4_firstOf, .initialized RX4, .code yX4_firstOf cX4_firstOf 1 (some .int), .methodLink RX4 100 yJ6_numberOfTrailingZeros_0f7a4, .static yJ6_numberOfTrailingZeros_0f7a4, .initialized RJ6, .code yJ6_numberOfTrailingZeros_0f7a4 cJ6_numberOfTrailingZeros_0f7a4 2 (some .int), .constant RJ6 264 (65536), .methodLink RX4 97 yX4_without, .static yX4_without, .code yX4_without cX4_without 2 (some .int)] ++ wsX40)
def wsX4_bestPartner : List Cond := .code yX4_bestPartner cX4_bestPartner 5 (some .int) :: ([.constant RX4 93 (2147483647), .fieldLink RX4 30 "RoundBounds$StreetPost" "oddCount" "I", .methodLink RX4 94 yX4_firstOf, .static yX4_firstOf, .initialized RX4, .code yX4_firstOf cX4_firstOf 1 (some .int), .methodLink RX4 100 yJ6_numberOfTrailingZeros_0f7a4, .static yJ6_numberOfTrailingZeros_0f7a4, .initialized RJ6, .code yJ6_numberOfTrailingZeros_0f7a4 cJ6_numberOfTrailingZeros_0f7a4 2 (some .int), .constant RJ6 264 (65536), .methodLink RX4 90 yX4_sumWith, .instanceMethod yX4_sumWith, .selects RX4 yX4_sumWith yX4_sumWith, .code yX4_sumWith cX4_sumWith 4 (some .int), .fieldLink RX4 23 "RoundBounds$StreetPost" "shortest" "[[I", .fieldLink RX4 26 "RoundBounds$StreetPost" "odd" "[I", .fieldLink RX4 33 "RoundBounds$StreetPost" "leastSums" "[I", .methodLink RX4 97 yX4_without, .static yX4_without, .code yX4_without cX4_without 2 (some .int)] ++ wsX40)
def wsX4_findLeastSums_r1 : List Cond := [Cond.fieldLink RX4 33 "RoundBounds$StreetPost" "leastSums" "[I", Cond.methodLink RX4 64 yX4_everyOdd, Cond.instanceMethod yX4_everyOdd, Cond.selects RX4 yX4_everyOdd yX4_everyOdd, Cond.initialized RX4, Cond.code yX4_everyOdd cX4_everyOdd 1 (some .int), Cond.fieldLink RX4 30 "RoundBounds$StreetPost" "oddCount" "I", Cond.methodLink RX4 81 yJ6_bitCount_0f7a4, Cond.static yJ6_bitCount_0f7a4, Cond.initialized RJ6, Cond.code yJ6_bitCount_0f7a4 cJ6_bitCount_0f7a4 1 (some .int), Cond.constant RJ6 265 (1431655765), Cond.constant RJ6 266 (858993459), Cond.constant RJ6 267 (252645135), Cond.methodLink RX4 87 yX4_bestPartner, Cond.instanceMethod yX4_bestPartner, Cond.selects RX4 yX4_bestPartner yX4_bestPartner, Cond.code yX4_bestPartner cX4_bestPartner 5 (some .int), Cond.constant RX4 93 (2147483647), Cond.methodLink RX4 94 yX4_firstOf, Cond.static yX4_firstOf, Cond.code yX4_firstOf cX4_firstOf 1 (some .int), Cond.methodLink RX4 100 yJ6_numberOfTrailingZeros_0f7a4, Cond.static yJ6_numberOfTrailingZeros_0f7a4]
def wsX4_findLeastSums_r2 : List Cond := [Cond.code yJ6_numberOfTrailingZeros_0f7a4 cJ6_numberOfTrailingZeros_0f7a4 2 (some .int), Cond.constant RJ6 264 (65536), Cond.methodLink RX4 90 yX4_sumWith, Cond.instanceMethod yX4_sumWith, Cond.selects RX4 yX4_sumWith yX4_sumWith, Cond.code yX4_sumWith cX4_sumWith 4 (some .int), Cond.fieldLink RX4 23 "RoundBounds$StreetPost" "shortest" "[[I", Cond.fieldLink RX4 26 "RoundBounds$StreetPost" "odd" "[I", Cond.methodLink RX4 97 yX4_without, Cond.static yX4_without, Cond.code yX4_without cX4_without 2 (some .int)]
def wsX4_findLeastSums : List Cond := .code yX4_findLeastSums cX4_findLeastSums 2 none :: ((wsX4_findLeastSums_r1 ++ wsX4_findLeastSums_r2) ++ wsX40)
def wsX4_keepPairs_r1 : List Cond := [Cond.fieldLink RX4 39 "RoundBounds$StreetPost" "pairCount" "I", Cond.fieldLink RX4 30 "RoundBounds$StreetPost" "oddCount" "I", Cond.fieldLink RX4 36 "RoundBounds$StreetPost" "pairs" "[I", Cond.fieldLink RX4 26 "RoundBounds$StreetPost" "odd" "[I", Cond.methodLink RX4 64 yX4_everyOdd, Cond.instanceMethod yX4_everyOdd, Cond.selects RX4 yX4_everyOdd yX4_everyOdd, Cond.initialized RX4, Cond.code yX4_everyOdd cX4_everyOdd 1 (some .int), Cond.methodLink RX4 94 yX4_firstOf, Cond.static yX4_firstOf, Cond.code yX4_firstOf cX4_firstOf 1 (some .int), Cond.methodLink RX4 100 yJ6_numberOfTrailingZeros_0f7a4, Cond.static yJ6_numberOfTrailingZeros_0f7a4, Cond.initialized RJ6, Cond.code yJ6_numberOfTrailingZeros_0f7a4 cJ6_numberOfTrailingZeros_0f7a4 2 (some .int), Cond.constant RJ6 264 (65536), Cond.methodLink RX4 87 yX4_bestPartner, Cond.instanceMethod yX4_bestPartner, Cond.selects RX4 yX4_bestPartner yX4_bestPartner, Cond.code yX4_bestPartner cX4_bestPartner 5 (some .int), Cond.constant RX4 93 (2147483647), Cond.methodLink RX4 90 yX4_sumWith, Cond.instanceMethod yX4_sumWith]
def wsX4_keepPairs_r2 : List Cond := [Cond.selects RX4 yX4_sumWith yX4_sumWith, Cond.code yX4_sumWith cX4_sumWith 4 (some .int), Cond.fieldLink RX4 23 "RoundBounds$StreetPost" "shortest" "[[I", Cond.fieldLink RX4 33 "RoundBounds$StreetPost" "leastSums" "[I", Cond.methodLink RX4 97 yX4_without, Cond.static yX4_without, Cond.code yX4_without cX4_without 2 (some .int)]
def wsX4_keepPairs : List Cond := .code yX4_keepPairs cX4_keepPairs 5 none :: ((wsX4_keepPairs_r1 ++ wsX4_keepPairs_r2) ++ wsX40)
def wsX4_leastWay_r1 : List Cond := [Cond.fieldLink RX4 9 "RoundBounds$StreetPost" "net" "LRoundBounds$Net;", Cond.constantLong RX4 46 (-1), Cond.fieldLink RX4 33 "RoundBounds$StreetPost" "leastSums" "[I", Cond.methodLink RX4 42 yX3_streetsHangTogether, Cond.instanceMethod yX3_streetsHangTogether, Cond.selects RX3 yX3_streetsHangTogether yX3_streetsHangTogether, Cond.initialized RX3, Cond.code yX3_streetsHangTogether cX3_streetsHangTogether 2 (some .boolean), Cond.fieldLink RX3 20 "RoundBounds$Net" "streets" "[[I", Cond.methodLink RX3 41 yX3_placesWithStreets, Cond.instanceMethod yX3_placesWithStreets, Cond.selects RX3 yX3_placesWithStreets yX3_placesWithStreets, Cond.code yX3_placesWithStreets cX3_placesWithStreets 4 (some .int), Cond.fieldLink RX3 9 "RoundBounds$Net" "n" "I", Cond.methodLink RX3 45 yX3_reached, Cond.instanceMethod yX3_reached, Cond.selects RX3 yX3_reached yX3_reached, Cond.code yX3_reached cX3_reached 6 (some .int), Cond.methodLink RX3 49 yX3_spread, Cond.instanceMethod yX3_spread, Cond.selects RX3 yX3_spread yX3_spread, Cond.code yX3_spread cX3_spread 9 (some .int), Cond.methodLink RX4 48 yX4_sumOfStreets, Cond.instanceMethod yX4_sumOfStreets]
def wsX4_leastWay_r2 : List Cond := [Cond.selects RX4 yX4_sumOfStreets yX4_sumOfStreets, Cond.initialized RX4, Cond.code yX4_sumOfStreets cX4_sumOfStreets 5 (some .long), Cond.methodLink RX4 71 Lib.Math.max.name, Cond.static Lib.Math.max.name, Cond.initialized "java/lang/Math", Cond.code Lib.Math.max.name Lib.Math.max.code 2 (some .int), Cond.methodLink RX4 52 yX4_findOddPlaces, Cond.instanceMethod yX4_findOddPlaces, Cond.selects RX4 yX4_findOddPlaces yX4_findOddPlaces, Cond.code yX4_findOddPlaces cX4_findOddPlaces 4 none, Cond.fieldLink RX4 30 "RoundBounds$StreetPost" "oddCount" "I", Cond.fieldLink RX4 26 "RoundBounds$StreetPost" "odd" "[I", Cond.methodLink RX4 55 yX4_findShortest, Cond.instanceMethod yX4_findShortest, Cond.selects RX4 yX4_findShortest yX4_findShortest, Cond.code yX4_findShortest cX4_findShortest 4 none, Cond.fieldLink RX4 23 "RoundBounds$StreetPost" "shortest" "[[I", Cond.constant RX4 77 (500000000), Cond.methodLink RX4 78 Lib.Math.min.name, Cond.static Lib.Math.min.name, Cond.code Lib.Math.min.name Lib.Math.min.code 2 (some .int), Cond.methodLink RX4 58 yX4_findLeastSums, Cond.instanceMethod yX4_findLeastSums]
def wsX4_leastWay_r3 : List Cond := [Cond.selects RX4 yX4_findLeastSums yX4_findLeastSums, Cond.code yX4_findLeastSums cX4_findLeastSums 2 none, Cond.methodLink RX4 64 yX4_everyOdd, Cond.instanceMethod yX4_everyOdd, Cond.selects RX4 yX4_everyOdd yX4_everyOdd, Cond.code yX4_everyOdd cX4_everyOdd 1 (some .int), Cond.methodLink RX4 81 yJ6_bitCount_0f7a4, Cond.static yJ6_bitCount_0f7a4, Cond.initialized RJ6, Cond.code yJ6_bitCount_0f7a4 cJ6_bitCount_0f7a4 1 (some .int), Cond.constant RJ6 265 (1431655765), Cond.constant RJ6 266 (858993459), Cond.constant RJ6 267 (252645135), Cond.methodLink RX4 87 yX4_bestPartner, Cond.instanceMethod yX4_bestPartner, Cond.selects RX4 yX4_bestPartner yX4_bestPartner, Cond.code yX4_bestPartner cX4_bestPartner 5 (some .int), Cond.constant RX4 93 (2147483647), Cond.methodLink RX4 94 yX4_firstOf, Cond.static yX4_firstOf, Cond.code yX4_firstOf cX4_firstOf 1 (some .int), Cond.methodLink RX4 100 yJ6_numberOfTrailingZeros_0f7a4, Cond.static yJ6_numberOfTrailingZeros_0f7a4, Cond.code yJ6_numberOfTrailingZeros_0f7a4 cJ6_numberOfTrailingZeros_0f7a4 2 (some .int)]
def wsX4_leastWay_r4 : List Cond := [Cond.constant RJ6 264 (65536), Cond.methodLink RX4 90 yX4_sumWith, Cond.instanceMethod yX4_sumWith, Cond.selects RX4 yX4_sumWith yX4_sumWith, Cond.code yX4_sumWith cX4_sumWith 4 (some .int), Cond.methodLink RX4 97 yX4_without, Cond.static yX4_without, Cond.code yX4_without cX4_without 2 (some .int), Cond.methodLink RX4 61 yX4_keepPairs, Cond.instanceMethod yX4_keepPairs, Cond.selects RX4 yX4_keepPairs yX4_keepPairs, Cond.code yX4_keepPairs cX4_keepPairs 5 none, Cond.fieldLink RX4 39 "RoundBounds$StreetPost" "pairCount" "I", Cond.fieldLink RX4 36 "RoundBounds$StreetPost" "pairs" "[I"]
def wsX4_leastWay : List Cond := .code yX4_leastWay cX4_leastWay 3 (some .long) :: ((wsX4_leastWay_r1 ++ (wsX4_leastWay_r2 ++ (wsX4_leastWay_r3 ++ wsX4_leastWay_r4))) ++ wsX40 ++ wsX30)
def wsX5_init : List Cond := .code yX5_init cX5_init 2 none :: ([.methodLink RX5 3 objectInit, .instanceMethod objectInit, .code objectInit ⟨#[0xb1]⟩ 1 none, .fieldLink RX5 9 "RoundBounds$WayPost" "net" "LRoundBounds$Net;", .classLink RX5 21 "[[I", .arrayClass .int, .fieldLink RX5 23 "RoundBounds$WayPost" "again" "[[I", .fieldLink RX5 26 "RoundBounds$WayPost" "surplus" "[I", .arrayClass .long, .fieldLink RX5 30 "RoundBounds$WayPost" "costs" "[J", .fieldLink RX5 34 "RoundBounds$WayPost" "before" "[I"] ++ wsX50 ++ wsX30)
def wsX5_goEachOnce : List Cond := .code yX5_goEachOnce cX5_goEachOnce 5 (some .long) :: ([.fieldLink RX5 26 "RoundBounds$WayPost" "surplus" "[I", .fieldLink RX5 9 "RoundBounds$WayPost" "net" "LRoundBounds$Net;", .fieldLink RX5 23 "RoundBounds$WayPost" "again" "[[I", .methodLink RX5 58 yJ7_fill_53178, .static yJ7_fill_53178, .initialized RJ7, .code yJ7_fill_53178 cJ7_fill_53178 4 none] ++ wsX50 ++ wsX30)
def wsX5_costOfStep : List Cond := .code yX5_costOfStep cX5_costOfStep 3 (some .long) :: ([.fieldLink RX5 23 "RoundBounds$WayPost" "again" "[[I", .fieldLink RX5 9 "RoundBounds$WayPost" "net" "LRoundBounds$Net;", .constantLong RX5 67 (1000000000000)] ++ wsX50 ++ wsX30)
def wsX5_lowerCosts : List Cond := .code yX5_lowerCosts cX5_lowerCosts 4 (some .boolean) :: ([.fieldLink RX5 9 "RoundBounds$WayPost" "net" "LRoundBounds$Net;", .fieldLink RX5 30 "RoundBounds$WayPost" "costs" "[J", .constantLong RX5 67 (1000000000000), .fieldLink RX5 34 "RoundBounds$WayPost" "before" "[I", .methodLink RX5 72 yX5_costOfStep, .instanceMethod yX5_costOfStep, .selects RX5 yX5_costOfStep yX5_costOfStep, .initialized RX5, .code yX5_costOfStep cX5_costOfStep 3 (some .long), .fieldLink RX5 23 "RoundBounds$WayPost" "again" "[[I"] ++ wsX50 ++ wsX30)
def wsX5_findCosts : List Cond := .code yX5_findCosts cX5_findCosts 3 none :: ([.fieldLink RX5 9 "RoundBounds$WayPost" "net" "LRoundBounds$Net;", .fieldLink RX5 30 "RoundBounds$WayPost" "costs" "[J", .fieldLink RX5 26 "RoundBounds$WayPost" "surplus" "[I", .constantLong RX5 67 (1000000000000), .fieldLink RX5 34 "RoundBounds$WayPost" "before" "[I", .methodLink RX5 69 yX5_lowerCosts, .instanceMethod yX5_lowerCosts, .selects RX5 yX5_lowerCosts yX5_lowerCosts, .initialized RX5, .code yX5_lowerCosts cX5_lowerCosts 4 (some .boolean), .methodLink RX5 72 yX5_costOfStep, .instanceMethod yX5_costOfStep, .selects RX5 yX5_costOfStep yX5_costOfStep, .code yX5_costOfStep cX5_costOfStep 3 (some .long), .fieldLink RX5 23 "RoundBounds$WayPost" "again" "[[I"] ++ wsX50 ++ wsX30)
def wsX5_cheapestEnd : List Cond := .code yX5_cheapestEnd cX5_cheapestEnd 3 (some .int) :: ([.fieldLink RX5 9 "RoundBounds$WayPost" "net" "LRoundBounds$Net;", .fieldLink RX5 26 "RoundBounds$WayPost" "surplus" "[I", .fieldLink RX5 30 "RoundBounds$WayPost" "costs" "[J", .constantLong RX5 67 (1000000000000)] ++ wsX50 ++ wsX30)
def wsX5_goTo : List Cond := .code yX5_goTo cX5_goTo 5 none :: ([.fieldLink RX5 9 "RoundBounds$WayPost" "net" "LRoundBounds$Net;", .fieldLink RX5 34 "RoundBounds$WayPost" "before" "[I", .fieldLink RX5 23 "RoundBounds$WayPost" "again" "[[I", .fieldLink RX5 26 "RoundBounds$WayPost" "surplus" "[I"] ++ wsX50 ++ wsX30)
def wsX5_leastWay_r1 : List Cond := [Cond.fieldLink RX5 9 "RoundBounds$WayPost" "net" "LRoundBounds$Net;", Cond.constantLong RX5 41 (-1), Cond.fieldLink RX5 30 "RoundBounds$WayPost" "costs" "[J", Cond.methodLink RX5 37 yX3_waysLeadFromEachToEach, Cond.instanceMethod yX3_waysLeadFromEachToEach, Cond.selects RX3 yX3_waysLeadFromEachToEach yX3_waysLeadFromEachToEach, Cond.initialized RX3, Cond.code yX3_waysLeadFromEachToEach cX3_waysLeadFromEachToEach 2 (some .boolean), Cond.fieldLink RX3 17 "RoundBounds$Net" "ways" "[[I", Cond.methodLink RX3 41 yX3_placesWithStreets, Cond.instanceMethod yX3_placesWithStreets, Cond.selects RX3 yX3_placesWithStreets yX3_placesWithStreets, Cond.code yX3_placesWithStreets cX3_placesWithStreets 4 (some .int), Cond.fieldLink RX3 9 "RoundBounds$Net" "n" "I", Cond.fieldLink RX3 20 "RoundBounds$Net" "streets" "[[I", Cond.methodLink RX3 45 yX3_reached, Cond.instanceMethod yX3_reached, Cond.selects RX3 yX3_reached yX3_reached, Cond.code yX3_reached cX3_reached 6 (some .int), Cond.methodLink RX3 49 yX3_spread, Cond.instanceMethod yX3_spread, Cond.selects RX3 yX3_spread yX3_spread, Cond.code yX3_spread cX3_spread 9 (some .int), Cond.methodLink RX5 43 yX5_goEachOnce]
def wsX5_leastWay_r2 : List Cond := [Cond.instanceMethod yX5_goEachOnce, Cond.selects RX5 yX5_goEachOnce yX5_goEachOnce, Cond.initialized RX5, Cond.code yX5_goEachOnce cX5_goEachOnce 5 (some .long), Cond.fieldLink RX5 26 "RoundBounds$WayPost" "surplus" "[I", Cond.fieldLink RX5 23 "RoundBounds$WayPost" "again" "[[I", Cond.methodLink RX5 58 yJ7_fill_53178, Cond.static yJ7_fill_53178, Cond.initialized RJ7, Cond.code yJ7_fill_53178 cJ7_fill_53178 4 none, Cond.methodLink RX5 47 yX5_findCosts, Cond.instanceMethod yX5_findCosts, Cond.selects RX5 yX5_findCosts yX5_findCosts, Cond.code yX5_findCosts cX5_findCosts 3 none, Cond.constantLong RX5 67 (1000000000000), Cond.fieldLink RX5 34 "RoundBounds$WayPost" "before" "[I", Cond.methodLink RX5 69 yX5_lowerCosts, Cond.instanceMethod yX5_lowerCosts, Cond.selects RX5 yX5_lowerCosts yX5_lowerCosts, Cond.code yX5_lowerCosts cX5_lowerCosts 4 (some .boolean), Cond.methodLink RX5 72 yX5_costOfStep, Cond.instanceMethod yX5_costOfStep, Cond.selects RX5 yX5_costOfStep yX5_costOfStep, Cond.code yX5_costOfStep cX5_costOfStep 3 (some .long)]
def wsX5_leastWay_r3 : List Cond := [Cond.methodLink RX5 50 yX5_cheapestEnd, Cond.instanceMethod yX5_cheapestEnd, Cond.selects RX5 yX5_cheapestEnd yX5_cheapestEnd, Cond.code yX5_cheapestEnd cX5_cheapestEnd 3 (some .int), Cond.methodLink RX5 54 yX5_goTo, Cond.instanceMethod yX5_goTo, Cond.selects RX5 yX5_goTo yX5_goTo, Cond.code yX5_goTo cX5_goTo 5 none]
def wsX5_leastWay : List Cond := .code yX5_leastWay cX5_leastWay 6 (some .long) :: ((wsX5_leastWay_r1 ++ (wsX5_leastWay_r2 ++ wsX5_leastWay_r3)) ++ wsX50 ++ wsX30)
def wsX6_init_r1 : List Cond := [Cond.methodLink RX6 1 objectInit, Cond.instanceMethod objectInit, Cond.code objectInit ⟨#[0xb1]⟩ 1 none, Cond.methodLink RX6 9 Lib.Math.min.name, Cond.static Lib.Math.min.name, Cond.initialized "java/lang/Math", Cond.code Lib.Math.min.name Lib.Math.min.code 2 (some .int), Cond.methodLink RX6 15 Lib.Math.max.name, Cond.static Lib.Math.max.name, Cond.code Lib.Math.max.name Lib.Math.max.code 2 (some .int), Cond.classLink RX6 18 RX3, Cond.instantiable RX3 3, Cond.initialized RX3, Cond.fieldLink RX6 23 "RoundBounds" "net" "LRoundBounds$Net;", Cond.classLink RX6 27 RX2, Cond.instantiable RX2 6, Cond.initialized RX2, Cond.fieldLink RX6 32 "RoundBounds" "trees" "LRoundBounds$LinkedTrees;", Cond.classLink RX6 36 RX0, Cond.instantiable RX0 7, Cond.initialized RX0, Cond.fieldLink RX6 39 "RoundBounds" "assignment" "LRoundBounds$Assignment;", Cond.classLink RX6 43 RX1, Cond.instantiable RX1 4]
def wsX6_init_r2 : List Cond := [Cond.initialized RX1, Cond.fieldLink RX6 46 "RoundBounds" "leastCut" "LRoundBounds$LeastCut;", Cond.classLink RX6 50 RX4, Cond.instantiable RX4 7, Cond.initialized RX4, Cond.fieldLink RX6 53 "RoundBounds" "streetPost" "LRoundBounds$StreetPost;", Cond.classLink RX6 57 RX5, Cond.instantiable RX5 5, Cond.initialized RX5, Cond.fieldLink RX6 60 "RoundBounds" "wayPost" "LRoundBounds$WayPost;", Cond.arrayClass .int, Cond.fieldLink RX6 64 "RoundBounds" "row" "[I", Cond.fieldLink RX6 68 "RoundBounds" "roundOfBest" "I", Cond.methodLink RX6 20 yX3_init, Cond.instanceMethod yX3_init, Cond.code yX3_init cX3_init 3 none, Cond.methodLink RX3 3 objectInit, Cond.fieldLink RX3 9 "RoundBounds$Net" "n" "I", Cond.classLink RX3 15 "[[I", Cond.fieldLink RX3 17 "RoundBounds$Net" "ways" "[[I", Cond.fieldLink RX3 20 "RoundBounds$Net" "streets" "[[I", Cond.methodLink RX3 23 yJ7_fill_53178, Cond.static yJ7_fill_53178, Cond.initialized RJ7]
def wsX6_init_r3 : List Cond := [Cond.code yJ7_fill_53178 cJ7_fill_53178 4 none, Cond.methodLink RX6 29 yX2_init, Cond.instanceMethod yX2_init, Cond.code yX2_init cX2_init 2 none, Cond.methodLink RX2 3 objectInit, Cond.fieldLink RX2 9 "RoundBounds$LinkedTrees" "net" "LRoundBounds$Net;", Cond.fieldLink RX2 21 "RoundBounds$LinkedTrees" "weights" "[I", Cond.fieldLink RX2 25 "RoundBounds$LinkedTrees" "degrees" "[I", Cond.fieldLink RX2 28 "RoundBounds$LinkedTrees" "pieces" "[I", Cond.fieldLink RX2 31 "RoundBounds$LinkedTrees" "worth" "J", Cond.fieldLink RX2 35 "RoundBounds$LinkedTrees" "bestRound" "I", Cond.methodLink RX6 38 yX0_init, Cond.instanceMethod yX0_init, Cond.code yX0_init cX0_init 3 none, Cond.methodLink RX0 3 objectInit, Cond.fieldLink RX0 9 "RoundBounds$Assignment" "net" "LRoundBounds$Net;", Cond.arrayClass .long, Cond.fieldLink RX0 21 "RoundBounds$Assignment" "rowPotential" "[J", Cond.fieldLink RX0 25 "RoundBounds$Assignment" "columnPotential" "[J", Cond.fieldLink RX0 28 "RoundBounds$Assignment" "slack" "[J", Cond.fieldLink RX0 31 "RoundBounds$Assignment" "rowOf" "[I", Cond.fieldLink RX0 35 "RoundBounds$Assignment" "columnBefore" "[I", Cond.arrayClass .boolean, Cond.fieldLink RX0 38 "RoundBounds$Assignment" "done" "[Z"]
def wsX6_init_r4 : List Cond := [Cond.methodLink RX6 45 yX1_init, Cond.instanceMethod yX1_init, Cond.code yX1_init cX1_init 2 none, Cond.methodLink RX1 3 objectInit, Cond.fieldLink RX1 9 "RoundBounds$LeastCut" "net" "LRoundBounds$Net;", Cond.classLink RX1 21 "[[I", Cond.fieldLink RX1 23 "RoundBounds$LeastCut" "room" "[[I", Cond.fieldLink RX1 26 "RoundBounds$LeastCut" "queue" "[I", Cond.fieldLink RX1 30 "RoundBounds$LeastCut" "before" "[I", Cond.methodLink RX6 52 yX4_init, Cond.instanceMethod yX4_init, Cond.code yX4_init cX4_init 2 none, Cond.methodLink RX4 3 objectInit, Cond.fieldLink RX4 9 "RoundBounds$StreetPost" "net" "LRoundBounds$Net;", Cond.classLink RX4 21 "[[I", Cond.fieldLink RX4 23 "RoundBounds$StreetPost" "shortest" "[[I", Cond.fieldLink RX4 26 "RoundBounds$StreetPost" "odd" "[I", Cond.fieldLink RX4 30 "RoundBounds$StreetPost" "oddCount" "I", Cond.fieldLink RX4 33 "RoundBounds$StreetPost" "leastSums" "[I", Cond.fieldLink RX4 36 "RoundBounds$StreetPost" "pairs" "[I", Cond.fieldLink RX4 39 "RoundBounds$StreetPost" "pairCount" "I", Cond.methodLink RX6 59 yX5_init, Cond.instanceMethod yX5_init, Cond.code yX5_init cX5_init 2 none]
def wsX6_init_r5 : List Cond := [Cond.methodLink RX5 3 objectInit, Cond.fieldLink RX5 9 "RoundBounds$WayPost" "net" "LRoundBounds$Net;", Cond.classLink RX5 21 "[[I", Cond.fieldLink RX5 23 "RoundBounds$WayPost" "again" "[[I", Cond.fieldLink RX5 26 "RoundBounds$WayPost" "surplus" "[I", Cond.fieldLink RX5 30 "RoundBounds$WayPost" "costs" "[J", Cond.fieldLink RX5 34 "RoundBounds$WayPost" "before" "[I"]
def wsX6_init : List Cond := .code yX6_init cX6_init 3 none :: ((wsX6_init_r1 ++ (wsX6_init_r2 ++ (wsX6_init_r3 ++ (wsX6_init_r4 ++ wsX6_init_r5)))) ++ wsX30 ++ wsX60 ++ wsX20 ++ wsX00 ++ wsX10 ++ wsX40 ++ wsX50)
def wsX6_way_r1 : List Cond := [Cond.fieldLink RX6 23 "RoundBounds" "net" "LRoundBounds$Net;", Cond.classLink RX6 76 RJx00060, Cond.instantiable RJx00060 6, Cond.initialized RJx00060, Cond.constantLong RX6 83 (1000000), Cond.methodLink RX6 72 yX3_has, Cond.instanceMethod yX3_has, Cond.selects RX3 yX3_has yX3_has, Cond.initialized RX3, Cond.code yX3_has cX3_has 2 (some .boolean), Cond.fieldLink RX3 9 "RoundBounds$Net" "n" "I", Cond.methodLink RX6 85 yX3_tell, Cond.instanceMethod yX3_tell, Cond.selects RX3 yX3_tell yX3_tell, Cond.code yX3_tell cX3_tell 5 none, Cond.fieldLink RX3 17 "RoundBounds$Net" "ways" "[[I", Cond.fieldLink RX3 20 "RoundBounds$Net" "streets" "[[I", Cond.methodLink RX3 29 yX3_shorter, Cond.static yX3_shorter, Cond.code yX3_shorter cX3_shorter 2 (some .int), Cond.methodLink RX3 33 Lib.Math.max.name, Cond.static Lib.Math.max.name, Cond.initialized "java/lang/Math", Cond.code Lib.Math.max.name Lib.Math.max.code 2 (some .int)]
def wsX6_way_r2 : List Cond := [Cond.methodLink RX3 38 Lib.Math.min.name, Cond.static Lib.Math.min.name, Cond.code Lib.Math.min.name Lib.Math.min.code 2 (some .int)]
def wsX6_way : List Cond := .code yX6_way cX6_way 5 none :: ((wsX6_way_r1 ++ wsX6_way_r2) ++ wsX60 ++ wsJx000600 ++ wsX30)
def wsX6_tree_r1 : List Cond := [Cond.fieldLink RX6 32 "RoundBounds" "trees" "LRoundBounds$LinkedTrees;", Cond.methodLink RX6 9 Lib.Math.min.name, Cond.static Lib.Math.min.name, Cond.initialized "java/lang/Math", Cond.code Lib.Math.min.name Lib.Math.min.code 2 (some .int), Cond.methodLink RX6 15 Lib.Math.max.name, Cond.static Lib.Math.max.name, Cond.code Lib.Math.max.name Lib.Math.max.code 2 (some .int), Cond.fieldLink RX6 68 "RoundBounds" "roundOfBest" "I", Cond.methodLink RX6 89 yX2_bound, Cond.instanceMethod yX2_bound, Cond.selects RX2 yX2_bound yX2_bound, Cond.initialized RX2, Cond.code yX2_bound cX2_bound 5 (some .long), Cond.fieldLink RX2 21 "RoundBounds$LinkedTrees" "weights" "[I", Cond.fieldLink RX2 35 "RoundBounds$LinkedTrees" "bestRound" "I", Cond.constantLong RX2 48 (-1), Cond.fieldLink RX2 31 "RoundBounds$LinkedTrees" "worth" "J", Cond.constantLong RX2 58 (2), Cond.methodLink RX2 38 yJ7_fill_53178, Cond.static yJ7_fill_53178, Cond.initialized RJ7, Cond.code yJ7_fill_53178 cJ7_fill_53178 4 none, Cond.methodLink RX2 44 yX2_makeTree]
def wsX6_tree_r2 : List Cond := [Cond.instanceMethod yX2_makeTree, Cond.selects RX2 yX2_makeTree yX2_makeTree, Cond.code yX2_makeTree cX2_makeTree 3 (some .boolean), Cond.fieldLink RX2 9 "RoundBounds$LinkedTrees" "net" "LRoundBounds$Net;", Cond.fieldLink RX2 25 "RoundBounds$LinkedTrees" "degrees" "[I", Cond.fieldLink RX2 28 "RoundBounds$LinkedTrees" "pieces" "[I", Cond.methodLink RX2 60 yX2_joinTwoPieces, Cond.instanceMethod yX2_joinTwoPieces, Cond.selects RX2 yX2_joinTwoPieces yX2_joinTwoPieces, Cond.code yX2_joinTwoPieces cX2_joinTwoPieces 5 (some .boolean), Cond.methodLink RX2 74 yX2_price, Cond.instanceMethod yX2_price, Cond.selects RX2 yX2_price yX2_price, Cond.code yX2_price cX2_price 3 (some .long), Cond.methodLink RX2 66 yX2_take, Cond.instanceMethod yX2_take, Cond.selects RX2 yX2_take yX2_take, Cond.code yX2_take cX2_take 3 none, Cond.methodLink RX2 78 yX2_uniteWith, Cond.instanceMethod yX2_uniteWith, Cond.selects RX2 yX2_uniteWith yX2_uniteWith, Cond.code yX2_uniteWith cX2_uniteWith 4 none, Cond.methodLink RX2 63 yX2_cheapestFromPlace0, Cond.instanceMethod yX2_cheapestFromPlace0]
def wsX6_tree_r3 : List Cond := [Cond.selects RX2 yX2_cheapestFromPlace0 yX2_cheapestFromPlace0, Cond.code yX2_cheapestFromPlace0 cX2_cheapestFromPlace0 4 (some .int), Cond.methodLink RX2 50 yX2_stepOf, Cond.static yX2_stepOf, Cond.code yX2_stepOf cX2_stepOf 2 (some .int), Cond.methodLink RX2 54 yX2_moveWeights, Cond.instanceMethod yX2_moveWeights, Cond.selects RX2 yX2_moveWeights yX2_moveWeights, Cond.code yX2_moveWeights cX2_moveWeights 3 none]
def wsX6_tree : List Cond := .code yX6_tree cX6_tree 4 (some .long) :: ((wsX6_tree_r1 ++ (wsX6_tree_r2 ++ wsX6_tree_r3)) ++ wsX60 ++ wsX20 ++ wsX30)
def wsX6_rounds : List Cond := .code yX6_rounds cX6_rounds 1 (some .int) :: ([.fieldLink RX6 68 "RoundBounds" "roundOfBest" "I"] ++ wsX60)
def wsX6_assign_r1 : List Cond := [Cond.fieldLink RX6 39 "RoundBounds" "assignment" "LRoundBounds$Assignment;", Cond.methodLink RX6 96 yX0_leastSum, Cond.instanceMethod yX0_leastSum, Cond.selects RX0 yX0_leastSum yX0_leastSum, Cond.initialized RX0, Cond.code yX0_leastSum cX0_leastSum 2 (some .long), Cond.fieldLink RX0 21 "RoundBounds$Assignment" "rowPotential" "[J", Cond.fieldLink RX0 25 "RoundBounds$Assignment" "columnPotential" "[J", Cond.fieldLink RX0 31 "RoundBounds$Assignment" "rowOf" "[I", Cond.fieldLink RX0 9 "RoundBounds$Assignment" "net" "LRoundBounds$Net;", Cond.methodLink RX0 42 yJ7_fill_d0a16, Cond.static yJ7_fill_d0a16, Cond.initialized RJ7, Cond.code yJ7_fill_d0a16 cJ7_fill_d0a16 5 none, Cond.methodLink RX0 48 yJ7_fill_53178, Cond.static yJ7_fill_53178, Cond.code yJ7_fill_53178 cJ7_fill_53178 4 none, Cond.methodLink RX0 51 yX0_findFreeColumn, Cond.instanceMethod yX0_findFreeColumn, Cond.selects RX0 yX0_findFreeColumn yX0_findFreeColumn, Cond.code yX0_findFreeColumn cX0_findFreeColumn 3 (some .int), Cond.fieldLink RX0 28 "RoundBounds$Assignment" "slack" "[J", Cond.constantLong RX0 63 (1000000000000), Cond.fieldLink RX0 35 "RoundBounds$Assignment" "columnBefore" "[I"]
def wsX6_assign_r2 : List Cond := [Cond.fieldLink RX0 38 "RoundBounds$Assignment" "done" "[Z", Cond.methodLink RX0 65 yX0_lowerSlackFrom, Cond.instanceMethod yX0_lowerSlackFrom, Cond.selects RX0 yX0_lowerSlackFrom yX0_lowerSlackFrom, Cond.code yX0_lowerSlackFrom cX0_lowerSlackFrom 6 none, Cond.methodLink RX0 75 yX0_cost, Cond.instanceMethod yX0_cost, Cond.selects RX0 yX0_cost yX0_cost, Cond.code yX0_cost cX0_cost 4 (some .long), Cond.constantLong RX0 79 (100000000), Cond.methodLink RX0 68 yX0_nearestColumn, Cond.instanceMethod yX0_nearestColumn, Cond.selects RX0 yX0_nearestColumn yX0_nearestColumn, Cond.code yX0_nearestColumn cX0_nearestColumn 3 (some .int), Cond.methodLink RX0 71 yX0_shiftPotentials, Cond.instanceMethod yX0_shiftPotentials, Cond.selects RX0 yX0_shiftPotentials yX0_shiftPotentials, Cond.code yX0_shiftPotentials cX0_shiftPotentials 4 none, Cond.methodLink RX0 55 yX0_changeAlong, Cond.instanceMethod yX0_changeAlong, Cond.selects RX0 yX0_changeAlong yX0_changeAlong, Cond.code yX0_changeAlong cX0_changeAlong 5 none, Cond.methodLink RX0 59 yX0_sumOfChosen, Cond.instanceMethod yX0_sumOfChosen]
def wsX6_assign_r3 : List Cond := [Cond.selects RX0 yX0_sumOfChosen yX0_sumOfChosen, Cond.code yX0_sumOfChosen cX0_sumOfChosen 4 (some .long), Cond.constantLong RX0 81 (-1)]
def wsX6_assign : List Cond := .code yX6_assign cX6_assign 1 (some .long) :: ((wsX6_assign_r1 ++ (wsX6_assign_r2 ++ wsX6_assign_r3)) ++ wsX60 ++ wsX00 ++ wsX30)
def wsX6_cut_r1 : List Cond := [Cond.fieldLink RX6 23 "RoundBounds" "net" "LRoundBounds$Net;", Cond.constantLong RX6 100 (-1), Cond.fieldLink RX6 46 "RoundBounds" "leastCut" "LRoundBounds$LeastCut;", Cond.methodLink RX6 72 yX3_has, Cond.instanceMethod yX3_has, Cond.selects RX3 yX3_has yX3_has, Cond.initialized RX3, Cond.code yX3_has cX3_has 2 (some .boolean), Cond.fieldLink RX3 9 "RoundBounds$Net" "n" "I", Cond.methodLink RX6 102 yX1_width, Cond.instanceMethod yX1_width, Cond.selects RX1 yX1_width yX1_width, Cond.initialized RX1, Cond.code yX1_width cX1_width 6 (some .long), Cond.fieldLink RX1 9 "RoundBounds$LeastCut" "net" "LRoundBounds$Net;", Cond.fieldLink RX1 23 "RoundBounds$LeastCut" "room" "[[I", Cond.methodLink RX1 36 Lib.Math.max.name, Cond.static Lib.Math.max.name, Cond.initialized "java/lang/Math", Cond.code Lib.Math.max.name Lib.Math.max.code 2 (some .int), Cond.constant RX1 42 (1000000), Cond.methodLink RX1 43 yX1_findChain, Cond.instanceMethod yX1_findChain, Cond.selects RX1 yX1_findChain yX1_findChain]
def wsX6_cut_r2 : List Cond := [Cond.code yX1_findChain cX1_findChain 7 (some .boolean), Cond.fieldLink RX1 30 "RoundBounds$LeastCut" "before" "[I", Cond.fieldLink RX1 26 "RoundBounds$LeastCut" "queue" "[I", Cond.methodLink RX1 50 yJ7_fill_53178, Cond.static yJ7_fill_53178, Cond.initialized RJ7, Cond.code yJ7_fill_53178 cJ7_fill_53178 4 none, Cond.methodLink RX1 47 yX1_fillChain, Cond.instanceMethod yX1_fillChain, Cond.selects RX1 yX1_fillChain yX1_fillChain, Cond.code yX1_fillChain cX1_fillChain 6 (some .int), Cond.constant RX1 58 (2147483647), Cond.methodLink RX1 59 Lib.Math.min.name, Cond.static Lib.Math.min.name, Cond.code Lib.Math.min.name Lib.Math.min.code 2 (some .int)]
def wsX6_cut : List Cond := .code yX6_cut cX6_cut 3 (some .long) :: ((wsX6_cut_r1 ++ wsX6_cut_r2) ++ wsX60 ++ wsX30 ++ wsX10)
def wsX6_postman_r1 : List Cond := [Cond.fieldLink RX6 60 "RoundBounds" "wayPost" "LRoundBounds$WayPost;", Cond.fieldLink RX6 53 "RoundBounds" "streetPost" "LRoundBounds$StreetPost;", Cond.methodLink RX6 106 yX5_leastWay, Cond.instanceMethod yX5_leastWay, Cond.selects RX5 yX5_leastWay yX5_leastWay, Cond.initialized RX5, Cond.code yX5_leastWay cX5_leastWay 6 (some .long), Cond.fieldLink RX5 9 "RoundBounds$WayPost" "net" "LRoundBounds$Net;", Cond.constantLong RX5 41 (-1), Cond.fieldLink RX5 30 "RoundBounds$WayPost" "costs" "[J", Cond.methodLink RX5 37 yX3_waysLeadFromEachToEach, Cond.instanceMethod yX3_waysLeadFromEachToEach, Cond.selects RX3 yX3_waysLeadFromEachToEach yX3_waysLeadFromEachToEach, Cond.initialized RX3, Cond.code yX3_waysLeadFromEachToEach cX3_waysLeadFromEachToEach 2 (some .boolean), Cond.fieldLink RX3 17 "RoundBounds$Net" "ways" "[[I", Cond.methodLink RX3 41 yX3_placesWithStreets, Cond.instanceMethod yX3_placesWithStreets, Cond.selects RX3 yX3_placesWithStreets yX3_placesWithStreets, Cond.code yX3_placesWithStreets cX3_placesWithStreets 4 (some .int), Cond.fieldLink RX3 9 "RoundBounds$Net" "n" "I", Cond.fieldLink RX3 20 "RoundBounds$Net" "streets" "[[I", Cond.methodLink RX3 45 yX3_reached, Cond.instanceMethod yX3_reached]
def wsX6_postman_r2 : List Cond := [Cond.selects RX3 yX3_reached yX3_reached, Cond.code yX3_reached cX3_reached 6 (some .int), Cond.methodLink RX3 49 yX3_spread, Cond.instanceMethod yX3_spread, Cond.selects RX3 yX3_spread yX3_spread, Cond.code yX3_spread cX3_spread 9 (some .int), Cond.methodLink RX5 43 yX5_goEachOnce, Cond.instanceMethod yX5_goEachOnce, Cond.selects RX5 yX5_goEachOnce yX5_goEachOnce, Cond.code yX5_goEachOnce cX5_goEachOnce 5 (some .long), Cond.fieldLink RX5 26 "RoundBounds$WayPost" "surplus" "[I", Cond.fieldLink RX5 23 "RoundBounds$WayPost" "again" "[[I", Cond.methodLink RX5 58 yJ7_fill_53178, Cond.static yJ7_fill_53178, Cond.initialized RJ7, Cond.code yJ7_fill_53178 cJ7_fill_53178 4 none, Cond.methodLink RX5 47 yX5_findCosts, Cond.instanceMethod yX5_findCosts, Cond.selects RX5 yX5_findCosts yX5_findCosts, Cond.code yX5_findCosts cX5_findCosts 3 none, Cond.constantLong RX5 67 (1000000000000), Cond.fieldLink RX5 34 "RoundBounds$WayPost" "before" "[I", Cond.methodLink RX5 69 yX5_lowerCosts, Cond.instanceMethod yX5_lowerCosts]
def wsX6_postman_r3 : List Cond := [Cond.selects RX5 yX5_lowerCosts yX5_lowerCosts, Cond.code yX5_lowerCosts cX5_lowerCosts 4 (some .boolean), Cond.methodLink RX5 72 yX5_costOfStep, Cond.instanceMethod yX5_costOfStep, Cond.selects RX5 yX5_costOfStep yX5_costOfStep, Cond.code yX5_costOfStep cX5_costOfStep 3 (some .long), Cond.methodLink RX5 50 yX5_cheapestEnd, Cond.instanceMethod yX5_cheapestEnd, Cond.selects RX5 yX5_cheapestEnd yX5_cheapestEnd, Cond.code yX5_cheapestEnd cX5_cheapestEnd 3 (some .int), Cond.methodLink RX5 54 yX5_goTo, Cond.instanceMethod yX5_goTo, Cond.selects RX5 yX5_goTo yX5_goTo, Cond.code yX5_goTo cX5_goTo 5 none, Cond.methodLink RX6 109 yX4_leastWay, Cond.instanceMethod yX4_leastWay, Cond.selects RX4 yX4_leastWay yX4_leastWay, Cond.initialized RX4, Cond.code yX4_leastWay cX4_leastWay 3 (some .long), Cond.fieldLink RX4 9 "RoundBounds$StreetPost" "net" "LRoundBounds$Net;", Cond.constantLong RX4 46 (-1), Cond.fieldLink RX4 33 "RoundBounds$StreetPost" "leastSums" "[I", Cond.methodLink RX4 42 yX3_streetsHangTogether, Cond.instanceMethod yX3_streetsHangTogether]
def wsX6_postman_r4 : List Cond := [Cond.selects RX3 yX3_streetsHangTogether yX3_streetsHangTogether, Cond.code yX3_streetsHangTogether cX3_streetsHangTogether 2 (some .boolean), Cond.methodLink RX4 48 yX4_sumOfStreets, Cond.instanceMethod yX4_sumOfStreets, Cond.selects RX4 yX4_sumOfStreets yX4_sumOfStreets, Cond.code yX4_sumOfStreets cX4_sumOfStreets 5 (some .long), Cond.methodLink RX4 71 Lib.Math.max.name, Cond.static Lib.Math.max.name, Cond.initialized "java/lang/Math", Cond.code Lib.Math.max.name Lib.Math.max.code 2 (some .int), Cond.methodLink RX4 52 yX4_findOddPlaces, Cond.instanceMethod yX4_findOddPlaces, Cond.selects RX4 yX4_findOddPlaces yX4_findOddPlaces, Cond.code yX4_findOddPlaces cX4_findOddPlaces 4 none, Cond.fieldLink RX4 30 "RoundBounds$StreetPost" "oddCount" "I", Cond.fieldLink RX4 26 "RoundBounds$StreetPost" "odd" "[I", Cond.methodLink RX4 55 yX4_findShortest, Cond.instanceMethod yX4_findShortest, Cond.selects RX4 yX4_findShortest yX4_findShortest, Cond.code yX4_findShortest cX4_findShortest 4 none, Cond.fieldLink RX4 23 "RoundBounds$StreetPost" "shortest" "[[I", Cond.constant RX4 77 (500000000), Cond.methodLink RX4 78 Lib.Math.min.name, Cond.static Lib.Math.min.name]
def wsX6_postman_r5 : List Cond := [Cond.code Lib.Math.min.name Lib.Math.min.code 2 (some .int), Cond.methodLink RX4 58 yX4_findLeastSums, Cond.instanceMethod yX4_findLeastSums, Cond.selects RX4 yX4_findLeastSums yX4_findLeastSums, Cond.code yX4_findLeastSums cX4_findLeastSums 2 none, Cond.methodLink RX4 64 yX4_everyOdd, Cond.instanceMethod yX4_everyOdd, Cond.selects RX4 yX4_everyOdd yX4_everyOdd, Cond.code yX4_everyOdd cX4_everyOdd 1 (some .int), Cond.methodLink RX4 81 yJ6_bitCount_0f7a4, Cond.static yJ6_bitCount_0f7a4, Cond.initialized RJ6, Cond.code yJ6_bitCount_0f7a4 cJ6_bitCount_0f7a4 1 (some .int), Cond.constant RJ6 265 (1431655765), Cond.constant RJ6 266 (858993459), Cond.constant RJ6 267 (252645135), Cond.methodLink RX4 87 yX4_bestPartner, Cond.instanceMethod yX4_bestPartner, Cond.selects RX4 yX4_bestPartner yX4_bestPartner, Cond.code yX4_bestPartner cX4_bestPartner 5 (some .int), Cond.constant RX4 93 (2147483647), Cond.methodLink RX4 94 yX4_firstOf, Cond.static yX4_firstOf, Cond.code yX4_firstOf cX4_firstOf 1 (some .int)]
def wsX6_postman_r6 : List Cond := [Cond.methodLink RX4 100 yJ6_numberOfTrailingZeros_0f7a4, Cond.static yJ6_numberOfTrailingZeros_0f7a4, Cond.code yJ6_numberOfTrailingZeros_0f7a4 cJ6_numberOfTrailingZeros_0f7a4 2 (some .int), Cond.constant RJ6 264 (65536), Cond.methodLink RX4 90 yX4_sumWith, Cond.instanceMethod yX4_sumWith, Cond.selects RX4 yX4_sumWith yX4_sumWith, Cond.code yX4_sumWith cX4_sumWith 4 (some .int), Cond.methodLink RX4 97 yX4_without, Cond.static yX4_without, Cond.code yX4_without cX4_without 2 (some .int), Cond.methodLink RX4 61 yX4_keepPairs, Cond.instanceMethod yX4_keepPairs, Cond.selects RX4 yX4_keepPairs yX4_keepPairs, Cond.code yX4_keepPairs cX4_keepPairs 5 none, Cond.fieldLink RX4 39 "RoundBounds$StreetPost" "pairCount" "I", Cond.fieldLink RX4 36 "RoundBounds$StreetPost" "pairs" "[I"]
def wsX6_postman : List Cond := .code yX6_postman cX6_postman 2 (some .long) :: ((wsX6_postman_r1 ++ (wsX6_postman_r2 ++ (wsX6_postman_r3 ++ (wsX6_postman_r4 ++ (wsX6_postman_r5 ++ wsX6_postman_r6))))) ++ wsX60 ++ wsX50 ++ wsX30 ++ wsX40)
def wsX6_pair : List Cond := .code yX6_pair cX6_pair 3 (some .int) :: ([.fieldLink RX6 53 "RoundBounds" "streetPost" "LRoundBounds$StreetPost;", .methodLink RX6 110 yX4_member, .instanceMethod yX4_member, .selects RX4 yX4_member yX4_member, .initialized RX4, .code yX4_member cX4_member 3 (some .int), .fieldLink RX4 39 "RoundBounds$StreetPost" "pairCount" "I", .fieldLink RX4 36 "RoundBounds$StreetPost" "pairs" "[I"] ++ wsX60 ++ wsX40)
def wsX6_greatest_r1 : List Cond := [Cond.fieldLink RX6 32 "RoundBounds" "trees" "LRoundBounds$LinkedTrees;", Cond.fieldLink RX6 39 "RoundBounds" "assignment" "LRoundBounds$Assignment;", Cond.constantLong RX6 100 (-1), Cond.methodLink RX6 113 Lib.MathLoose.max_long.x, Cond.static Lib.MathLoose.max_long.x, Cond.initialized "java/lang/Math", Cond.code Lib.MathLoose.max_long.x Lib.MathLoose.max_long.code 4 (some .long), Cond.methodLink RX6 89 yX2_bound, Cond.instanceMethod yX2_bound, Cond.selects RX2 yX2_bound yX2_bound, Cond.initialized RX2, Cond.code yX2_bound cX2_bound 5 (some .long), Cond.fieldLink RX2 21 "RoundBounds$LinkedTrees" "weights" "[I", Cond.fieldLink RX2 35 "RoundBounds$LinkedTrees" "bestRound" "I", Cond.constantLong RX2 48 (-1), Cond.fieldLink RX2 31 "RoundBounds$LinkedTrees" "worth" "J", Cond.constantLong RX2 58 (2), Cond.methodLink RX2 38 yJ7_fill_53178, Cond.static yJ7_fill_53178, Cond.initialized RJ7, Cond.code yJ7_fill_53178 cJ7_fill_53178 4 none, Cond.methodLink RX2 44 yX2_makeTree, Cond.instanceMethod yX2_makeTree, Cond.selects RX2 yX2_makeTree yX2_makeTree]
def wsX6_greatest_r2 : List Cond := [Cond.code yX2_makeTree cX2_makeTree 3 (some .boolean), Cond.fieldLink RX2 9 "RoundBounds$LinkedTrees" "net" "LRoundBounds$Net;", Cond.fieldLink RX2 25 "RoundBounds$LinkedTrees" "degrees" "[I", Cond.fieldLink RX2 28 "RoundBounds$LinkedTrees" "pieces" "[I", Cond.methodLink RX2 60 yX2_joinTwoPieces, Cond.instanceMethod yX2_joinTwoPieces, Cond.selects RX2 yX2_joinTwoPieces yX2_joinTwoPieces, Cond.code yX2_joinTwoPieces cX2_joinTwoPieces 5 (some .boolean), Cond.methodLink RX2 74 yX2_price, Cond.instanceMethod yX2_price, Cond.selects RX2 yX2_price yX2_price, Cond.code yX2_price cX2_price 3 (some .long), Cond.methodLink RX2 66 yX2_take, Cond.instanceMethod yX2_take, Cond.selects RX2 yX2_take yX2_take, Cond.code yX2_take cX2_take 3 none, Cond.methodLink RX2 78 yX2_uniteWith, Cond.instanceMethod yX2_uniteWith, Cond.selects RX2 yX2_uniteWith yX2_uniteWith, Cond.code yX2_uniteWith cX2_uniteWith 4 none, Cond.methodLink RX2 63 yX2_cheapestFromPlace0, Cond.instanceMethod yX2_cheapestFromPlace0, Cond.selects RX2 yX2_cheapestFromPlace0 yX2_cheapestFromPlace0, Cond.code yX2_cheapestFromPlace0 cX2_cheapestFromPlace0 4 (some .int)]
def wsX6_greatest_r3 : List Cond := [Cond.methodLink RX2 50 yX2_stepOf, Cond.static yX2_stepOf, Cond.code yX2_stepOf cX2_stepOf 2 (some .int), Cond.methodLink RX2 54 yX2_moveWeights, Cond.instanceMethod yX2_moveWeights, Cond.selects RX2 yX2_moveWeights yX2_moveWeights, Cond.code yX2_moveWeights cX2_moveWeights 3 none, Cond.methodLink RX6 96 yX0_leastSum, Cond.instanceMethod yX0_leastSum, Cond.selects RX0 yX0_leastSum yX0_leastSum, Cond.initialized RX0, Cond.code yX0_leastSum cX0_leastSum 2 (some .long), Cond.fieldLink RX0 21 "RoundBounds$Assignment" "rowPotential" "[J", Cond.fieldLink RX0 25 "RoundBounds$Assignment" "columnPotential" "[J", Cond.fieldLink RX0 31 "RoundBounds$Assignment" "rowOf" "[I", Cond.fieldLink RX0 9 "RoundBounds$Assignment" "net" "LRoundBounds$Net;", Cond.methodLink RX0 42 yJ7_fill_d0a16, Cond.static yJ7_fill_d0a16, Cond.code yJ7_fill_d0a16 cJ7_fill_d0a16 5 none, Cond.methodLink RX0 48 yJ7_fill_53178, Cond.methodLink RX0 51 yX0_findFreeColumn, Cond.instanceMethod yX0_findFreeColumn, Cond.selects RX0 yX0_findFreeColumn yX0_findFreeColumn, Cond.code yX0_findFreeColumn cX0_findFreeColumn 3 (some .int)]
def wsX6_greatest_r4 : List Cond := [Cond.fieldLink RX0 28 "RoundBounds$Assignment" "slack" "[J", Cond.constantLong RX0 63 (1000000000000), Cond.fieldLink RX0 35 "RoundBounds$Assignment" "columnBefore" "[I", Cond.fieldLink RX0 38 "RoundBounds$Assignment" "done" "[Z", Cond.methodLink RX0 65 yX0_lowerSlackFrom, Cond.instanceMethod yX0_lowerSlackFrom, Cond.selects RX0 yX0_lowerSlackFrom yX0_lowerSlackFrom, Cond.code yX0_lowerSlackFrom cX0_lowerSlackFrom 6 none, Cond.methodLink RX0 75 yX0_cost, Cond.instanceMethod yX0_cost, Cond.selects RX0 yX0_cost yX0_cost, Cond.code yX0_cost cX0_cost 4 (some .long), Cond.constantLong RX0 79 (100000000), Cond.methodLink RX0 68 yX0_nearestColumn, Cond.instanceMethod yX0_nearestColumn, Cond.selects RX0 yX0_nearestColumn yX0_nearestColumn, Cond.code yX0_nearestColumn cX0_nearestColumn 3 (some .int), Cond.methodLink RX0 71 yX0_shiftPotentials, Cond.instanceMethod yX0_shiftPotentials, Cond.selects RX0 yX0_shiftPotentials yX0_shiftPotentials, Cond.code yX0_shiftPotentials cX0_shiftPotentials 4 none, Cond.methodLink RX0 55 yX0_changeAlong, Cond.instanceMethod yX0_changeAlong, Cond.selects RX0 yX0_changeAlong yX0_changeAlong]
def wsX6_greatest_r5 : List Cond := [Cond.code yX0_changeAlong cX0_changeAlong 5 none, Cond.methodLink RX0 59 yX0_sumOfChosen, Cond.instanceMethod yX0_sumOfChosen, Cond.selects RX0 yX0_sumOfChosen yX0_sumOfChosen, Cond.code yX0_sumOfChosen cX0_sumOfChosen 4 (some .long), Cond.constantLong RX0 81 (-1)]
def wsX6_greatest : List Cond := .code yX6_greatest cX6_greatest 5 (some .long) :: ((wsX6_greatest_r1 ++ (wsX6_greatest_r2 ++ (wsX6_greatest_r3 ++ (wsX6_greatest_r4 ++ wsX6_greatest_r5)))) ++ wsX60 ++ wsX20 ++ wsX30 ++ wsX00)
def wsX6_linear_r1 : List Cond := [Cond.classLink RX6 119 "java/lang/ArithmeticException", Cond.initialized "java/lang/ArithmeticException", Cond.constantLong RX6 100 (-1), Cond.constantLong RX6 124 (1000), Cond.methodLink RX6 116 yX6_greatest, Cond.instanceMethod yX6_greatest, Cond.selects RX6 yX6_greatest yX6_greatest, Cond.initialized RX6, Cond.code yX6_greatest cX6_greatest 5 (some .long), Cond.fieldLink RX6 32 "RoundBounds" "trees" "LRoundBounds$LinkedTrees;", Cond.fieldLink RX6 39 "RoundBounds" "assignment" "LRoundBounds$Assignment;", Cond.methodLink RX6 113 Lib.MathLoose.max_long.x, Cond.static Lib.MathLoose.max_long.x, Cond.initialized "java/lang/Math", Cond.code Lib.MathLoose.max_long.x Lib.MathLoose.max_long.code 4 (some .long), Cond.methodLink RX6 89 yX2_bound, Cond.instanceMethod yX2_bound, Cond.selects RX2 yX2_bound yX2_bound, Cond.initialized RX2, Cond.code yX2_bound cX2_bound 5 (some .long), Cond.fieldLink RX2 21 "RoundBounds$LinkedTrees" "weights" "[I", Cond.fieldLink RX2 35 "RoundBounds$LinkedTrees" "bestRound" "I", Cond.constantLong RX2 48 (-1), Cond.fieldLink RX2 31 "RoundBounds$LinkedTrees" "worth" "J"]
def wsX6_linear_r2 : List Cond := [Cond.constantLong RX2 58 (2), Cond.methodLink RX2 38 yJ7_fill_53178, Cond.static yJ7_fill_53178, Cond.initialized RJ7, Cond.code yJ7_fill_53178 cJ7_fill_53178 4 none, Cond.methodLink RX2 44 yX2_makeTree, Cond.instanceMethod yX2_makeTree, Cond.selects RX2 yX2_makeTree yX2_makeTree, Cond.code yX2_makeTree cX2_makeTree 3 (some .boolean), Cond.fieldLink RX2 9 "RoundBounds$LinkedTrees" "net" "LRoundBounds$Net;", Cond.fieldLink RX2 25 "RoundBounds$LinkedTrees" "degrees" "[I", Cond.fieldLink RX2 28 "RoundBounds$LinkedTrees" "pieces" "[I", Cond.methodLink RX2 60 yX2_joinTwoPieces, Cond.instanceMethod yX2_joinTwoPieces, Cond.selects RX2 yX2_joinTwoPieces yX2_joinTwoPieces, Cond.code yX2_joinTwoPieces cX2_joinTwoPieces 5 (some .boolean), Cond.methodLink RX2 74 yX2_price, Cond.instanceMethod yX2_price, Cond.selects RX2 yX2_price yX2_price, Cond.code yX2_price cX2_price 3 (some .long), Cond.methodLink RX2 66 yX2_take, Cond.instanceMethod yX2_take, Cond.selects RX2 yX2_take yX2_take, Cond.code yX2_take cX2_take 3 none]
def wsX6_linear_r3 : List Cond := [Cond.methodLink RX2 78 yX2_uniteWith, Cond.instanceMethod yX2_uniteWith, Cond.selects RX2 yX2_uniteWith yX2_uniteWith, Cond.code yX2_uniteWith cX2_uniteWith 4 none, Cond.methodLink RX2 63 yX2_cheapestFromPlace0, Cond.instanceMethod yX2_cheapestFromPlace0, Cond.selects RX2 yX2_cheapestFromPlace0 yX2_cheapestFromPlace0, Cond.code yX2_cheapestFromPlace0 cX2_cheapestFromPlace0 4 (some .int), Cond.methodLink RX2 50 yX2_stepOf, Cond.static yX2_stepOf, Cond.code yX2_stepOf cX2_stepOf 2 (some .int), Cond.methodLink RX2 54 yX2_moveWeights, Cond.instanceMethod yX2_moveWeights, Cond.selects RX2 yX2_moveWeights yX2_moveWeights, Cond.code yX2_moveWeights cX2_moveWeights 3 none, Cond.methodLink RX6 96 yX0_leastSum, Cond.instanceMethod yX0_leastSum, Cond.selects RX0 yX0_leastSum yX0_leastSum, Cond.initialized RX0, Cond.code yX0_leastSum cX0_leastSum 2 (some .long), Cond.fieldLink RX0 21 "RoundBounds$Assignment" "rowPotential" "[J", Cond.fieldLink RX0 25 "RoundBounds$Assignment" "columnPotential" "[J", Cond.fieldLink RX0 31 "RoundBounds$Assignment" "rowOf" "[I", Cond.fieldLink RX0 9 "RoundBounds$Assignment" "net" "LRoundBounds$Net;"]
def wsX6_linear_r4 : List Cond := [Cond.methodLink RX0 42 yJ7_fill_d0a16, Cond.static yJ7_fill_d0a16, Cond.code yJ7_fill_d0a16 cJ7_fill_d0a16 5 none, Cond.methodLink RX0 48 yJ7_fill_53178, Cond.methodLink RX0 51 yX0_findFreeColumn, Cond.instanceMethod yX0_findFreeColumn, Cond.selects RX0 yX0_findFreeColumn yX0_findFreeColumn, Cond.code yX0_findFreeColumn cX0_findFreeColumn 3 (some .int), Cond.fieldLink RX0 28 "RoundBounds$Assignment" "slack" "[J", Cond.constantLong RX0 63 (1000000000000), Cond.fieldLink RX0 35 "RoundBounds$Assignment" "columnBefore" "[I", Cond.fieldLink RX0 38 "RoundBounds$Assignment" "done" "[Z", Cond.methodLink RX0 65 yX0_lowerSlackFrom, Cond.instanceMethod yX0_lowerSlackFrom, Cond.selects RX0 yX0_lowerSlackFrom yX0_lowerSlackFrom, Cond.code yX0_lowerSlackFrom cX0_lowerSlackFrom 6 none, Cond.methodLink RX0 75 yX0_cost, Cond.instanceMethod yX0_cost, Cond.selects RX0 yX0_cost yX0_cost, Cond.code yX0_cost cX0_cost 4 (some .long), Cond.constantLong RX0 79 (100000000), Cond.methodLink RX0 68 yX0_nearestColumn, Cond.instanceMethod yX0_nearestColumn, Cond.selects RX0 yX0_nearestColumn yX0_nearestColumn]
def wsX6_linear_r5 : List Cond := [Cond.code yX0_nearestColumn cX0_nearestColumn 3 (some .int), Cond.methodLink RX0 71 yX0_shiftPotentials, Cond.instanceMethod yX0_shiftPotentials, Cond.selects RX0 yX0_shiftPotentials yX0_shiftPotentials, Cond.code yX0_shiftPotentials cX0_shiftPotentials 4 none, Cond.methodLink RX0 55 yX0_changeAlong, Cond.instanceMethod yX0_changeAlong, Cond.selects RX0 yX0_changeAlong yX0_changeAlong, Cond.code yX0_changeAlong cX0_changeAlong 5 none, Cond.methodLink RX0 59 yX0_sumOfChosen, Cond.instanceMethod yX0_sumOfChosen, Cond.selects RX0 yX0_sumOfChosen yX0_sumOfChosen, Cond.code yX0_sumOfChosen cX0_sumOfChosen 4 (some .long), Cond.constantLong RX0 81 (-1)]
def wsX6_pickRow : List Cond := .code yX6_pickRow cX6_pickRow 7 none :: ([.fieldLink RX6 64 "RoundBounds" "row" "[I"] ++ wsX60)
def wsX6_lengthOfRow : List Cond := .code yX6_lengthOfRow cX6_lengthOfRow 7 (some .long) :: ([.fieldLink RX6 64 "RoundBounds" "row" "[I", .fieldLink RX6 23 "RoundBounds" "net" "LRoundBounds$Net;", .constantLong RX6 100 (-1)] ++ wsX60 ++ wsX30)
def wsX6_certificate_r1 : List Cond := [Cond.constant RX6 126 (2147483647), Cond.constantLong RX6 100 (-1), Cond.fieldLink RX6 32 "RoundBounds" "trees" "LRoundBounds$LinkedTrees;", Cond.fieldLink RX6 39 "RoundBounds" "assignment" "LRoundBounds$Assignment;", Cond.methodLink RX6 127 yX6_pickRow, Cond.instanceMethod yX6_pickRow, Cond.selects RX6 yX6_pickRow yX6_pickRow, Cond.initialized RX6, Cond.code yX6_pickRow cX6_pickRow 7 none, Cond.fieldLink RX6 64 "RoundBounds" "row" "[I", Cond.methodLink RX6 130 yX6_lengthOfRow, Cond.instanceMethod yX6_lengthOfRow, Cond.selects RX6 yX6_lengthOfRow yX6_lengthOfRow, Cond.code yX6_lengthOfRow cX6_lengthOfRow 7 (some .long), Cond.fieldLink RX6 23 "RoundBounds" "net" "LRoundBounds$Net;", Cond.methodLink RX6 89 yX2_bound, Cond.instanceMethod yX2_bound, Cond.selects RX2 yX2_bound yX2_bound, Cond.initialized RX2, Cond.code yX2_bound cX2_bound 5 (some .long), Cond.fieldLink RX2 21 "RoundBounds$LinkedTrees" "weights" "[I", Cond.fieldLink RX2 35 "RoundBounds$LinkedTrees" "bestRound" "I", Cond.constantLong RX2 48 (-1), Cond.fieldLink RX2 31 "RoundBounds$LinkedTrees" "worth" "J"]
def wsX6_certificate_r2 : List Cond := [Cond.constantLong RX2 58 (2), Cond.methodLink RX2 38 yJ7_fill_53178, Cond.static yJ7_fill_53178, Cond.initialized RJ7, Cond.code yJ7_fill_53178 cJ7_fill_53178 4 none, Cond.methodLink RX2 44 yX2_makeTree, Cond.instanceMethod yX2_makeTree, Cond.selects RX2 yX2_makeTree yX2_makeTree, Cond.code yX2_makeTree cX2_makeTree 3 (some .boolean), Cond.fieldLink RX2 9 "RoundBounds$LinkedTrees" "net" "LRoundBounds$Net;", Cond.fieldLink RX2 25 "RoundBounds$LinkedTrees" "degrees" "[I", Cond.fieldLink RX2 28 "RoundBounds$LinkedTrees" "pieces" "[I", Cond.methodLink RX2 60 yX2_joinTwoPieces, Cond.instanceMethod yX2_joinTwoPieces, Cond.selects RX2 yX2_joinTwoPieces yX2_joinTwoPieces, Cond.code yX2_joinTwoPieces cX2_joinTwoPieces 5 (some .boolean), Cond.methodLink RX2 74 yX2_price, Cond.instanceMethod yX2_price, Cond.selects RX2 yX2_price yX2_price, Cond.code yX2_price cX2_price 3 (some .long), Cond.methodLink RX2 66 yX2_take, Cond.instanceMethod yX2_take, Cond.selects RX2 yX2_take yX2_take, Cond.code yX2_take cX2_take 3 none]
def wsX6_certificate_r3 : List Cond := [Cond.methodLink RX2 78 yX2_uniteWith, Cond.instanceMethod yX2_uniteWith, Cond.selects RX2 yX2_uniteWith yX2_uniteWith, Cond.code yX2_uniteWith cX2_uniteWith 4 none, Cond.methodLink RX2 63 yX2_cheapestFromPlace0, Cond.instanceMethod yX2_cheapestFromPlace0, Cond.selects RX2 yX2_cheapestFromPlace0 yX2_cheapestFromPlace0, Cond.code yX2_cheapestFromPlace0 cX2_cheapestFromPlace0 4 (some .int), Cond.methodLink RX2 50 yX2_stepOf, Cond.static yX2_stepOf, Cond.code yX2_stepOf cX2_stepOf 2 (some .int), Cond.methodLink RX2 54 yX2_moveWeights, Cond.instanceMethod yX2_moveWeights, Cond.selects RX2 yX2_moveWeights yX2_moveWeights, Cond.code yX2_moveWeights cX2_moveWeights 3 none, Cond.methodLink RX6 96 yX0_leastSum, Cond.instanceMethod yX0_leastSum, Cond.selects RX0 yX0_leastSum yX0_leastSum, Cond.initialized RX0, Cond.code yX0_leastSum cX0_leastSum 2 (some .long), Cond.fieldLink RX0 21 "RoundBounds$Assignment" "rowPotential" "[J", Cond.fieldLink RX0 25 "RoundBounds$Assignment" "columnPotential" "[J", Cond.fieldLink RX0 31 "RoundBounds$Assignment" "rowOf" "[I", Cond.fieldLink RX0 9 "RoundBounds$Assignment" "net" "LRoundBounds$Net;"]
def wsX6_certificate_r4 : List Cond := [Cond.methodLink RX0 42 yJ7_fill_d0a16, Cond.static yJ7_fill_d0a16, Cond.code yJ7_fill_d0a16 cJ7_fill_d0a16 5 none, Cond.methodLink RX0 48 yJ7_fill_53178, Cond.methodLink RX0 51 yX0_findFreeColumn, Cond.instanceMethod yX0_findFreeColumn, Cond.selects RX0 yX0_findFreeColumn yX0_findFreeColumn, Cond.code yX0_findFreeColumn cX0_findFreeColumn 3 (some .int), Cond.fieldLink RX0 28 "RoundBounds$Assignment" "slack" "[J", Cond.constantLong RX0 63 (1000000000000), Cond.fieldLink RX0 35 "RoundBounds$Assignment" "columnBefore" "[I", Cond.fieldLink RX0 38 "RoundBounds$Assignment" "done" "[Z", Cond.methodLink RX0 65 yX0_lowerSlackFrom, Cond.instanceMethod yX0_lowerSlackFrom, Cond.selects RX0 yX0_lowerSlackFrom yX0_lowerSlackFrom, Cond.code yX0_lowerSlackFrom cX0_lowerSlackFrom 6 none, Cond.methodLink RX0 75 yX0_cost, Cond.instanceMethod yX0_cost, Cond.selects RX0 yX0_cost yX0_cost, Cond.code yX0_cost cX0_cost 4 (some .long), Cond.constantLong RX0 79 (100000000), Cond.methodLink RX0 68 yX0_nearestColumn, Cond.instanceMethod yX0_nearestColumn, Cond.selects RX0 yX0_nearestColumn yX0_nearestColumn]
def wsX6_certificate_r5 : List Cond := [Cond.code yX0_nearestColumn cX0_nearestColumn 3 (some .int), Cond.methodLink RX0 71 yX0_shiftPotentials, Cond.instanceMethod yX0_shiftPotentials, Cond.selects RX0 yX0_shiftPotentials yX0_shiftPotentials, Cond.code yX0_shiftPotentials cX0_shiftPotentials 4 none, Cond.methodLink RX0 55 yX0_changeAlong, Cond.instanceMethod yX0_changeAlong, Cond.selects RX0 yX0_changeAlong yX0_changeAlong, Cond.code yX0_changeAlong cX0_changeAlong 5 none, Cond.methodLink RX0 59 yX0_sumOfChosen, Cond.instanceMethod yX0_sumOfChosen, Cond.selects RX0 yX0_sumOfChosen yX0_sumOfChosen, Cond.code yX0_sumOfChosen cX0_sumOfChosen 4 (some .long), Cond.constantLong RX0 81 (-1)]
def wsX6_certificate : List Cond := .code yX6_certificate cX6_certificate 4 (some .boolean) :: ((wsX6_certificate_r1 ++ (wsX6_certificate_r2 ++ (wsX6_certificate_r3 ++ (wsX6_certificate_r4 ++ wsX6_certificate_r5)))) ++ wsX60 ++ wsX30 ++ wsX20 ++ wsX00)
def wsX7_init : List Cond := .code yX7_init cX7_init 3 none :: ([.methodLink RX7 1 objectInit, .instanceMethod objectInit, .code objectInit ⟨#[0xb1]⟩ 1 none, .arrayClass .long, .fieldLink RX7 7 "RoundBoundsModel" "ways" "[J", .arrayClass .int, .fieldLink RX7 13 "RoundBoundsModel" "paired" "[I", .fieldLink RX7 17 "RoundBoundsModel" "weights" "[J", .fieldLink RX7 20 "RoundBoundsModel" "degrees" "[I", .arrayClass .boolean, .fieldLink RX7 23 "RoundBoundsModel" "in" "[Z", .fieldLink RX7 27 "RoundBoundsModel" "sets" "[J", .fieldLink RX7 30 "RoundBoundsModel" "shortest" "[J", .fieldLink RX7 33 "RoundBoundsModel" "sent" "[I", .fieldLink RX7 36 "RoundBoundsModel" "spare" "[I", .fieldLink RX7 39 "RoundBoundsModel" "row" "[I", .fieldLink RX7 42 "RoundBoundsModel" "reach" "[J", .fieldLink RX7 45 "RoundBoundsModel" "by" "[I", .fieldLink RX7 48 "RoundBoundsModel" "n" "I", .constantLong RX7 52 (1000000000000)] ++ wsX70)
def wsX7_thrown : List Cond := .code yX7_thrown cX7_thrown 1 (some .int) :: ([.fieldLink RX7 54 "RoundBoundsModel" "thrown" "I"] ++ wsX70)
def wsX7_isPlace : List Cond := .code yX7_isPlace cX7_isPlace 2 (some .boolean) :: ([.fieldLink RX7 48 "RoundBoundsModel" "n" "I"] ++ wsX70)
def wsX7_way : List Cond := .code yX7_way cX7_way 5 none :: ([.fieldLink RX7 54 "RoundBoundsModel" "thrown" "I", .fieldLink RX7 7 "RoundBoundsModel" "ways" "[J", .constantLong RX7 61 (1000000), .constantLong RX7 52 (1000000000000), .methodLink RX7 57 yX7_isPlace, .instanceMethod yX7_isPlace, .selects RX7 yX7_isPlace yX7_isPlace, .initialized RX7, .code yX7_isPlace cX7_isPlace 2 (some .boolean), .fieldLink RX7 48 "RoundBoundsModel" "n" "I"] ++ wsX70)
def wsX7_way_ : List Cond := .code yX7_way_ cX7_way_ 3 (some .long) :: ([.fieldLink RX7 7 "RoundBoundsModel" "ways" "[J"] ++ wsX70)
def wsX7_length : List Cond := .code yX7_length cX7_length 3 (some .long) :: ([.methodLink RX7 63 yX7_way_, .instanceMethod yX7_way_, .selects RX7 yX7_way_ yX7_way_, .initialized RX7, .code yX7_way_ cX7_way_ 3 (some .long), .fieldLink RX7 7 "RoundBoundsModel" "ways" "[J"] ++ wsX70)
def wsX7_price : List Cond := .code yX7_price cX7_price 3 (some .long) :: ([.constantLong RX7 52 (1000000000000), .constantLong RX7 70 (2), .fieldLink RX7 17 "RoundBoundsModel" "weights" "[J", .methodLink RX7 67 yX7_length, .instanceMethod yX7_length, .selects RX7 yX7_length yX7_length, .initialized RX7, .code yX7_length cX7_length 3 (some .long), .methodLink RX7 63 yX7_way_, .instanceMethod yX7_way_, .selects RX7 yX7_way_ yX7_way_, .code yX7_way_ cX7_way_ 3 (some .long), .fieldLink RX7 7 "RoundBoundsModel" "ways" "[J"] ++ wsX70)
def wsX7_isBefore : List Cond := .code yX7_isBefore cX7_isBefore 7 (some .boolean) :: ([.methodLink RX7 72 yX7_price, .instanceMethod yX7_price, .selects RX7 yX7_price yX7_price, .initialized RX7, .code yX7_price cX7_price 3 (some .long), .constantLong RX7 52 (1000000000000), .constantLong RX7 70 (2), .fieldLink RX7 17 "RoundBoundsModel" "weights" "[J", .methodLink RX7 67 yX7_length, .instanceMethod yX7_length, .selects RX7 yX7_length yX7_length, .code yX7_length cX7_length 3 (some .long), .methodLink RX7 63 yX7_way_, .instanceMethod yX7_way_, .selects RX7 yX7_way_ yX7_way_, .code yX7_way_ cX7_way_ 3 (some .long), .fieldLink RX7 7 "RoundBoundsModel" "ways" "[J"] ++ wsX70)
def wsX7_take : List Cond := .code yX7_take cX7_take 3 none :: ([.fieldLink RX7 20 "RoundBoundsModel" "degrees" "[I", .fieldLink RX7 75 "RoundBoundsModel" "worth" "J", .methodLink RX7 72 yX7_price, .instanceMethod yX7_price, .selects RX7 yX7_price yX7_price, .initialized RX7, .code yX7_price cX7_price 3 (some .long), .constantLong RX7 52 (1000000000000), .constantLong RX7 70 (2), .fieldLink RX7 17 "RoundBoundsModel" "weights" "[J", .methodLink RX7 67 yX7_length, .instanceMethod yX7_length, .selects RX7 yX7_length yX7_length, .code yX7_length cX7_length 3 (some .long), .methodLink RX7 63 yX7_way_, .instanceMethod yX7_way_, .selects RX7 yX7_way_ yX7_way_, .code yX7_way_ cX7_way_ 3 (some .long), .fieldLink RX7 7 "RoundBoundsModel" "ways" "[J"] ++ wsX70)
def wsX7_link_r1 : List Cond := [Cond.fieldLink RX7 75 "RoundBoundsModel" "worth" "J", Cond.fieldLink RX7 48 "RoundBoundsModel" "n" "I", Cond.fieldLink RX7 20 "RoundBoundsModel" "degrees" "[I", Cond.fieldLink RX7 23 "RoundBoundsModel" "in" "[Z", Cond.constantLong RX7 52 (1000000000000), Cond.constantLong RX7 70 (2), Cond.fieldLink RX7 17 "RoundBoundsModel" "weights" "[J", Cond.methodLink RX7 67 yX7_length, Cond.instanceMethod yX7_length, Cond.selects RX7 yX7_length yX7_length, Cond.initialized RX7, Cond.code yX7_length cX7_length 3 (some .long), Cond.methodLink RX7 63 yX7_way_, Cond.instanceMethod yX7_way_, Cond.selects RX7 yX7_way_ yX7_way_, Cond.code yX7_way_ cX7_way_ 3 (some .long), Cond.fieldLink RX7 7 "RoundBoundsModel" "ways" "[J", Cond.methodLink RX7 79 yX7_isBefore, Cond.instanceMethod yX7_isBefore, Cond.selects RX7 yX7_isBefore yX7_isBefore, Cond.code yX7_isBefore cX7_isBefore 7 (some .boolean), Cond.methodLink RX7 72 yX7_price, Cond.instanceMethod yX7_price, Cond.selects RX7 yX7_price yX7_price]
def wsX7_link_r2 : List Cond := [Cond.code yX7_price cX7_price 3 (some .long), Cond.methodLink RX7 83 yX7_take, Cond.instanceMethod yX7_take, Cond.selects RX7 yX7_take yX7_take, Cond.code yX7_take cX7_take 3 none]
def wsX7_link : List Cond := .code yX7_link cX7_link 6 (some .boolean) :: ((wsX7_link_r1 ++ wsX7_link_r2) ++ wsX70)
def wsX7_grow_r1 : List Cond := [Cond.fieldLink RX7 48 "RoundBoundsModel" "n" "I", Cond.fieldLink RX7 17 "RoundBoundsModel" "weights" "[J", Cond.constantLong RX7 87 (-1000000000000), Cond.fieldLink RX7 89 "RoundBoundsModel" "bestRound" "I", Cond.constantLong RX7 52 (1000000000000), Cond.fieldLink RX7 75 "RoundBoundsModel" "worth" "J", Cond.fieldLink RX7 20 "RoundBoundsModel" "degrees" "[I", Cond.methodLink RX7 92 yX7_link, Cond.instanceMethod yX7_link, Cond.selects RX7 yX7_link yX7_link, Cond.initialized RX7, Cond.code yX7_link cX7_link 6 (some .boolean), Cond.fieldLink RX7 23 "RoundBoundsModel" "in" "[Z", Cond.constantLong RX7 70 (2), Cond.methodLink RX7 67 yX7_length, Cond.instanceMethod yX7_length, Cond.selects RX7 yX7_length yX7_length, Cond.code yX7_length cX7_length 3 (some .long), Cond.methodLink RX7 63 yX7_way_, Cond.instanceMethod yX7_way_, Cond.selects RX7 yX7_way_ yX7_way_, Cond.code yX7_way_ cX7_way_ 3 (some .long), Cond.fieldLink RX7 7 "RoundBoundsModel" "ways" "[J", Cond.methodLink RX7 79 yX7_isBefore]
def wsX7_grow_r2 : List Cond := [Cond.instanceMethod yX7_isBefore, Cond.selects RX7 yX7_isBefore yX7_isBefore, Cond.code yX7_isBefore cX7_isBefore 7 (some .boolean), Cond.methodLink RX7 72 yX7_price, Cond.instanceMethod yX7_price, Cond.selects RX7 yX7_price yX7_price, Cond.code yX7_price cX7_price 3 (some .long), Cond.methodLink RX7 83 yX7_take, Cond.instanceMethod yX7_take, Cond.selects RX7 yX7_take yX7_take, Cond.code yX7_take cX7_take 3 none]
def wsX7_grow : List Cond := .code yX7_grow cX7_grow 7 (some .long) :: ((wsX7_grow_r1 ++ wsX7_grow_r2) ++ wsX70)
def wsX7_half : List Cond := .code yX7_half cX7_half 2 (some .long) :: ([.constantLong RX7 52 (1000000000000), .constantLong RX7 96 (-1), .constantLong RX7 70 (2)])
def wsX7_tree_r1 : List Cond := [Cond.fieldLink RX7 54 "RoundBoundsModel" "thrown" "I", Cond.methodLink RX7 98 yX7_grow, Cond.instanceMethod yX7_grow, Cond.selects RX7 yX7_grow yX7_grow, Cond.initialized RX7, Cond.code yX7_grow cX7_grow 7 (some .long), Cond.fieldLink RX7 48 "RoundBoundsModel" "n" "I", Cond.fieldLink RX7 17 "RoundBoundsModel" "weights" "[J", Cond.constantLong RX7 87 (-1000000000000), Cond.fieldLink RX7 89 "RoundBoundsModel" "bestRound" "I", Cond.constantLong RX7 52 (1000000000000), Cond.fieldLink RX7 75 "RoundBoundsModel" "worth" "J", Cond.fieldLink RX7 20 "RoundBoundsModel" "degrees" "[I", Cond.methodLink RX7 92 yX7_link, Cond.instanceMethod yX7_link, Cond.selects RX7 yX7_link yX7_link, Cond.code yX7_link cX7_link 6 (some .boolean), Cond.fieldLink RX7 23 "RoundBoundsModel" "in" "[Z", Cond.constantLong RX7 70 (2), Cond.methodLink RX7 67 yX7_length, Cond.instanceMethod yX7_length, Cond.selects RX7 yX7_length yX7_length, Cond.code yX7_length cX7_length 3 (some .long), Cond.methodLink RX7 63 yX7_way_]
def wsX7_tree_r2 : List Cond := [Cond.instanceMethod yX7_way_, Cond.selects RX7 yX7_way_ yX7_way_, Cond.code yX7_way_ cX7_way_ 3 (some .long), Cond.fieldLink RX7 7 "RoundBoundsModel" "ways" "[J", Cond.methodLink RX7 79 yX7_isBefore, Cond.instanceMethod yX7_isBefore, Cond.selects RX7 yX7_isBefore yX7_isBefore, Cond.code yX7_isBefore cX7_isBefore 7 (some .boolean), Cond.methodLink RX7 72 yX7_price, Cond.instanceMethod yX7_price, Cond.selects RX7 yX7_price yX7_price, Cond.code yX7_price cX7_price 3 (some .long), Cond.methodLink RX7 83 yX7_take, Cond.instanceMethod yX7_take, Cond.selects RX7 yX7_take yX7_take, Cond.code yX7_take cX7_take 3 none, Cond.methodLink RX7 102 yX7_half, Cond.static yX7_half, Cond.code yX7_half cX7_half 2 (some .long), Cond.constantLong RX7 96 (-1)]
def wsX7_tree : List Cond := .code yX7_tree cX7_tree 2 (some .long) :: ((wsX7_tree_r1 ++ wsX7_tree_r2) ++ wsX70)
def wsX7_rounds : List Cond := .code yX7_rounds cX7_rounds 1 (some .int) :: ([.fieldLink RX7 54 "RoundBoundsModel" "thrown" "I", .fieldLink RX7 89 "RoundBoundsModel" "bestRound" "I"] ++ wsX70)
def wsX7_assignNow : List Cond := .code yX7_assignNow cX7_assignNow 5 (some .long) :: ([.fieldLink RX7 48 "RoundBoundsModel" "n" "I", .fieldLink RX7 27 "RoundBoundsModel" "sets" "[J", .constantLong RX7 52 (1000000000000), .constantLong RX7 96 (-1), .methodLink RX7 63 yX7_way_, .instanceMethod yX7_way_, .selects RX7 yX7_way_ yX7_way_, .initialized RX7, .code yX7_way_ cX7_way_ 3 (some .long), .fieldLink RX7 7 "RoundBoundsModel" "ways" "[J"] ++ wsX70)
def wsX7_assign : List Cond := .code yX7_assign cX7_assign 1 (some .long) :: ([.fieldLink RX7 54 "RoundBoundsModel" "thrown" "I", .methodLink RX7 106 yX7_assignNow, .instanceMethod yX7_assignNow, .selects RX7 yX7_assignNow yX7_assignNow, .initialized RX7, .code yX7_assignNow cX7_assignNow 5 (some .long), .fieldLink RX7 48 "RoundBoundsModel" "n" "I", .fieldLink RX7 27 "RoundBoundsModel" "sets" "[J", .constantLong RX7 52 (1000000000000), .constantLong RX7 96 (-1), .methodLink RX7 63 yX7_way_, .instanceMethod yX7_way_, .selects RX7 yX7_way_ yX7_way_, .code yX7_way_ cX7_way_ 3 (some .long), .fieldLink RX7 7 "RoundBoundsModel" "ways" "[J"] ++ wsX70)
def wsX7_cut : List Cond := .code yX7_cut cX7_cut 11 (some .long) :: ([.fieldLink RX7 54 "RoundBoundsModel" "thrown" "I", .constantLong RX7 96 (-1), .constantLong RX7 52 (1000000000000), .fieldLink RX7 48 "RoundBoundsModel" "n" "I", .methodLink RX7 57 yX7_isPlace, .instanceMethod yX7_isPlace, .selects RX7 yX7_isPlace yX7_isPlace, .initialized RX7, .code yX7_isPlace cX7_isPlace 2 (some .boolean), .methodLink RX7 67 yX7_length, .instanceMethod yX7_length, .selects RX7 yX7_length yX7_length, .code yX7_length cX7_length 3 (some .long), .methodLink RX7 63 yX7_way_, .instanceMethod yX7_way_, .selects RX7 yX7_way_ yX7_way_, .code yX7_way_ cX7_way_ 3 (some .long), .fieldLink RX7 7 "RoundBoundsModel" "ways" "[J"] ++ wsX70)
def wsX7_has : List Cond := .code yX7_has cX7_has 5 (some .boolean) :: ([.fieldLink RX7 48 "RoundBoundsModel" "n" "I", .constantLong RX7 52 (1000000000000), .methodLink RX7 67 yX7_length, .instanceMethod yX7_length, .selects RX7 yX7_length yX7_length, .initialized RX7, .code yX7_length cX7_length 3 (some .long), .methodLink RX7 63 yX7_way_, .instanceMethod yX7_way_, .selects RX7 yX7_way_ yX7_way_, .code yX7_way_ cX7_way_ 3 (some .long), .fieldLink RX7 7 "RoundBoundsModel" "ways" "[J"] ++ wsX70)
def wsX7_shorten : List Cond := .code yX7_shorten cX7_shorten 9 (some .boolean) :: ([.fieldLink RX7 30 "RoundBoundsModel" "shortest" "[J", .fieldLink RX7 48 "RoundBoundsModel" "n" "I", .constantLong RX7 52 (1000000000000), .methodLink RX7 63 yX7_way_, .instanceMethod yX7_way_, .selects RX7 yX7_way_ yX7_way_, .initialized RX7, .code yX7_way_ cX7_way_ 3 (some .long), .fieldLink RX7 7 "RoundBoundsModel" "ways" "[J", .methodLink RX7 67 yX7_length, .instanceMethod yX7_length, .selects RX7 yX7_length yX7_length, .code yX7_length cX7_length 3 (some .long), .methodLink RX7 110 yX7_has, .instanceMethod yX7_has, .selects RX7 yX7_has yX7_has, .code yX7_has cX7_has 5 (some .boolean)] ++ wsX70)
def wsX7_least : List Cond := .code yX7_least cX7_least 3 (some .int) :: ([])
def wsX7_both : List Cond := .code yX7_both cX7_both 7 (some .long) :: ([.fieldLink RX7 48 "RoundBoundsModel" "n" "I", .constantLong RX7 52 (1000000000000), .fieldLink RX7 27 "RoundBoundsModel" "sets" "[J", .fieldLink RX7 30 "RoundBoundsModel" "shortest" "[J", .fieldLink RX7 118 "RoundBoundsModel" "pairs" "I", .fieldLink RX7 13 "RoundBoundsModel" "paired" "[I", .methodLink RX7 67 yX7_length, .instanceMethod yX7_length, .selects RX7 yX7_length yX7_length, .initialized RX7, .code yX7_length cX7_length 3 (some .long), .methodLink RX7 63 yX7_way_, .instanceMethod yX7_way_, .selects RX7 yX7_way_ yX7_way_, .code yX7_way_ cX7_way_ 3 (some .long), .fieldLink RX7 7 "RoundBoundsModel" "ways" "[J", .methodLink RX7 114 yX7_least, .instanceMethod yX7_least, .selects RX7 yX7_least yX7_least, .code yX7_least cX7_least 3 (some .int)] ++ wsX70)
def wsX7_sends : List Cond := .code yX7_sends cX7_sends 4 (some .boolean) :: ([.fieldLink RX7 48 "RoundBoundsModel" "n" "I", .fieldLink RX7 33 "RoundBoundsModel" "sent" "[I"] ++ wsX70)
def wsX7_gets : List Cond := .code yX7_gets cX7_gets 4 (some .boolean) :: ([.fieldLink RX7 48 "RoundBoundsModel" "n" "I", .fieldLink RX7 33 "RoundBoundsModel" "sent" "[I"] ++ wsX70)
def wsX7_step : List Cond := .code yX7_step cX7_step 3 (some .long) :: ([.fieldLink RX7 30 "RoundBoundsModel" "shortest" "[J", .fieldLink RX7 33 "RoundBoundsModel" "sent" "[I", .constantLong RX7 52 (1000000000000), .methodLink RX7 124 yX7_sends, .instanceMethod yX7_sends, .selects RX7 yX7_sends yX7_sends, .initialized RX7, .code yX7_sends cX7_sends 4 (some .boolean), .fieldLink RX7 48 "RoundBoundsModel" "n" "I", .methodLink RX7 127 yX7_gets, .instanceMethod yX7_gets, .selects RX7 yX7_gets yX7_gets, .code yX7_gets cX7_gets 4 (some .boolean)] ++ wsX70)
def wsX7_cheaper : List Cond := .code yX7_cheaper cX7_cheaper 6 (some .boolean) :: ([.fieldLink RX7 42 "RoundBoundsModel" "reach" "[J", .fieldLink RX7 45 "RoundBoundsModel" "by" "[I", .constantLong RX7 52 (1000000000000), .fieldLink RX7 33 "RoundBoundsModel" "sent" "[I", .methodLink RX7 130 yX7_step, .instanceMethod yX7_step, .selects RX7 yX7_step yX7_step, .initialized RX7, .code yX7_step cX7_step 3 (some .long), .fieldLink RX7 30 "RoundBoundsModel" "shortest" "[J", .methodLink RX7 124 yX7_sends, .instanceMethod yX7_sends, .selects RX7 yX7_sends yX7_sends, .code yX7_sends cX7_sends 4 (some .boolean), .fieldLink RX7 48 "RoundBoundsModel" "n" "I", .methodLink RX7 127 yX7_gets, .instanceMethod yX7_gets, .selects RX7 yX7_gets yX7_gets, .code yX7_gets cX7_gets 4 (some .boolean)] ++ wsX70)
def wsX7_one_r1 : List Cond := [Cond.fieldLink RX7 48 "RoundBoundsModel" "n" "I", Cond.fieldLink RX7 36 "RoundBoundsModel" "spare" "[I", Cond.fieldLink RX7 33 "RoundBoundsModel" "sent" "[I", Cond.constantLong RX7 52 (1000000000000), Cond.fieldLink RX7 30 "RoundBoundsModel" "shortest" "[J", Cond.methodLink RX7 63 yX7_way_, Cond.instanceMethod yX7_way_, Cond.selects RX7 yX7_way_ yX7_way_, Cond.initialized RX7, Cond.code yX7_way_ cX7_way_ 3 (some .long), Cond.fieldLink RX7 7 "RoundBoundsModel" "ways" "[J", Cond.methodLink RX7 121 yX7_cheaper, Cond.instanceMethod yX7_cheaper, Cond.selects RX7 yX7_cheaper yX7_cheaper, Cond.code yX7_cheaper cX7_cheaper 6 (some .boolean), Cond.fieldLink RX7 42 "RoundBoundsModel" "reach" "[J", Cond.fieldLink RX7 45 "RoundBoundsModel" "by" "[I", Cond.methodLink RX7 130 yX7_step, Cond.instanceMethod yX7_step, Cond.selects RX7 yX7_step yX7_step, Cond.code yX7_step cX7_step 3 (some .long), Cond.methodLink RX7 124 yX7_sends, Cond.instanceMethod yX7_sends, Cond.selects RX7 yX7_sends yX7_sends]
def wsX7_one_r2 : List Cond := [Cond.code yX7_sends cX7_sends 4 (some .boolean), Cond.methodLink RX7 127 yX7_gets, Cond.instanceMethod yX7_gets, Cond.selects RX7 yX7_gets yX7_gets, Cond.code yX7_gets cX7_gets 4 (some .boolean)]
def wsX7_one : List Cond := .code yX7_one cX7_one 5 (some .long) :: ((wsX7_one_r1 ++ wsX7_one_r2) ++ wsX70)
def wsX7_postman_r1 : List Cond := [Cond.fieldLink RX7 54 "RoundBoundsModel" "thrown" "I", Cond.constantLong RX7 96 (-1), Cond.methodLink RX7 133 yX7_shorten, Cond.instanceMethod yX7_shorten, Cond.selects RX7 yX7_shorten yX7_shorten, Cond.initialized RX7, Cond.code yX7_shorten cX7_shorten 9 (some .boolean), Cond.fieldLink RX7 30 "RoundBoundsModel" "shortest" "[J", Cond.fieldLink RX7 48 "RoundBoundsModel" "n" "I", Cond.constantLong RX7 52 (1000000000000), Cond.methodLink RX7 63 yX7_way_, Cond.instanceMethod yX7_way_, Cond.selects RX7 yX7_way_ yX7_way_, Cond.code yX7_way_ cX7_way_ 3 (some .long), Cond.fieldLink RX7 7 "RoundBoundsModel" "ways" "[J", Cond.methodLink RX7 67 yX7_length, Cond.instanceMethod yX7_length, Cond.selects RX7 yX7_length yX7_length, Cond.code yX7_length cX7_length 3 (some .long), Cond.methodLink RX7 110 yX7_has, Cond.instanceMethod yX7_has, Cond.selects RX7 yX7_has yX7_has, Cond.code yX7_has cX7_has 5 (some .boolean), Cond.methodLink RX7 137 yX7_one]
def wsX7_postman_r2 : List Cond := [Cond.instanceMethod yX7_one, Cond.selects RX7 yX7_one yX7_one, Cond.code yX7_one cX7_one 5 (some .long), Cond.fieldLink RX7 36 "RoundBoundsModel" "spare" "[I", Cond.fieldLink RX7 33 "RoundBoundsModel" "sent" "[I", Cond.methodLink RX7 121 yX7_cheaper, Cond.instanceMethod yX7_cheaper, Cond.selects RX7 yX7_cheaper yX7_cheaper, Cond.code yX7_cheaper cX7_cheaper 6 (some .boolean), Cond.fieldLink RX7 42 "RoundBoundsModel" "reach" "[J", Cond.fieldLink RX7 45 "RoundBoundsModel" "by" "[I", Cond.methodLink RX7 130 yX7_step, Cond.instanceMethod yX7_step, Cond.selects RX7 yX7_step yX7_step, Cond.code yX7_step cX7_step 3 (some .long), Cond.methodLink RX7 124 yX7_sends, Cond.instanceMethod yX7_sends, Cond.selects RX7 yX7_sends yX7_sends, Cond.code yX7_sends cX7_sends 4 (some .boolean), Cond.methodLink RX7 127 yX7_gets, Cond.instanceMethod yX7_gets, Cond.selects RX7 yX7_gets yX7_gets, Cond.code yX7_gets cX7_gets 4 (some .boolean), Cond.methodLink RX7 140 yX7_both]
def wsX7_postman_r3 : List Cond := [Cond.instanceMethod yX7_both, Cond.selects RX7 yX7_both yX7_both, Cond.code yX7_both cX7_both 7 (some .long), Cond.fieldLink RX7 27 "RoundBoundsModel" "sets" "[J", Cond.fieldLink RX7 118 "RoundBoundsModel" "pairs" "I", Cond.fieldLink RX7 13 "RoundBoundsModel" "paired" "[I", Cond.methodLink RX7 114 yX7_least, Cond.instanceMethod yX7_least, Cond.selects RX7 yX7_least yX7_least, Cond.code yX7_least cX7_least 3 (some .int)]
def wsX7_postman : List Cond := .code yX7_postman cX7_postman 2 (some .long) :: ((wsX7_postman_r1 ++ (wsX7_postman_r2 ++ wsX7_postman_r3)) ++ wsX70)
def wsX7_pair : List Cond := .code yX7_pair cX7_pair 3 (some .int) :: ([.fieldLink RX7 54 "RoundBoundsModel" "thrown" "I", .fieldLink RX7 118 "RoundBoundsModel" "pairs" "I", .fieldLink RX7 13 "RoundBoundsModel" "paired" "[I"] ++ wsX70)
def wsX7_greatestNow_r1 : List Cond := [Cond.fieldLink RX7 89 "RoundBoundsModel" "bestRound" "I", Cond.constantLong RX7 96 (-1), Cond.methodLink RX7 98 yX7_grow, Cond.instanceMethod yX7_grow, Cond.selects RX7 yX7_grow yX7_grow, Cond.initialized RX7, Cond.code yX7_grow cX7_grow 7 (some .long), Cond.fieldLink RX7 48 "RoundBoundsModel" "n" "I", Cond.fieldLink RX7 17 "RoundBoundsModel" "weights" "[J", Cond.constantLong RX7 87 (-1000000000000), Cond.constantLong RX7 52 (1000000000000), Cond.fieldLink RX7 75 "RoundBoundsModel" "worth" "J", Cond.fieldLink RX7 20 "RoundBoundsModel" "degrees" "[I", Cond.methodLink RX7 92 yX7_link, Cond.instanceMethod yX7_link, Cond.selects RX7 yX7_link yX7_link, Cond.code yX7_link cX7_link 6 (some .boolean), Cond.fieldLink RX7 23 "RoundBoundsModel" "in" "[Z", Cond.constantLong RX7 70 (2), Cond.methodLink RX7 67 yX7_length, Cond.instanceMethod yX7_length, Cond.selects RX7 yX7_length yX7_length, Cond.code yX7_length cX7_length 3 (some .long), Cond.methodLink RX7 63 yX7_way_]
def wsX7_greatestNow_r2 : List Cond := [Cond.instanceMethod yX7_way_, Cond.selects RX7 yX7_way_ yX7_way_, Cond.code yX7_way_ cX7_way_ 3 (some .long), Cond.fieldLink RX7 7 "RoundBoundsModel" "ways" "[J", Cond.methodLink RX7 79 yX7_isBefore, Cond.instanceMethod yX7_isBefore, Cond.selects RX7 yX7_isBefore yX7_isBefore, Cond.code yX7_isBefore cX7_isBefore 7 (some .boolean), Cond.methodLink RX7 72 yX7_price, Cond.instanceMethod yX7_price, Cond.selects RX7 yX7_price yX7_price, Cond.code yX7_price cX7_price 3 (some .long), Cond.methodLink RX7 83 yX7_take, Cond.instanceMethod yX7_take, Cond.selects RX7 yX7_take yX7_take, Cond.code yX7_take cX7_take 3 none, Cond.methodLink RX7 102 yX7_half, Cond.static yX7_half, Cond.code yX7_half cX7_half 2 (some .long), Cond.methodLink RX7 106 yX7_assignNow, Cond.instanceMethod yX7_assignNow, Cond.selects RX7 yX7_assignNow yX7_assignNow, Cond.code yX7_assignNow cX7_assignNow 5 (some .long), Cond.fieldLink RX7 27 "RoundBoundsModel" "sets" "[J"]
def wsX7_greatestNow : List Cond := .code yX7_greatestNow cX7_greatestNow 6 (some .long) :: ((wsX7_greatestNow_r1 ++ wsX7_greatestNow_r2) ++ wsX70)
def wsX7_greatest_r1 : List Cond := [Cond.fieldLink RX7 54 "RoundBoundsModel" "thrown" "I", Cond.methodLink RX7 143 yX7_greatestNow, Cond.instanceMethod yX7_greatestNow, Cond.selects RX7 yX7_greatestNow yX7_greatestNow, Cond.initialized RX7, Cond.code yX7_greatestNow cX7_greatestNow 6 (some .long), Cond.fieldLink RX7 89 "RoundBoundsModel" "bestRound" "I", Cond.constantLong RX7 96 (-1), Cond.methodLink RX7 98 yX7_grow, Cond.instanceMethod yX7_grow, Cond.selects RX7 yX7_grow yX7_grow, Cond.code yX7_grow cX7_grow 7 (some .long), Cond.fieldLink RX7 48 "RoundBoundsModel" "n" "I", Cond.fieldLink RX7 17 "RoundBoundsModel" "weights" "[J", Cond.constantLong RX7 87 (-1000000000000), Cond.constantLong RX7 52 (1000000000000), Cond.fieldLink RX7 75 "RoundBoundsModel" "worth" "J", Cond.fieldLink RX7 20 "RoundBoundsModel" "degrees" "[I", Cond.methodLink RX7 92 yX7_link, Cond.instanceMethod yX7_link, Cond.selects RX7 yX7_link yX7_link, Cond.code yX7_link cX7_link 6 (some .boolean), Cond.fieldLink RX7 23 "RoundBoundsModel" "in" "[Z", Cond.constantLong RX7 70 (2)]
def wsX7_greatest_r2 : List Cond := [Cond.methodLink RX7 67 yX7_length, Cond.instanceMethod yX7_length, Cond.selects RX7 yX7_length yX7_length, Cond.code yX7_length cX7_length 3 (some .long), Cond.methodLink RX7 63 yX7_way_, Cond.instanceMethod yX7_way_, Cond.selects RX7 yX7_way_ yX7_way_, Cond.code yX7_way_ cX7_way_ 3 (some .long), Cond.fieldLink RX7 7 "RoundBoundsModel" "ways" "[J", Cond.methodLink RX7 79 yX7_isBefore, Cond.instanceMethod yX7_isBefore, Cond.selects RX7 yX7_isBefore yX7_isBefore, Cond.code yX7_isBefore cX7_isBefore 7 (some .boolean), Cond.methodLink RX7 72 yX7_price, Cond.instanceMethod yX7_price, Cond.selects RX7 yX7_price yX7_price, Cond.code yX7_price cX7_price 3 (some .long), Cond.methodLink RX7 83 yX7_take, Cond.instanceMethod yX7_take, Cond.selects RX7 yX7_take yX7_take, Cond.code yX7_take cX7_take 3 none, Cond.methodLink RX7 102 yX7_half, Cond.static yX7_half, Cond.code yX7_half cX7_half 2 (some .long)]
def wsX7_greatest_r3 : List Cond := [Cond.methodLink RX7 106 yX7_assignNow, Cond.instanceMethod yX7_assignNow, Cond.selects RX7 yX7_assignNow yX7_assignNow, Cond.code yX7_assignNow cX7_assignNow 5 (some .long), Cond.fieldLink RX7 27 "RoundBoundsModel" "sets" "[J"]
def wsX7_greatest : List Cond := .code yX7_greatest cX7_greatest 1 (some .long) :: ((wsX7_greatest_r1 ++ (wsX7_greatest_r2 ++ wsX7_greatest_r3)) ++ wsX70)
def wsX7_linear_r1 : List Cond := [Cond.constantLong RX7 96 (-1), Cond.fieldLink RX7 54 "RoundBoundsModel" "thrown" "I", Cond.constantLong RX7 146 (1000), Cond.methodLink RX7 143 yX7_greatestNow, Cond.instanceMethod yX7_greatestNow, Cond.selects RX7 yX7_greatestNow yX7_greatestNow, Cond.initialized RX7, Cond.code yX7_greatestNow cX7_greatestNow 6 (some .long), Cond.fieldLink RX7 89 "RoundBoundsModel" "bestRound" "I", Cond.methodLink RX7 98 yX7_grow, Cond.instanceMethod yX7_grow, Cond.selects RX7 yX7_grow yX7_grow, Cond.code yX7_grow cX7_grow 7 (some .long), Cond.fieldLink RX7 48 "RoundBoundsModel" "n" "I", Cond.fieldLink RX7 17 "RoundBoundsModel" "weights" "[J", Cond.constantLong RX7 87 (-1000000000000), Cond.constantLong RX7 52 (1000000000000), Cond.fieldLink RX7 75 "RoundBoundsModel" "worth" "J", Cond.fieldLink RX7 20 "RoundBoundsModel" "degrees" "[I", Cond.methodLink RX7 92 yX7_link, Cond.instanceMethod yX7_link, Cond.selects RX7 yX7_link yX7_link, Cond.code yX7_link cX7_link 6 (some .boolean), Cond.fieldLink RX7 23 "RoundBoundsModel" "in" "[Z"]
def wsX7_linear_r2 : List Cond := [Cond.constantLong RX7 70 (2), Cond.methodLink RX7 67 yX7_length, Cond.instanceMethod yX7_length, Cond.selects RX7 yX7_length yX7_length, Cond.code yX7_length cX7_length 3 (some .long), Cond.methodLink RX7 63 yX7_way_, Cond.instanceMethod yX7_way_, Cond.selects RX7 yX7_way_ yX7_way_, Cond.code yX7_way_ cX7_way_ 3 (some .long), Cond.fieldLink RX7 7 "RoundBoundsModel" "ways" "[J", Cond.methodLink RX7 79 yX7_isBefore, Cond.instanceMethod yX7_isBefore, Cond.selects RX7 yX7_isBefore yX7_isBefore, Cond.code yX7_isBefore cX7_isBefore 7 (some .boolean), Cond.methodLink RX7 72 yX7_price, Cond.instanceMethod yX7_price, Cond.selects RX7 yX7_price yX7_price, Cond.code yX7_price cX7_price 3 (some .long), Cond.methodLink RX7 83 yX7_take, Cond.instanceMethod yX7_take, Cond.selects RX7 yX7_take yX7_take, Cond.code yX7_take cX7_take 3 none, Cond.methodLink RX7 102 yX7_half, Cond.static yX7_half]
def wsX7_linear_r3 : List Cond := [Cond.code yX7_half cX7_half 2 (some .long), Cond.methodLink RX7 106 yX7_assignNow, Cond.instanceMethod yX7_assignNow, Cond.selects RX7 yX7_assignNow yX7_assignNow, Cond.code yX7_assignNow cX7_assignNow 5 (some .long), Cond.fieldLink RX7 27 "RoundBoundsModel" "sets" "[J"]
def wsX7_linear : List Cond := .code yX7_linear cX7_linear 4 (some .long) :: ((wsX7_linear_r1 ++ (wsX7_linear_r2 ++ wsX7_linear_r3)) ++ wsX70)
def wsX7_certificate_r1 : List Cond := [Cond.fieldLink RX7 54 "RoundBoundsModel" "thrown" "I", Cond.fieldLink RX7 48 "RoundBoundsModel" "n" "I", Cond.constant RX7 148 (2147483647), Cond.fieldLink RX7 39 "RoundBoundsModel" "row" "[I", Cond.constantLong RX7 52 (1000000000000), Cond.methodLink RX7 63 yX7_way_, Cond.instanceMethod yX7_way_, Cond.selects RX7 yX7_way_ yX7_way_, Cond.initialized RX7, Cond.code yX7_way_ cX7_way_ 3 (some .long), Cond.fieldLink RX7 7 "RoundBoundsModel" "ways" "[J", Cond.methodLink RX7 143 yX7_greatestNow, Cond.instanceMethod yX7_greatestNow, Cond.selects RX7 yX7_greatestNow yX7_greatestNow, Cond.code yX7_greatestNow cX7_greatestNow 6 (some .long), Cond.fieldLink RX7 89 "RoundBoundsModel" "bestRound" "I", Cond.constantLong RX7 96 (-1), Cond.methodLink RX7 98 yX7_grow, Cond.instanceMethod yX7_grow, Cond.selects RX7 yX7_grow yX7_grow, Cond.code yX7_grow cX7_grow 7 (some .long), Cond.fieldLink RX7 17 "RoundBoundsModel" "weights" "[J", Cond.constantLong RX7 87 (-1000000000000), Cond.fieldLink RX7 75 "RoundBoundsModel" "worth" "J"]
def wsX7_certificate_r2 : List Cond := [Cond.fieldLink RX7 20 "RoundBoundsModel" "degrees" "[I", Cond.methodLink RX7 92 yX7_link, Cond.instanceMethod yX7_link, Cond.selects RX7 yX7_link yX7_link, Cond.code yX7_link cX7_link 6 (some .boolean), Cond.fieldLink RX7 23 "RoundBoundsModel" "in" "[Z", Cond.constantLong RX7 70 (2), Cond.methodLink RX7 67 yX7_length, Cond.instanceMethod yX7_length, Cond.selects RX7 yX7_length yX7_length, Cond.code yX7_length cX7_length 3 (some .long), Cond.methodLink RX7 79 yX7_isBefore, Cond.instanceMethod yX7_isBefore, Cond.selects RX7 yX7_isBefore yX7_isBefore, Cond.code yX7_isBefore cX7_isBefore 7 (some .boolean), Cond.methodLink RX7 72 yX7_price, Cond.instanceMethod yX7_price, Cond.selects RX7 yX7_price yX7_price, Cond.code yX7_price cX7_price 3 (some .long), Cond.methodLink RX7 83 yX7_take, Cond.instanceMethod yX7_take, Cond.selects RX7 yX7_take yX7_take, Cond.code yX7_take cX7_take 3 none, Cond.methodLink RX7 102 yX7_half]
def wsX7_certificate_r3 : List Cond := [Cond.static yX7_half, Cond.code yX7_half cX7_half 2 (some .long), Cond.methodLink RX7 106 yX7_assignNow, Cond.instanceMethod yX7_assignNow, Cond.selects RX7 yX7_assignNow yX7_assignNow, Cond.code yX7_assignNow cX7_assignNow 5 (some .long), Cond.fieldLink RX7 27 "RoundBoundsModel" "sets" "[J"]
def wsX7_certificate : List Cond := .code yX7_certificate cX7_certificate 8 (some .boolean) :: ((wsX7_certificate_r1 ++ (wsX7_certificate_r2 ++ wsX7_certificate_r3)) ++ wsX70)
def wsJx00060_init_a7421 : List Cond := .code yJx00060_init_a7421 cJx00060_init_a7421 2 none :: ([])
def wsJ9_max_7cf53 : List Cond := .code yJ9_max_7cf53 cJ9_max_7cf53 2 (some .int) :: ([])
def wsJ9_max_f86c9 : List Cond := .code yJ9_max_f86c9 cJ9_max_f86c9 4 (some .long) :: ([])
def wsJ9_min_7cf53 : List Cond := .code yJ9_min_7cf53 cJ9_min_7cf53 2 (some .int) :: ([])
theorem inJ6 : ∀ w ∈ wsJ60, w ∈ lw_tbl := by decide +kernel
theorem inJ9 : ∀ w ∈ wsJ90, w ∈ lw_tbl := by decide +kernel
theorem inJ0 : ∀ w ∈ wsJ00, w ∈ lw_tbl := by decide +kernel
theorem inJ7 : ∀ w ∈ wsJ70, w ∈ lw_tbl := by decide +kernel
abbrev vwCl : List vw_C := [(RJx00060, TJx00060, 6), (RX0, TX0, 7), (RX1, TX1, 4), (RX2, TX2, 6), (RX3, TX3, 3), (RX4, TX4, 7), (RX5, TX5, 5), (RX6, TX6, 8), (RX7, TX7, 17)]
end
section
theorem dX0_init_0 : decode cX0_init 0 = .ok (.aload_n 0, 1) := by decide +kernel
theorem dX0_init_1 : decode cX0_init 1 = .ok (.invokespecial 3, 3) := by decide +kernel
theorem dX0_init_4 : decode cX0_init 4 = .ok (.aload_n 0, 1) := by decide +kernel
theorem dX0_init_5 : decode cX0_init 5 = .ok (.aload_n 1, 1) := by decide +kernel
theorem dX0_init_6 : decode cX0_init 6 = .ok (.putfield 9, 3) := by decide +kernel
theorem dX0_init_9 : decode cX0_init 9 = .ok (.aload_n 1, 1) := by decide +kernel
theorem dX0_init_10 : decode cX0_init 10 = .ok (.getfield 15, 3) := by decide +kernel
theorem dX0_init_13 : decode cX0_init 13 = .ok (.iconst 1, 1) := by decide +kernel
theorem dX0_init_14 : decode cX0_init 14 = .ok (.iadd, 1) := by decide +kernel
theorem dX0_init_15 : decode cX0_init 15 = .ok (.istore_n 2, 1) := by decide +kernel
theorem dX0_init_16 : decode cX0_init 16 = .ok (.aload_n 0, 1) := by decide +kernel
theorem dX0_init_17 : decode cX0_init 17 = .ok (.iload_n 2, 1) := by decide +kernel
theorem dX0_init_18 : decode cX0_init 18 = .ok (.newarray .long, 2) := by decide +kernel
theorem dX0_init_20 : decode cX0_init 20 = .ok (.putfield 21, 3) := by decide +kernel
theorem dX0_init_23 : decode cX0_init 23 = .ok (.aload_n 0, 1) := by decide +kernel
theorem dX0_init_24 : decode cX0_init 24 = .ok (.iload_n 2, 1) := by decide +kernel
theorem dX0_init_25 : decode cX0_init 25 = .ok (.newarray .long, 2) := by decide +kernel
theorem dX0_init_27 : decode cX0_init 27 = .ok (.putfield 25, 3) := by decide +kernel
theorem dX0_init_30 : decode cX0_init 30 = .ok (.aload_n 0, 1) := by decide +kernel
theorem dX0_init_31 : decode cX0_init 31 = .ok (.iload_n 2, 1) := by decide +kernel
theorem dX0_init_32 : decode cX0_init 32 = .ok (.newarray .long, 2) := by decide +kernel
theorem dX0_init_34 : decode cX0_init 34 = .ok (.putfield 28, 3) := by decide +kernel
theorem dX0_init_37 : decode cX0_init 37 = .ok (.aload_n 0, 1) := by decide +kernel
theorem dX0_init_38 : decode cX0_init 38 = .ok (.iload_n 2, 1) := by decide +kernel
theorem dX0_init_39 : decode cX0_init 39 = .ok (.newarray .int, 2) := by decide +kernel
theorem dX0_init_41 : decode cX0_init 41 = .ok (.putfield 31, 3) := by decide +kernel
theorem dX0_init_44 : decode cX0_init 44 = .ok (.aload_n 0, 1) := by decide +kernel
theorem dX0_init_45 : decode cX0_init 45 = .ok (.iload_n 2, 1) := by decide +kernel
theorem dX0_init_46 : decode cX0_init 46 = .ok (.newarray .int, 2) := by decide +kernel
theorem dX0_init_48 : decode cX0_init 48 = .ok (.putfield 35, 3) := by decide +kernel
theorem dX0_init_51 : decode cX0_init 51 = .ok (.aload_n 0, 1) := by decide +kernel
theorem dX0_init_52 : decode cX0_init 52 = .ok (.iload_n 2, 1) := by decide +kernel
theorem dX0_init_53 : decode cX0_init 53 = .ok (.newarray .boolean, 2) := by decide +kernel
theorem dX0_init_55 : decode cX0_init 55 = .ok (.putfield 38, 3) := by decide +kernel
theorem dX0_init_58 : decode cX0_init 58 = .ok (.return_, 1) := by decide +kernel
set_option maxRecDepth 20000 in
theorem ggX0_leastSum_J7_fill_d0a16 : GoodIn wsX0_leastSum wsJ7_fill_d0a16 := goodIn_r _ [8] (by decide +kernel) (by decide +kernel)
set_option maxRecDepth 20000 in
theorem gX0_leastSum_J7_fill_d0a16 : GoodIn wsX0_leastSum (va_wsS RX0 42 yJ7_fill_d0a16 wsJ7_fill_d0a16) := goodIn_app (goodIn_of _ (by decide +kernel)) ggX0_leastSum_J7_fill_d0a16
set_option maxRecDepth 20000 in
theorem ggX0_leastSum_J7_fill_53178 : GoodIn wsX0_leastSum wsJ7_fill_53178 := goodIn_r _ [11] (by decide +kernel) (by decide +kernel)
set_option maxRecDepth 20000 in
theorem gX0_leastSum_J7_fill_53178 : GoodIn wsX0_leastSum (va_wsS RX0 48 yJ7_fill_53178 wsJ7_fill_53178) := goodIn_app (goodIn_of _ (by decide +kernel)) ggX0_leastSum_J7_fill_53178
set_option maxRecDepth 20000 in
theorem ggX0_leastSum_X0_findFreeColumn : GoodIn wsX0_leastSum wsX0_findFreeColumn := goodIn_r _ [16, 4, 17, 18, 19, 20, 3, 21, 22, 23, 15, 24, 1, 2, 25, 26, 27, 28, 29, 30, 31, 32, 33, 34, 35, 36, 37, 47, 48, 49, 50, 51, 52, 53, 54, 55, 56] (by decide +kernel) (by decide +kernel)
set_option maxRecDepth 20000 in
theorem gX0_leastSum_X0_findFreeColumn : GoodIn wsX0_leastSum (wsV RX0 51 RX0 yX0_findFreeColumn wsX0_findFreeColumn) := goodIn_app (goodIn_of _ (by decide +kernel)) ggX0_leastSum_X0_findFreeColumn
set_option maxRecDepth 20000 in
theorem ggX0_leastSum_X0_changeAlong : GoodIn wsX0_leastSum wsX0_changeAlong := goodIn_r _ [41, 4, 19, 3, 47, 48, 49, 50, 51, 52, 53, 54, 55, 56] (by decide +kernel) (by decide +kernel)
set_option maxRecDepth 20000 in
theorem gX0_leastSum_X0_changeAlong : GoodIn wsX0_leastSum (wsV RX0 55 RX0 yX0_changeAlong wsX0_changeAlong) := goodIn_app (goodIn_of _ (by decide +kernel)) ggX0_leastSum_X0_changeAlong
set_option maxRecDepth 20000 in
theorem ggX0_leastSum_X0_sumOfChosen : GoodIn wsX0_leastSum wsX0_sumOfChosen := goodIn_r _ [45, 4, 3, 29, 46, 25, 26, 27, 15, 28, 47, 48, 49, 50, 51, 52, 53, 54, 55, 56] (by decide +kernel) (by decide +kernel)
set_option maxRecDepth 20000 in
theorem gX0_leastSum_X0_sumOfChosen : GoodIn wsX0_leastSum (wsV RX0 59 RX0 yX0_sumOfChosen wsX0_sumOfChosen) := goodIn_app (goodIn_of _ (by decide +kernel)) ggX0_leastSum_X0_sumOfChosen
theorem dX0_leastSum_0 : decode cX0_leastSum 0 = .ok (.aload_n 0, 1) := by decide +kernel
theorem dX0_leastSum_1 : decode cX0_leastSum 1 = .ok (.getfield 21, 3) := by decide +kernel
theorem dX0_leastSum_4 : decode cX0_leastSum 4 = .ok (.lconst 0, 1) := by decide +kernel
theorem dX0_leastSum_5 : decode cX0_leastSum 5 = .ok (.invokestatic 42, 3) := by decide +kernel
theorem dX0_leastSum_8 : decode cX0_leastSum 8 = .ok (.aload_n 0, 1) := by decide +kernel
theorem dX0_leastSum_9 : decode cX0_leastSum 9 = .ok (.getfield 25, 3) := by decide +kernel
theorem dX0_leastSum_12 : decode cX0_leastSum 12 = .ok (.lconst 0, 1) := by decide +kernel
theorem dX0_leastSum_13 : decode cX0_leastSum 13 = .ok (.invokestatic 42, 3) := by decide +kernel
theorem dX0_leastSum_16 : decode cX0_leastSum 16 = .ok (.aload_n 0, 1) := by decide +kernel
theorem dX0_leastSum_17 : decode cX0_leastSum 17 = .ok (.getfield 31, 3) := by decide +kernel
theorem dX0_leastSum_20 : decode cX0_leastSum 20 = .ok (.iconst 0, 1) := by decide +kernel
theorem dX0_leastSum_21 : decode cX0_leastSum 21 = .ok (.invokestatic 48, 3) := by decide +kernel
theorem dX0_leastSum_24 : decode cX0_leastSum 24 = .ok (.iconst 1, 1) := by decide +kernel
theorem dX0_leastSum_25 : decode cX0_leastSum 25 = .ok (.istore_n 1, 1) := by decide +kernel
theorem dX0_leastSum_26 : decode cX0_leastSum 26 = .ok (.iload_n 1, 1) := by decide +kernel
theorem dX0_leastSum_27 : decode cX0_leastSum 27 = .ok (.aload_n 0, 1) := by decide +kernel
theorem dX0_leastSum_28 : decode cX0_leastSum 28 = .ok (.getfield 9, 3) := by decide +kernel
theorem dX0_leastSum_31 : decode cX0_leastSum 31 = .ok (.getfield 15, 3) := by decide +kernel
theorem dX0_leastSum_34 : decode cX0_leastSum 34 = .ok (.if_icmp .gt 24, 3) := by decide +kernel
theorem dX0_leastSum_37 : decode cX0_leastSum 37 = .ok (.aload_n 0, 1) := by decide +kernel
theorem dX0_leastSum_38 : decode cX0_leastSum 38 = .ok (.getfield 31, 3) := by decide +kernel
theorem dX0_leastSum_41 : decode cX0_leastSum 41 = .ok (.iconst 0, 1) := by decide +kernel
theorem dX0_leastSum_42 : decode cX0_leastSum 42 = .ok (.iload_n 1, 1) := by decide +kernel
theorem dX0_leastSum_43 : decode cX0_leastSum 43 = .ok (.iastore, 1) := by decide +kernel
theorem dX0_leastSum_44 : decode cX0_leastSum 44 = .ok (.aload_n 0, 1) := by decide +kernel
theorem dX0_leastSum_45 : decode cX0_leastSum 45 = .ok (.aload_n 0, 1) := by decide +kernel
theorem dX0_leastSum_46 : decode cX0_leastSum 46 = .ok (.invokevirtual 51, 3) := by decide +kernel
theorem dX0_leastSum_49 : decode cX0_leastSum 49 = .ok (.invokevirtual 55, 3) := by decide +kernel
theorem dX0_leastSum_52 : decode cX0_leastSum 52 = .ok (.iinc 1 1, 3) := by decide +kernel
theorem dX0_leastSum_55 : decode cX0_leastSum 55 = .ok (.goto (-29), 3) := by decide +kernel
theorem dX0_leastSum_58 : decode cX0_leastSum 58 = .ok (.aload_n 0, 1) := by decide +kernel
theorem dX0_leastSum_59 : decode cX0_leastSum 59 = .ok (.invokevirtual 59, 3) := by decide +kernel
theorem dX0_leastSum_62 : decode cX0_leastSum 62 = .ok (.lreturn, 1) := by decide +kernel
set_option maxRecDepth 20000 in
theorem ggX0_findFreeColumn_X0_lowerSlackFrom : GoodIn wsX0_findFreeColumn wsX0_lowerSlackFrom := goodIn_r _ [11, 6, 1, 12, 13, 5, 2, 4, 14, 15, 16, 10, 17, 18, 27, 28, 29, 30, 31, 32, 33, 34, 35, 36] (by decide +kernel) (by decide +kernel)
set_option maxRecDepth 20000 in
theorem gX0_findFreeColumn_X0_lowerSlackFrom : GoodIn wsX0_findFreeColumn (wsV RX0 65 RX0 yX0_lowerSlackFrom wsX0_lowerSlackFrom) := goodIn_app (goodIn_of _ (by decide +kernel)) ggX0_findFreeColumn_X0_lowerSlackFrom
set_option maxRecDepth 20000 in
theorem ggX0_findFreeColumn_X0_nearestColumn : GoodIn wsX0_findFreeColumn wsX0_nearestColumn := goodIn_r _ [22, 1, 5, 2, 27, 28, 29, 30, 31, 32, 33, 34, 35, 36] (by decide +kernel) (by decide +kernel)
set_option maxRecDepth 20000 in
theorem gX0_findFreeColumn_X0_nearestColumn : GoodIn wsX0_findFreeColumn (wsV RX0 68 RX0 yX0_nearestColumn wsX0_nearestColumn) := goodIn_app (goodIn_of _ (by decide +kernel)) ggX0_findFreeColumn_X0_nearestColumn
set_option maxRecDepth 20000 in
theorem ggX0_findFreeColumn_X0_shiftPotentials : GoodIn wsX0_findFreeColumn wsX0_shiftPotentials := goodIn_r _ [26, 1, 5, 12, 6, 13, 2, 27, 28, 29, 30, 31, 32, 33, 34, 35, 36] (by decide +kernel) (by decide +kernel)
set_option maxRecDepth 20000 in
theorem gX0_findFreeColumn_X0_shiftPotentials : GoodIn wsX0_findFreeColumn (wsV RX0 71 RX0 yX0_shiftPotentials wsX0_shiftPotentials) := goodIn_app (goodIn_of _ (by decide +kernel)) ggX0_findFreeColumn_X0_shiftPotentials
theorem dX0_findFreeColumn_0 : decode cX0_findFreeColumn 0 = .ok (.iconst 0, 1) := by decide +kernel
theorem dX0_findFreeColumn_1 : decode cX0_findFreeColumn 1 = .ok (.istore_n 1, 1) := by decide +kernel
theorem dX0_findFreeColumn_2 : decode cX0_findFreeColumn 2 = .ok (.iload_n 1, 1) := by decide +kernel
theorem dX0_findFreeColumn_3 : decode cX0_findFreeColumn 3 = .ok (.aload_n 0, 1) := by decide +kernel
theorem dX0_findFreeColumn_4 : decode cX0_findFreeColumn 4 = .ok (.getfield 9, 3) := by decide +kernel
theorem dX0_findFreeColumn_7 : decode cX0_findFreeColumn 7 = .ok (.getfield 15, 3) := by decide +kernel
theorem dX0_findFreeColumn_10 : decode cX0_findFreeColumn 10 = .ok (.if_icmp .gt 32, 3) := by decide +kernel
theorem dX0_findFreeColumn_13 : decode cX0_findFreeColumn 13 = .ok (.aload_n 0, 1) := by decide +kernel
theorem dX0_findFreeColumn_14 : decode cX0_findFreeColumn 14 = .ok (.getfield 28, 3) := by decide +kernel
theorem dX0_findFreeColumn_17 : decode cX0_findFreeColumn 17 = .ok (.iload_n 1, 1) := by decide +kernel
theorem dX0_findFreeColumn_18 : decode cX0_findFreeColumn 18 = .ok (.ldc2_w 63, 3) := by decide +kernel
theorem dX0_findFreeColumn_21 : decode cX0_findFreeColumn 21 = .ok (.lastore, 1) := by decide +kernel
theorem dX0_findFreeColumn_22 : decode cX0_findFreeColumn 22 = .ok (.aload_n 0, 1) := by decide +kernel
theorem dX0_findFreeColumn_23 : decode cX0_findFreeColumn 23 = .ok (.getfield 35, 3) := by decide +kernel
theorem dX0_findFreeColumn_26 : decode cX0_findFreeColumn 26 = .ok (.iload_n 1, 1) := by decide +kernel
theorem dX0_findFreeColumn_27 : decode cX0_findFreeColumn 27 = .ok (.iconst 0, 1) := by decide +kernel
theorem dX0_findFreeColumn_28 : decode cX0_findFreeColumn 28 = .ok (.iastore, 1) := by decide +kernel
theorem dX0_findFreeColumn_29 : decode cX0_findFreeColumn 29 = .ok (.aload_n 0, 1) := by decide +kernel
theorem dX0_findFreeColumn_30 : decode cX0_findFreeColumn 30 = .ok (.getfield 38, 3) := by decide +kernel
theorem dX0_findFreeColumn_33 : decode cX0_findFreeColumn 33 = .ok (.iload_n 1, 1) := by decide +kernel
theorem dX0_findFreeColumn_34 : decode cX0_findFreeColumn 34 = .ok (.iconst 0, 1) := by decide +kernel
theorem dX0_findFreeColumn_35 : decode cX0_findFreeColumn 35 = .ok (.bastore, 1) := by decide +kernel
theorem dX0_findFreeColumn_36 : decode cX0_findFreeColumn 36 = .ok (.iinc 1 1, 3) := by decide +kernel
theorem dX0_findFreeColumn_39 : decode cX0_findFreeColumn 39 = .ok (.goto (-37), 3) := by decide +kernel
theorem dX0_findFreeColumn_42 : decode cX0_findFreeColumn 42 = .ok (.iconst 0, 1) := by decide +kernel
theorem dX0_findFreeColumn_43 : decode cX0_findFreeColumn 43 = .ok (.istore_n 1, 1) := by decide +kernel
theorem dX0_findFreeColumn_44 : decode cX0_findFreeColumn 44 = .ok (.iconst 0, 1) := by decide +kernel
theorem dX0_findFreeColumn_45 : decode cX0_findFreeColumn 45 = .ok (.istore_n 2, 1) := by decide +kernel
theorem dX0_findFreeColumn_46 : decode cX0_findFreeColumn 46 = .ok (.iload_n 2, 1) := by decide +kernel
theorem dX0_findFreeColumn_47 : decode cX0_findFreeColumn 47 = .ok (.aload_n 0, 1) := by decide +kernel
theorem dX0_findFreeColumn_48 : decode cX0_findFreeColumn 48 = .ok (.getfield 9, 3) := by decide +kernel
theorem dX0_findFreeColumn_51 : decode cX0_findFreeColumn 51 = .ok (.getfield 15, 3) := by decide +kernel
theorem dX0_findFreeColumn_54 : decode cX0_findFreeColumn 54 = .ok (.if_icmp .gt 45, 3) := by decide +kernel
theorem dX0_findFreeColumn_57 : decode cX0_findFreeColumn 57 = .ok (.aload_n 0, 1) := by decide +kernel
theorem dX0_findFreeColumn_58 : decode cX0_findFreeColumn 58 = .ok (.getfield 31, 3) := by decide +kernel
theorem dX0_findFreeColumn_61 : decode cX0_findFreeColumn 61 = .ok (.iload_n 1, 1) := by decide +kernel
theorem dX0_findFreeColumn_62 : decode cX0_findFreeColumn 62 = .ok (.iaload, 1) := by decide +kernel
theorem dX0_findFreeColumn_63 : decode cX0_findFreeColumn 63 = .ok (.ifCond .eq 36, 3) := by decide +kernel
theorem dX0_findFreeColumn_66 : decode cX0_findFreeColumn 66 = .ok (.aload_n 0, 1) := by decide +kernel
theorem dX0_findFreeColumn_67 : decode cX0_findFreeColumn 67 = .ok (.getfield 38, 3) := by decide +kernel
theorem dX0_findFreeColumn_70 : decode cX0_findFreeColumn 70 = .ok (.iload_n 1, 1) := by decide +kernel
theorem dX0_findFreeColumn_71 : decode cX0_findFreeColumn 71 = .ok (.iconst 1, 1) := by decide +kernel
theorem dX0_findFreeColumn_72 : decode cX0_findFreeColumn 72 = .ok (.bastore, 1) := by decide +kernel
theorem dX0_findFreeColumn_73 : decode cX0_findFreeColumn 73 = .ok (.aload_n 0, 1) := by decide +kernel
theorem dX0_findFreeColumn_74 : decode cX0_findFreeColumn 74 = .ok (.iload_n 1, 1) := by decide +kernel
theorem dX0_findFreeColumn_75 : decode cX0_findFreeColumn 75 = .ok (.invokevirtual 65, 3) := by decide +kernel
theorem dX0_findFreeColumn_78 : decode cX0_findFreeColumn 78 = .ok (.aload_n 0, 1) := by decide +kernel
theorem dX0_findFreeColumn_79 : decode cX0_findFreeColumn 79 = .ok (.invokevirtual 68, 3) := by decide +kernel
theorem dX0_findFreeColumn_82 : decode cX0_findFreeColumn 82 = .ok (.istore_n 1, 1) := by decide +kernel
theorem dX0_findFreeColumn_83 : decode cX0_findFreeColumn 83 = .ok (.aload_n 0, 1) := by decide +kernel
theorem dX0_findFreeColumn_84 : decode cX0_findFreeColumn 84 = .ok (.aload_n 0, 1) := by decide +kernel
theorem dX0_findFreeColumn_85 : decode cX0_findFreeColumn 85 = .ok (.getfield 28, 3) := by decide +kernel
theorem dX0_findFreeColumn_88 : decode cX0_findFreeColumn 88 = .ok (.iload_n 1, 1) := by decide +kernel
theorem dX0_findFreeColumn_89 : decode cX0_findFreeColumn 89 = .ok (.laload, 1) := by decide +kernel
theorem dX0_findFreeColumn_90 : decode cX0_findFreeColumn 90 = .ok (.invokevirtual 71, 3) := by decide +kernel
theorem dX0_findFreeColumn_93 : decode cX0_findFreeColumn 93 = .ok (.iinc 2 1, 3) := by decide +kernel
theorem dX0_findFreeColumn_96 : decode cX0_findFreeColumn 96 = .ok (.goto (-50), 3) := by decide +kernel
theorem dX0_findFreeColumn_99 : decode cX0_findFreeColumn 99 = .ok (.iload_n 1, 1) := by decide +kernel
theorem dX0_findFreeColumn_100 : decode cX0_findFreeColumn 100 = .ok (.ireturn, 1) := by decide +kernel
set_option maxRecDepth 20000 in
theorem ggX0_lowerSlackFrom_X0_cost : GoodIn wsX0_lowerSlackFrom wsX0_cost := goodIn_r _ [12, 2, 13, 14, 15, 16, 17, 18, 19, 20, 21, 22, 23] (by decide +kernel) (by decide +kernel)
set_option maxRecDepth 20000 in
theorem gX0_lowerSlackFrom_X0_cost : GoodIn wsX0_lowerSlackFrom (wsV RX0 75 RX0 yX0_cost wsX0_cost) := goodIn_app (goodIn_of _ (by decide +kernel)) ggX0_lowerSlackFrom_X0_cost
theorem dX0_lowerSlackFrom_0 : decode cX0_lowerSlackFrom 0 = .ok (.aload_n 0, 1) := by decide +kernel
theorem dX0_lowerSlackFrom_1 : decode cX0_lowerSlackFrom 1 = .ok (.getfield 31, 3) := by decide +kernel
theorem dX0_lowerSlackFrom_4 : decode cX0_lowerSlackFrom 4 = .ok (.iload_n 1, 1) := by decide +kernel
theorem dX0_lowerSlackFrom_5 : decode cX0_lowerSlackFrom 5 = .ok (.iaload, 1) := by decide +kernel
theorem dX0_lowerSlackFrom_6 : decode cX0_lowerSlackFrom 6 = .ok (.istore_n 2, 1) := by decide +kernel
theorem dX0_lowerSlackFrom_7 : decode cX0_lowerSlackFrom 7 = .ok (.iconst 1, 1) := by decide +kernel
theorem dX0_lowerSlackFrom_8 : decode cX0_lowerSlackFrom 8 = .ok (.istore_n 3, 1) := by decide +kernel
theorem dX0_lowerSlackFrom_9 : decode cX0_lowerSlackFrom 9 = .ok (.iload_n 3, 1) := by decide +kernel
theorem dX0_lowerSlackFrom_10 : decode cX0_lowerSlackFrom 10 = .ok (.aload_n 0, 1) := by decide +kernel
theorem dX0_lowerSlackFrom_11 : decode cX0_lowerSlackFrom 11 = .ok (.getfield 9, 3) := by decide +kernel
theorem dX0_lowerSlackFrom_14 : decode cX0_lowerSlackFrom 14 = .ok (.getfield 15, 3) := by decide +kernel
theorem dX0_lowerSlackFrom_17 : decode cX0_lowerSlackFrom 17 = .ok (.if_icmp .gt 67, 3) := by decide +kernel
theorem dX0_lowerSlackFrom_20 : decode cX0_lowerSlackFrom 20 = .ok (.aload_n 0, 1) := by decide +kernel
theorem dX0_lowerSlackFrom_21 : decode cX0_lowerSlackFrom 21 = .ok (.iload_n 2, 1) := by decide +kernel
theorem dX0_lowerSlackFrom_22 : decode cX0_lowerSlackFrom 22 = .ok (.iload_n 3, 1) := by decide +kernel
theorem dX0_lowerSlackFrom_23 : decode cX0_lowerSlackFrom 23 = .ok (.invokevirtual 75, 3) := by decide +kernel
theorem dX0_lowerSlackFrom_26 : decode cX0_lowerSlackFrom 26 = .ok (.aload_n 0, 1) := by decide +kernel
theorem dX0_lowerSlackFrom_27 : decode cX0_lowerSlackFrom 27 = .ok (.getfield 21, 3) := by decide +kernel
theorem dX0_lowerSlackFrom_30 : decode cX0_lowerSlackFrom 30 = .ok (.iload_n 2, 1) := by decide +kernel
theorem dX0_lowerSlackFrom_31 : decode cX0_lowerSlackFrom 31 = .ok (.laload, 1) := by decide +kernel
theorem dX0_lowerSlackFrom_32 : decode cX0_lowerSlackFrom 32 = .ok (.lsub, 1) := by decide +kernel
theorem dX0_lowerSlackFrom_33 : decode cX0_lowerSlackFrom 33 = .ok (.aload_n 0, 1) := by decide +kernel
theorem dX0_lowerSlackFrom_34 : decode cX0_lowerSlackFrom 34 = .ok (.getfield 25, 3) := by decide +kernel
theorem dX0_lowerSlackFrom_37 : decode cX0_lowerSlackFrom 37 = .ok (.iload_n 3, 1) := by decide +kernel
theorem dX0_lowerSlackFrom_38 : decode cX0_lowerSlackFrom 38 = .ok (.laload, 1) := by decide +kernel
theorem dX0_lowerSlackFrom_39 : decode cX0_lowerSlackFrom 39 = .ok (.lsub, 1) := by decide +kernel
theorem dX0_lowerSlackFrom_40 : decode cX0_lowerSlackFrom 40 = .ok (.lstore 4, 2) := by decide +kernel
theorem dX0_lowerSlackFrom_42 : decode cX0_lowerSlackFrom 42 = .ok (.aload_n 0, 1) := by decide +kernel
theorem dX0_lowerSlackFrom_43 : decode cX0_lowerSlackFrom 43 = .ok (.getfield 38, 3) := by decide +kernel
theorem dX0_lowerSlackFrom_46 : decode cX0_lowerSlackFrom 46 = .ok (.iload_n 3, 1) := by decide +kernel
theorem dX0_lowerSlackFrom_47 : decode cX0_lowerSlackFrom 47 = .ok (.baload, 1) := by decide +kernel
theorem dX0_lowerSlackFrom_48 : decode cX0_lowerSlackFrom 48 = .ok (.ifCond .ne 30, 3) := by decide +kernel
theorem dX0_lowerSlackFrom_51 : decode cX0_lowerSlackFrom 51 = .ok (.lload 4, 2) := by decide +kernel
theorem dX0_lowerSlackFrom_53 : decode cX0_lowerSlackFrom 53 = .ok (.aload_n 0, 1) := by decide +kernel
theorem dX0_lowerSlackFrom_54 : decode cX0_lowerSlackFrom 54 = .ok (.getfield 28, 3) := by decide +kernel
theorem dX0_lowerSlackFrom_57 : decode cX0_lowerSlackFrom 57 = .ok (.iload_n 3, 1) := by decide +kernel
theorem dX0_lowerSlackFrom_58 : decode cX0_lowerSlackFrom 58 = .ok (.laload, 1) := by decide +kernel
theorem dX0_lowerSlackFrom_59 : decode cX0_lowerSlackFrom 59 = .ok (.lcmp, 1) := by decide +kernel
theorem dX0_lowerSlackFrom_60 : decode cX0_lowerSlackFrom 60 = .ok (.ifCond .ge 18, 3) := by decide +kernel
theorem dX0_lowerSlackFrom_63 : decode cX0_lowerSlackFrom 63 = .ok (.aload_n 0, 1) := by decide +kernel
theorem dX0_lowerSlackFrom_64 : decode cX0_lowerSlackFrom 64 = .ok (.getfield 28, 3) := by decide +kernel
theorem dX0_lowerSlackFrom_67 : decode cX0_lowerSlackFrom 67 = .ok (.iload_n 3, 1) := by decide +kernel
theorem dX0_lowerSlackFrom_68 : decode cX0_lowerSlackFrom 68 = .ok (.lload 4, 2) := by decide +kernel
theorem dX0_lowerSlackFrom_70 : decode cX0_lowerSlackFrom 70 = .ok (.lastore, 1) := by decide +kernel
theorem dX0_lowerSlackFrom_71 : decode cX0_lowerSlackFrom 71 = .ok (.aload_n 0, 1) := by decide +kernel
theorem dX0_lowerSlackFrom_72 : decode cX0_lowerSlackFrom 72 = .ok (.getfield 35, 3) := by decide +kernel
theorem dX0_lowerSlackFrom_75 : decode cX0_lowerSlackFrom 75 = .ok (.iload_n 3, 1) := by decide +kernel
theorem dX0_lowerSlackFrom_76 : decode cX0_lowerSlackFrom 76 = .ok (.iload_n 1, 1) := by decide +kernel
theorem dX0_lowerSlackFrom_77 : decode cX0_lowerSlackFrom 77 = .ok (.iastore, 1) := by decide +kernel
theorem dX0_lowerSlackFrom_78 : decode cX0_lowerSlackFrom 78 = .ok (.iinc 3 1, 3) := by decide +kernel
theorem dX0_lowerSlackFrom_81 : decode cX0_lowerSlackFrom 81 = .ok (.goto (-72), 3) := by decide +kernel
theorem dX0_lowerSlackFrom_84 : decode cX0_lowerSlackFrom 84 = .ok (.return_, 1) := by decide +kernel
theorem dX0_nearestColumn_0 : decode cX0_nearestColumn 0 = .ok (.iconst 0, 1) := by decide +kernel
theorem dX0_nearestColumn_1 : decode cX0_nearestColumn 1 = .ok (.istore_n 1, 1) := by decide +kernel
theorem dX0_nearestColumn_2 : decode cX0_nearestColumn 2 = .ok (.iconst 1, 1) := by decide +kernel
theorem dX0_nearestColumn_3 : decode cX0_nearestColumn 3 = .ok (.istore_n 2, 1) := by decide +kernel
theorem dX0_nearestColumn_4 : decode cX0_nearestColumn 4 = .ok (.iload_n 2, 1) := by decide +kernel
theorem dX0_nearestColumn_5 : decode cX0_nearestColumn 5 = .ok (.aload_n 0, 1) := by decide +kernel
theorem dX0_nearestColumn_6 : decode cX0_nearestColumn 6 = .ok (.getfield 9, 3) := by decide +kernel
theorem dX0_nearestColumn_9 : decode cX0_nearestColumn 9 = .ok (.getfield 15, 3) := by decide +kernel
theorem dX0_nearestColumn_12 : decode cX0_nearestColumn 12 = .ok (.if_icmp .gt 40, 3) := by decide +kernel
theorem dX0_nearestColumn_15 : decode cX0_nearestColumn 15 = .ok (.aload_n 0, 1) := by decide +kernel
theorem dX0_nearestColumn_16 : decode cX0_nearestColumn 16 = .ok (.getfield 38, 3) := by decide +kernel
theorem dX0_nearestColumn_19 : decode cX0_nearestColumn 19 = .ok (.iload_n 2, 1) := by decide +kernel
theorem dX0_nearestColumn_20 : decode cX0_nearestColumn 20 = .ok (.baload, 1) := by decide +kernel
theorem dX0_nearestColumn_21 : decode cX0_nearestColumn 21 = .ok (.ifCond .ne 25, 3) := by decide +kernel
theorem dX0_nearestColumn_24 : decode cX0_nearestColumn 24 = .ok (.iload_n 1, 1) := by decide +kernel
theorem dX0_nearestColumn_25 : decode cX0_nearestColumn 25 = .ok (.ifCond .eq 19, 3) := by decide +kernel
theorem dX0_nearestColumn_28 : decode cX0_nearestColumn 28 = .ok (.aload_n 0, 1) := by decide +kernel
theorem dX0_nearestColumn_29 : decode cX0_nearestColumn 29 = .ok (.getfield 28, 3) := by decide +kernel
theorem dX0_nearestColumn_32 : decode cX0_nearestColumn 32 = .ok (.iload_n 2, 1) := by decide +kernel
theorem dX0_nearestColumn_33 : decode cX0_nearestColumn 33 = .ok (.laload, 1) := by decide +kernel
theorem dX0_nearestColumn_34 : decode cX0_nearestColumn 34 = .ok (.aload_n 0, 1) := by decide +kernel
theorem dX0_nearestColumn_35 : decode cX0_nearestColumn 35 = .ok (.getfield 28, 3) := by decide +kernel
theorem dX0_nearestColumn_38 : decode cX0_nearestColumn 38 = .ok (.iload_n 1, 1) := by decide +kernel
theorem dX0_nearestColumn_39 : decode cX0_nearestColumn 39 = .ok (.laload, 1) := by decide +kernel
theorem dX0_nearestColumn_40 : decode cX0_nearestColumn 40 = .ok (.lcmp, 1) := by decide +kernel
theorem dX0_nearestColumn_41 : decode cX0_nearestColumn 41 = .ok (.ifCond .ge 5, 3) := by decide +kernel
theorem dX0_nearestColumn_44 : decode cX0_nearestColumn 44 = .ok (.iload_n 2, 1) := by decide +kernel
theorem dX0_nearestColumn_45 : decode cX0_nearestColumn 45 = .ok (.istore_n 1, 1) := by decide +kernel
theorem dX0_nearestColumn_46 : decode cX0_nearestColumn 46 = .ok (.iinc 2 1, 3) := by decide +kernel
theorem dX0_nearestColumn_49 : decode cX0_nearestColumn 49 = .ok (.goto (-45), 3) := by decide +kernel
theorem dX0_nearestColumn_52 : decode cX0_nearestColumn 52 = .ok (.iload_n 1, 1) := by decide +kernel
theorem dX0_nearestColumn_53 : decode cX0_nearestColumn 53 = .ok (.ireturn, 1) := by decide +kernel
theorem dX0_shiftPotentials_0 : decode cX0_shiftPotentials 0 = .ok (.iconst 0, 1) := by decide +kernel
theorem dX0_shiftPotentials_1 : decode cX0_shiftPotentials 1 = .ok (.istore_n 3, 1) := by decide +kernel
theorem dX0_shiftPotentials_2 : decode cX0_shiftPotentials 2 = .ok (.iload_n 3, 1) := by decide +kernel
theorem dX0_shiftPotentials_3 : decode cX0_shiftPotentials 3 = .ok (.aload_n 0, 1) := by decide +kernel
theorem dX0_shiftPotentials_4 : decode cX0_shiftPotentials 4 = .ok (.getfield 9, 3) := by decide +kernel
theorem dX0_shiftPotentials_7 : decode cX0_shiftPotentials 7 = .ok (.getfield 15, 3) := by decide +kernel
theorem dX0_shiftPotentials_10 : decode cX0_shiftPotentials 10 = .ok (.if_icmp .gt 56, 3) := by decide +kernel
theorem dX0_shiftPotentials_13 : decode cX0_shiftPotentials 13 = .ok (.aload_n 0, 1) := by decide +kernel
theorem dX0_shiftPotentials_14 : decode cX0_shiftPotentials 14 = .ok (.getfield 38, 3) := by decide +kernel
theorem dX0_shiftPotentials_17 : decode cX0_shiftPotentials 17 = .ok (.iload_n 3, 1) := by decide +kernel
theorem dX0_shiftPotentials_18 : decode cX0_shiftPotentials 18 = .ok (.baload, 1) := by decide +kernel
theorem dX0_shiftPotentials_19 : decode cX0_shiftPotentials 19 = .ok (.ifCond .eq 31, 3) := by decide +kernel
theorem dX0_shiftPotentials_22 : decode cX0_shiftPotentials 22 = .ok (.aload_n 0, 1) := by decide +kernel
theorem dX0_shiftPotentials_23 : decode cX0_shiftPotentials 23 = .ok (.getfield 21, 3) := by decide +kernel
theorem dX0_shiftPotentials_26 : decode cX0_shiftPotentials 26 = .ok (.aload_n 0, 1) := by decide +kernel
theorem dX0_shiftPotentials_27 : decode cX0_shiftPotentials 27 = .ok (.getfield 31, 3) := by decide +kernel
theorem dX0_shiftPotentials_30 : decode cX0_shiftPotentials 30 = .ok (.iload_n 3, 1) := by decide +kernel
theorem dX0_shiftPotentials_31 : decode cX0_shiftPotentials 31 = .ok (.iaload, 1) := by decide +kernel
theorem dX0_shiftPotentials_32 : decode cX0_shiftPotentials 32 = .ok (.dup2, 1) := by decide +kernel
theorem dX0_shiftPotentials_33 : decode cX0_shiftPotentials 33 = .ok (.laload, 1) := by decide +kernel
theorem dX0_shiftPotentials_34 : decode cX0_shiftPotentials 34 = .ok (.lload_n 1, 1) := by decide +kernel
theorem dX0_shiftPotentials_35 : decode cX0_shiftPotentials 35 = .ok (.ladd, 1) := by decide +kernel
theorem dX0_shiftPotentials_36 : decode cX0_shiftPotentials 36 = .ok (.lastore, 1) := by decide +kernel
theorem dX0_shiftPotentials_37 : decode cX0_shiftPotentials 37 = .ok (.aload_n 0, 1) := by decide +kernel
theorem dX0_shiftPotentials_38 : decode cX0_shiftPotentials 38 = .ok (.getfield 25, 3) := by decide +kernel
theorem dX0_shiftPotentials_41 : decode cX0_shiftPotentials 41 = .ok (.iload_n 3, 1) := by decide +kernel
theorem dX0_shiftPotentials_42 : decode cX0_shiftPotentials 42 = .ok (.dup2, 1) := by decide +kernel
theorem dX0_shiftPotentials_43 : decode cX0_shiftPotentials 43 = .ok (.laload, 1) := by decide +kernel
theorem dX0_shiftPotentials_44 : decode cX0_shiftPotentials 44 = .ok (.lload_n 1, 1) := by decide +kernel
theorem dX0_shiftPotentials_45 : decode cX0_shiftPotentials 45 = .ok (.lsub, 1) := by decide +kernel
theorem dX0_shiftPotentials_46 : decode cX0_shiftPotentials 46 = .ok (.lastore, 1) := by decide +kernel
theorem dX0_shiftPotentials_47 : decode cX0_shiftPotentials 47 = .ok (.goto 13, 3) := by decide +kernel
theorem dX0_shiftPotentials_50 : decode cX0_shiftPotentials 50 = .ok (.aload_n 0, 1) := by decide +kernel
theorem dX0_shiftPotentials_51 : decode cX0_shiftPotentials 51 = .ok (.getfield 28, 3) := by decide +kernel
theorem dX0_shiftPotentials_54 : decode cX0_shiftPotentials 54 = .ok (.iload_n 3, 1) := by decide +kernel
theorem dX0_shiftPotentials_55 : decode cX0_shiftPotentials 55 = .ok (.dup2, 1) := by decide +kernel
theorem dX0_shiftPotentials_56 : decode cX0_shiftPotentials 56 = .ok (.laload, 1) := by decide +kernel
theorem dX0_shiftPotentials_57 : decode cX0_shiftPotentials 57 = .ok (.lload_n 1, 1) := by decide +kernel
theorem dX0_shiftPotentials_58 : decode cX0_shiftPotentials 58 = .ok (.lsub, 1) := by decide +kernel
theorem dX0_shiftPotentials_59 : decode cX0_shiftPotentials 59 = .ok (.lastore, 1) := by decide +kernel
theorem dX0_shiftPotentials_60 : decode cX0_shiftPotentials 60 = .ok (.iinc 3 1, 3) := by decide +kernel
theorem dX0_shiftPotentials_63 : decode cX0_shiftPotentials 63 = .ok (.goto (-61), 3) := by decide +kernel
theorem dX0_shiftPotentials_66 : decode cX0_shiftPotentials 66 = .ok (.return_, 1) := by decide +kernel
theorem dX0_changeAlong_0 : decode cX0_changeAlong 0 = .ok (.iload_n 1, 1) := by decide +kernel
theorem dX0_changeAlong_1 : decode cX0_changeAlong 1 = .ok (.istore_n 2, 1) := by decide +kernel
theorem dX0_changeAlong_2 : decode cX0_changeAlong 2 = .ok (.iconst 0, 1) := by decide +kernel
theorem dX0_changeAlong_3 : decode cX0_changeAlong 3 = .ok (.istore_n 3, 1) := by decide +kernel
theorem dX0_changeAlong_4 : decode cX0_changeAlong 4 = .ok (.iload_n 3, 1) := by decide +kernel
theorem dX0_changeAlong_5 : decode cX0_changeAlong 5 = .ok (.aload_n 0, 1) := by decide +kernel
theorem dX0_changeAlong_6 : decode cX0_changeAlong 6 = .ok (.getfield 9, 3) := by decide +kernel
theorem dX0_changeAlong_9 : decode cX0_changeAlong 9 = .ok (.getfield 15, 3) := by decide +kernel
theorem dX0_changeAlong_12 : decode cX0_changeAlong 12 = .ok (.if_icmp .gt 37, 3) := by decide +kernel
theorem dX0_changeAlong_15 : decode cX0_changeAlong 15 = .ok (.iload_n 2, 1) := by decide +kernel
theorem dX0_changeAlong_16 : decode cX0_changeAlong 16 = .ok (.ifCond .eq 33, 3) := by decide +kernel
theorem dX0_changeAlong_19 : decode cX0_changeAlong 19 = .ok (.aload_n 0, 1) := by decide +kernel
theorem dX0_changeAlong_20 : decode cX0_changeAlong 20 = .ok (.getfield 35, 3) := by decide +kernel
theorem dX0_changeAlong_23 : decode cX0_changeAlong 23 = .ok (.iload_n 2, 1) := by decide +kernel
theorem dX0_changeAlong_24 : decode cX0_changeAlong 24 = .ok (.iaload, 1) := by decide +kernel
theorem dX0_changeAlong_25 : decode cX0_changeAlong 25 = .ok (.istore 4, 2) := by decide +kernel
theorem dX0_changeAlong_27 : decode cX0_changeAlong 27 = .ok (.aload_n 0, 1) := by decide +kernel
theorem dX0_changeAlong_28 : decode cX0_changeAlong 28 = .ok (.getfield 31, 3) := by decide +kernel
theorem dX0_changeAlong_31 : decode cX0_changeAlong 31 = .ok (.iload_n 2, 1) := by decide +kernel
theorem dX0_changeAlong_32 : decode cX0_changeAlong 32 = .ok (.aload_n 0, 1) := by decide +kernel
theorem dX0_changeAlong_33 : decode cX0_changeAlong 33 = .ok (.getfield 31, 3) := by decide +kernel
theorem dX0_changeAlong_36 : decode cX0_changeAlong 36 = .ok (.iload 4, 2) := by decide +kernel
theorem dX0_changeAlong_38 : decode cX0_changeAlong 38 = .ok (.iaload, 1) := by decide +kernel
theorem dX0_changeAlong_39 : decode cX0_changeAlong 39 = .ok (.iastore, 1) := by decide +kernel
theorem dX0_changeAlong_40 : decode cX0_changeAlong 40 = .ok (.iload 4, 2) := by decide +kernel
theorem dX0_changeAlong_42 : decode cX0_changeAlong 42 = .ok (.istore_n 2, 1) := by decide +kernel
theorem dX0_changeAlong_43 : decode cX0_changeAlong 43 = .ok (.iinc 3 1, 3) := by decide +kernel
theorem dX0_changeAlong_46 : decode cX0_changeAlong 46 = .ok (.goto (-42), 3) := by decide +kernel
theorem dX0_changeAlong_49 : decode cX0_changeAlong 49 = .ok (.return_, 1) := by decide +kernel
set_option maxRecDepth 20000 in
theorem ggX0_sumOfChosen_X0_cost : GoodIn wsX0_sumOfChosen wsX0_cost := goodIn_r _ [9, 1, 3, 10, 11, 12, 13, 14, 15, 16, 17, 18, 19] (by decide +kernel) (by decide +kernel)
set_option maxRecDepth 20000 in
theorem gX0_sumOfChosen_X0_cost : GoodIn wsX0_sumOfChosen (wsV RX0 75 RX0 yX0_cost wsX0_cost) := goodIn_app (goodIn_of _ (by decide +kernel)) ggX0_sumOfChosen_X0_cost
theorem dX0_sumOfChosen_0 : decode cX0_sumOfChosen 0 = .ok (.lconst 0, 1) := by decide +kernel
theorem dX0_sumOfChosen_1 : decode cX0_sumOfChosen 1 = .ok (.lstore_n 1, 1) := by decide +kernel
theorem dX0_sumOfChosen_2 : decode cX0_sumOfChosen 2 = .ok (.iconst 1, 1) := by decide +kernel
theorem dX0_sumOfChosen_3 : decode cX0_sumOfChosen 3 = .ok (.istore_n 3, 1) := by decide +kernel
theorem dX0_sumOfChosen_4 : decode cX0_sumOfChosen 4 = .ok (.iload_n 3, 1) := by decide +kernel
theorem dX0_sumOfChosen_5 : decode cX0_sumOfChosen 5 = .ok (.aload_n 0, 1) := by decide +kernel
theorem dX0_sumOfChosen_6 : decode cX0_sumOfChosen 6 = .ok (.getfield 9, 3) := by decide +kernel
theorem dX0_sumOfChosen_9 : decode cX0_sumOfChosen 9 = .ok (.getfield 15, 3) := by decide +kernel
theorem dX0_sumOfChosen_12 : decode cX0_sumOfChosen 12 = .ok (.if_icmp .gt 23, 3) := by decide +kernel
theorem dX0_sumOfChosen_15 : decode cX0_sumOfChosen 15 = .ok (.lload_n 1, 1) := by decide +kernel
theorem dX0_sumOfChosen_16 : decode cX0_sumOfChosen 16 = .ok (.aload_n 0, 1) := by decide +kernel
theorem dX0_sumOfChosen_17 : decode cX0_sumOfChosen 17 = .ok (.aload_n 0, 1) := by decide +kernel
theorem dX0_sumOfChosen_18 : decode cX0_sumOfChosen 18 = .ok (.getfield 31, 3) := by decide +kernel
theorem dX0_sumOfChosen_21 : decode cX0_sumOfChosen 21 = .ok (.iload_n 3, 1) := by decide +kernel
theorem dX0_sumOfChosen_22 : decode cX0_sumOfChosen 22 = .ok (.iaload, 1) := by decide +kernel
theorem dX0_sumOfChosen_23 : decode cX0_sumOfChosen 23 = .ok (.iload_n 3, 1) := by decide +kernel
theorem dX0_sumOfChosen_24 : decode cX0_sumOfChosen 24 = .ok (.invokevirtual 75, 3) := by decide +kernel
theorem dX0_sumOfChosen_27 : decode cX0_sumOfChosen 27 = .ok (.ladd, 1) := by decide +kernel
theorem dX0_sumOfChosen_28 : decode cX0_sumOfChosen 28 = .ok (.lstore_n 1, 1) := by decide +kernel
theorem dX0_sumOfChosen_29 : decode cX0_sumOfChosen 29 = .ok (.iinc 3 1, 3) := by decide +kernel
theorem dX0_sumOfChosen_32 : decode cX0_sumOfChosen 32 = .ok (.goto (-28), 3) := by decide +kernel
theorem dX0_sumOfChosen_35 : decode cX0_sumOfChosen 35 = .ok (.lload_n 1, 1) := by decide +kernel
theorem dX0_sumOfChosen_36 : decode cX0_sumOfChosen 36 = .ok (.ldc2_w 79, 3) := by decide +kernel
theorem dX0_sumOfChosen_39 : decode cX0_sumOfChosen 39 = .ok (.lcmp, 1) := by decide +kernel
theorem dX0_sumOfChosen_40 : decode cX0_sumOfChosen 40 = .ok (.ifCond .lt 9, 3) := by decide +kernel
theorem dX0_sumOfChosen_43 : decode cX0_sumOfChosen 43 = .ok (.ldc2_w 81, 3) := by decide +kernel
theorem dX0_sumOfChosen_46 : decode cX0_sumOfChosen 46 = .ok (.goto 4, 3) := by decide +kernel
theorem dX0_sumOfChosen_49 : decode cX0_sumOfChosen 49 = .ok (.lload_n 1, 1) := by decide +kernel
theorem dX0_sumOfChosen_50 : decode cX0_sumOfChosen 50 = .ok (.lreturn, 1) := by decide +kernel
theorem dX0_cost_0 : decode cX0_cost 0 = .ok (.iload_n 1, 1) := by decide +kernel
theorem dX0_cost_1 : decode cX0_cost 1 = .ok (.iconst 1, 1) := by decide +kernel
theorem dX0_cost_2 : decode cX0_cost 2 = .ok (.if_icmp .lt 30, 3) := by decide +kernel
theorem dX0_cost_5 : decode cX0_cost 5 = .ok (.iload_n 1, 1) := by decide +kernel
theorem dX0_cost_6 : decode cX0_cost 6 = .ok (.aload_n 0, 1) := by decide +kernel
theorem dX0_cost_7 : decode cX0_cost 7 = .ok (.getfield 9, 3) := by decide +kernel
theorem dX0_cost_10 : decode cX0_cost 10 = .ok (.getfield 15, 3) := by decide +kernel
theorem dX0_cost_13 : decode cX0_cost 13 = .ok (.if_icmp .gt 19, 3) := by decide +kernel
theorem dX0_cost_16 : decode cX0_cost 16 = .ok (.iload_n 2, 1) := by decide +kernel
theorem dX0_cost_17 : decode cX0_cost 17 = .ok (.iconst 1, 1) := by decide +kernel
theorem dX0_cost_18 : decode cX0_cost 18 = .ok (.if_icmp .lt 14, 3) := by decide +kernel
theorem dX0_cost_21 : decode cX0_cost 21 = .ok (.iload_n 2, 1) := by decide +kernel
theorem dX0_cost_22 : decode cX0_cost 22 = .ok (.aload_n 0, 1) := by decide +kernel
theorem dX0_cost_23 : decode cX0_cost 23 = .ok (.getfield 9, 3) := by decide +kernel
theorem dX0_cost_26 : decode cX0_cost 26 = .ok (.getfield 15, 3) := by decide +kernel
theorem dX0_cost_29 : decode cX0_cost 29 = .ok (.if_icmp .le 7, 3) := by decide +kernel
theorem dX0_cost_32 : decode cX0_cost 32 = .ok (.ldc2_w 79, 3) := by decide +kernel
theorem dX0_cost_35 : decode cX0_cost 35 = .ok (.lreturn, 1) := by decide +kernel
theorem dX0_cost_36 : decode cX0_cost 36 = .ok (.aload_n 0, 1) := by decide +kernel
theorem dX0_cost_37 : decode cX0_cost 37 = .ok (.getfield 9, 3) := by decide +kernel
theorem dX0_cost_40 : decode cX0_cost 40 = .ok (.getfield 83, 3) := by decide +kernel
theorem dX0_cost_43 : decode cX0_cost 43 = .ok (.iload_n 1, 1) := by decide +kernel
theorem dX0_cost_44 : decode cX0_cost 44 = .ok (.iconst 1, 1) := by decide +kernel
theorem dX0_cost_45 : decode cX0_cost 45 = .ok (.isub, 1) := by decide +kernel
theorem dX0_cost_46 : decode cX0_cost 46 = .ok (.aaload, 1) := by decide +kernel
theorem dX0_cost_47 : decode cX0_cost 47 = .ok (.iload_n 2, 1) := by decide +kernel
theorem dX0_cost_48 : decode cX0_cost 48 = .ok (.iconst 1, 1) := by decide +kernel
theorem dX0_cost_49 : decode cX0_cost 49 = .ok (.isub, 1) := by decide +kernel
theorem dX0_cost_50 : decode cX0_cost 50 = .ok (.iaload, 1) := by decide +kernel
theorem dX0_cost_51 : decode cX0_cost 51 = .ok (.istore_n 3, 1) := by decide +kernel
theorem dX0_cost_52 : decode cX0_cost 52 = .ok (.iload_n 3, 1) := by decide +kernel
theorem dX0_cost_53 : decode cX0_cost 53 = .ok (.iconst (-1), 1) := by decide +kernel
theorem dX0_cost_54 : decode cX0_cost 54 = .ok (.if_icmp .ne 9, 3) := by decide +kernel
theorem dX0_cost_57 : decode cX0_cost 57 = .ok (.ldc2_w 79, 3) := by decide +kernel
theorem dX0_cost_60 : decode cX0_cost 60 = .ok (.goto 5, 3) := by decide +kernel
theorem dX0_cost_63 : decode cX0_cost 63 = .ok (.iload_n 3, 1) := by decide +kernel
theorem dX0_cost_64 : decode cX0_cost 64 = .ok (.i2l, 1) := by decide +kernel
theorem dX0_cost_65 : decode cX0_cost 65 = .ok (.lreturn, 1) := by decide +kernel
theorem dX1_init_0 : decode cX1_init 0 = .ok (.aload_n 0, 1) := by decide +kernel
theorem dX1_init_1 : decode cX1_init 1 = .ok (.invokespecial 3, 3) := by decide +kernel
theorem dX1_init_4 : decode cX1_init 4 = .ok (.aload_n 0, 1) := by decide +kernel
theorem dX1_init_5 : decode cX1_init 5 = .ok (.aload_n 1, 1) := by decide +kernel
theorem dX1_init_6 : decode cX1_init 6 = .ok (.putfield 9, 3) := by decide +kernel
theorem dX1_init_9 : decode cX1_init 9 = .ok (.aload_n 0, 1) := by decide +kernel
theorem dX1_init_10 : decode cX1_init 10 = .ok (.aload_n 1, 1) := by decide +kernel
theorem dX1_init_11 : decode cX1_init 11 = .ok (.getfield 15, 3) := by decide +kernel
theorem dX1_init_14 : decode cX1_init 14 = .ok (.aload_n 1, 1) := by decide +kernel
theorem dX1_init_15 : decode cX1_init 15 = .ok (.getfield 15, 3) := by decide +kernel
theorem dX1_init_18 : decode cX1_init 18 = .ok (.multianewarray 21 2, 4) := by decide +kernel
theorem dX1_init_22 : decode cX1_init 22 = .ok (.putfield 23, 3) := by decide +kernel
theorem dX1_init_25 : decode cX1_init 25 = .ok (.aload_n 0, 1) := by decide +kernel
theorem dX1_init_26 : decode cX1_init 26 = .ok (.aload_n 1, 1) := by decide +kernel
theorem dX1_init_27 : decode cX1_init 27 = .ok (.getfield 15, 3) := by decide +kernel
theorem dX1_init_30 : decode cX1_init 30 = .ok (.newarray .int, 2) := by decide +kernel
theorem dX1_init_32 : decode cX1_init 32 = .ok (.putfield 26, 3) := by decide +kernel
theorem dX1_init_35 : decode cX1_init 35 = .ok (.aload_n 0, 1) := by decide +kernel
theorem dX1_init_36 : decode cX1_init 36 = .ok (.aload_n 1, 1) := by decide +kernel
theorem dX1_init_37 : decode cX1_init 37 = .ok (.getfield 15, 3) := by decide +kernel
theorem dX1_init_40 : decode cX1_init 40 = .ok (.newarray .int, 2) := by decide +kernel
theorem dX1_init_42 : decode cX1_init 42 = .ok (.putfield 30, 3) := by decide +kernel
theorem dX1_init_45 : decode cX1_init 45 = .ok (.return_, 1) := by decide +kernel
set_option maxRecDepth 20000 in
theorem ggX1_width_X1_findChain : GoodIn wsX1_width wsX1_findChain := goodIn_r _ [12, 13, 14, 1, 2, 15, 16, 17, 18, 27, 28, 29, 30, 31, 32, 33] (by decide +kernel) (by decide +kernel)
set_option maxRecDepth 20000 in
theorem gX1_width_X1_findChain : GoodIn wsX1_width (wsV RX1 43 RX1 yX1_findChain wsX1_findChain) := goodIn_app (goodIn_of _ (by decide +kernel)) ggX1_width_X1_findChain
set_option maxRecDepth 20000 in
theorem ggX1_width_X1_fillChain : GoodIn wsX1_width wsX1_fillChain := goodIn_r _ [22, 23, 1, 2, 13, 24, 25, 5, 26, 27, 28, 29, 30, 31, 32, 33] (by decide +kernel) (by decide +kernel)
set_option maxRecDepth 20000 in
theorem gX1_width_X1_fillChain : GoodIn wsX1_width (wsV RX1 47 RX1 yX1_fillChain wsX1_fillChain) := goodIn_app (goodIn_of _ (by decide +kernel)) ggX1_width_X1_fillChain
theorem dX1_width_0 : decode cX1_width 0 = .ok (.iconst 0, 1) := by decide +kernel
theorem dX1_width_1 : decode cX1_width 1 = .ok (.istore_n 3, 1) := by decide +kernel
theorem dX1_width_2 : decode cX1_width 2 = .ok (.iload_n 3, 1) := by decide +kernel
theorem dX1_width_3 : decode cX1_width 3 = .ok (.aload_n 0, 1) := by decide +kernel
theorem dX1_width_4 : decode cX1_width 4 = .ok (.getfield 9, 3) := by decide +kernel
theorem dX1_width_7 : decode cX1_width 7 = .ok (.getfield 15, 3) := by decide +kernel
theorem dX1_width_10 : decode cX1_width 10 = .ok (.if_icmp .ge 55, 3) := by decide +kernel
theorem dX1_width_13 : decode cX1_width 13 = .ok (.iconst 0, 1) := by decide +kernel
theorem dX1_width_14 : decode cX1_width 14 = .ok (.istore 4, 2) := by decide +kernel
theorem dX1_width_16 : decode cX1_width 16 = .ok (.iload 4, 2) := by decide +kernel
theorem dX1_width_18 : decode cX1_width 18 = .ok (.aload_n 0, 1) := by decide +kernel
theorem dX1_width_19 : decode cX1_width 19 = .ok (.getfield 9, 3) := by decide +kernel
theorem dX1_width_22 : decode cX1_width 22 = .ok (.getfield 15, 3) := by decide +kernel
theorem dX1_width_25 : decode cX1_width 25 = .ok (.if_icmp .ge 34, 3) := by decide +kernel
theorem dX1_width_28 : decode cX1_width 28 = .ok (.aload_n 0, 1) := by decide +kernel
theorem dX1_width_29 : decode cX1_width 29 = .ok (.getfield 23, 3) := by decide +kernel
theorem dX1_width_32 : decode cX1_width 32 = .ok (.iload_n 3, 1) := by decide +kernel
theorem dX1_width_33 : decode cX1_width 33 = .ok (.aaload, 1) := by decide +kernel
theorem dX1_width_34 : decode cX1_width 34 = .ok (.iload 4, 2) := by decide +kernel
theorem dX1_width_36 : decode cX1_width 36 = .ok (.iconst 0, 1) := by decide +kernel
theorem dX1_width_37 : decode cX1_width 37 = .ok (.aload_n 0, 1) := by decide +kernel
theorem dX1_width_38 : decode cX1_width 38 = .ok (.getfield 9, 3) := by decide +kernel
theorem dX1_width_41 : decode cX1_width 41 = .ok (.getfield 33, 3) := by decide +kernel
theorem dX1_width_44 : decode cX1_width 44 = .ok (.iload_n 3, 1) := by decide +kernel
theorem dX1_width_45 : decode cX1_width 45 = .ok (.aaload, 1) := by decide +kernel
theorem dX1_width_46 : decode cX1_width 46 = .ok (.iload 4, 2) := by decide +kernel
theorem dX1_width_48 : decode cX1_width 48 = .ok (.iaload, 1) := by decide +kernel
theorem dX1_width_49 : decode cX1_width 49 = .ok (.invokestatic 36, 3) := by decide +kernel
theorem dX1_width_52 : decode cX1_width 52 = .ok (.iastore, 1) := by decide +kernel
theorem dX1_width_53 : decode cX1_width 53 = .ok (.iinc 4 1, 3) := by decide +kernel
theorem dX1_width_56 : decode cX1_width 56 = .ok (.goto (-40), 3) := by decide +kernel
theorem dX1_width_59 : decode cX1_width 59 = .ok (.iinc 3 1, 3) := by decide +kernel
theorem dX1_width_62 : decode cX1_width 62 = .ok (.goto (-60), 3) := by decide +kernel
theorem dX1_width_65 : decode cX1_width 65 = .ok (.lconst 0, 1) := by decide +kernel
theorem dX1_width_66 : decode cX1_width 66 = .ok (.lstore_n 3, 1) := by decide +kernel
theorem dX1_width_67 : decode cX1_width 67 = .ok (.iconst 0, 1) := by decide +kernel
theorem dX1_width_68 : decode cX1_width 68 = .ok (.istore 5, 2) := by decide +kernel
theorem dX1_width_70 : decode cX1_width 70 = .ok (.iload 5, 2) := by decide +kernel
theorem dX1_width_72 : decode cX1_width 72 = .ok (.ldc 42, 2) := by decide +kernel
theorem dX1_width_74 : decode cX1_width 74 = .ok (.if_icmp .ge 28, 3) := by decide +kernel
theorem dX1_width_77 : decode cX1_width 77 = .ok (.aload_n 0, 1) := by decide +kernel
theorem dX1_width_78 : decode cX1_width 78 = .ok (.iload_n 1, 1) := by decide +kernel
theorem dX1_width_79 : decode cX1_width 79 = .ok (.iload_n 2, 1) := by decide +kernel
theorem dX1_width_80 : decode cX1_width 80 = .ok (.invokevirtual 43, 3) := by decide +kernel
theorem dX1_width_83 : decode cX1_width 83 = .ok (.ifCond .eq 19, 3) := by decide +kernel
theorem dX1_width_86 : decode cX1_width 86 = .ok (.lload_n 3, 1) := by decide +kernel
theorem dX1_width_87 : decode cX1_width 87 = .ok (.aload_n 0, 1) := by decide +kernel
theorem dX1_width_88 : decode cX1_width 88 = .ok (.iload_n 1, 1) := by decide +kernel
theorem dX1_width_89 : decode cX1_width 89 = .ok (.iload_n 2, 1) := by decide +kernel
theorem dX1_width_90 : decode cX1_width 90 = .ok (.invokevirtual 47, 3) := by decide +kernel
theorem dX1_width_93 : decode cX1_width 93 = .ok (.i2l, 1) := by decide +kernel
theorem dX1_width_94 : decode cX1_width 94 = .ok (.ladd, 1) := by decide +kernel
theorem dX1_width_95 : decode cX1_width 95 = .ok (.lstore_n 3, 1) := by decide +kernel
theorem dX1_width_96 : decode cX1_width 96 = .ok (.iinc 5 1, 3) := by decide +kernel
theorem dX1_width_99 : decode cX1_width 99 = .ok (.goto (-29), 3) := by decide +kernel
theorem dX1_width_102 : decode cX1_width 102 = .ok (.lload_n 3, 1) := by decide +kernel
theorem dX1_width_103 : decode cX1_width 103 = .ok (.lreturn, 1) := by decide +kernel
set_option maxRecDepth 20000 in
theorem ggX1_findChain_J7_fill_53178 : GoodIn wsX1_findChain wsJ7_fill_53178 := goodIn_r _ [8] (by decide +kernel) (by decide +kernel)
set_option maxRecDepth 20000 in
theorem gX1_findChain_J7_fill_53178 : GoodIn wsX1_findChain (va_wsS RX1 50 yJ7_fill_53178 wsJ7_fill_53178) := goodIn_app (goodIn_of _ (by decide +kernel)) ggX1_findChain_J7_fill_53178
theorem dX1_findChain_0 : decode cX1_findChain 0 = .ok (.aload_n 0, 1) := by decide +kernel
theorem dX1_findChain_1 : decode cX1_findChain 1 = .ok (.getfield 30, 3) := by decide +kernel
theorem dX1_findChain_4 : decode cX1_findChain 4 = .ok (.iconst (-1), 1) := by decide +kernel
theorem dX1_findChain_5 : decode cX1_findChain 5 = .ok (.invokestatic 50, 3) := by decide +kernel
theorem dX1_findChain_8 : decode cX1_findChain 8 = .ok (.aload_n 0, 1) := by decide +kernel
theorem dX1_findChain_9 : decode cX1_findChain 9 = .ok (.getfield 30, 3) := by decide +kernel
theorem dX1_findChain_12 : decode cX1_findChain 12 = .ok (.iload_n 1, 1) := by decide +kernel
theorem dX1_findChain_13 : decode cX1_findChain 13 = .ok (.iload_n 1, 1) := by decide +kernel
theorem dX1_findChain_14 : decode cX1_findChain 14 = .ok (.iastore, 1) := by decide +kernel
theorem dX1_findChain_15 : decode cX1_findChain 15 = .ok (.aload_n 0, 1) := by decide +kernel
theorem dX1_findChain_16 : decode cX1_findChain 16 = .ok (.getfield 26, 3) := by decide +kernel
theorem dX1_findChain_19 : decode cX1_findChain 19 = .ok (.iconst 0, 1) := by decide +kernel
theorem dX1_findChain_20 : decode cX1_findChain 20 = .ok (.iload_n 1, 1) := by decide +kernel
theorem dX1_findChain_21 : decode cX1_findChain 21 = .ok (.iastore, 1) := by decide +kernel
theorem dX1_findChain_22 : decode cX1_findChain 22 = .ok (.iconst 1, 1) := by decide +kernel
theorem dX1_findChain_23 : decode cX1_findChain 23 = .ok (.istore_n 3, 1) := by decide +kernel
theorem dX1_findChain_24 : decode cX1_findChain 24 = .ok (.iconst 0, 1) := by decide +kernel
theorem dX1_findChain_25 : decode cX1_findChain 25 = .ok (.istore 4, 2) := by decide +kernel
theorem dX1_findChain_27 : decode cX1_findChain 27 = .ok (.iload 4, 2) := by decide +kernel
theorem dX1_findChain_29 : decode cX1_findChain 29 = .ok (.iload_n 3, 1) := by decide +kernel
theorem dX1_findChain_30 : decode cX1_findChain 30 = .ok (.if_icmp .ge 94, 3) := by decide +kernel
theorem dX1_findChain_33 : decode cX1_findChain 33 = .ok (.aload_n 0, 1) := by decide +kernel
theorem dX1_findChain_34 : decode cX1_findChain 34 = .ok (.getfield 26, 3) := by decide +kernel
theorem dX1_findChain_37 : decode cX1_findChain 37 = .ok (.iload 4, 2) := by decide +kernel
theorem dX1_findChain_39 : decode cX1_findChain 39 = .ok (.iaload, 1) := by decide +kernel
theorem dX1_findChain_40 : decode cX1_findChain 40 = .ok (.istore 5, 2) := by decide +kernel
theorem dX1_findChain_42 : decode cX1_findChain 42 = .ok (.iconst 0, 1) := by decide +kernel
theorem dX1_findChain_43 : decode cX1_findChain 43 = .ok (.istore 6, 2) := by decide +kernel
theorem dX1_findChain_45 : decode cX1_findChain 45 = .ok (.iload 6, 2) := by decide +kernel
theorem dX1_findChain_47 : decode cX1_findChain 47 = .ok (.aload_n 0, 1) := by decide +kernel
theorem dX1_findChain_48 : decode cX1_findChain 48 = .ok (.getfield 9, 3) := by decide +kernel
theorem dX1_findChain_51 : decode cX1_findChain 51 = .ok (.getfield 15, 3) := by decide +kernel
theorem dX1_findChain_54 : decode cX1_findChain 54 = .ok (.if_icmp .ge 64, 3) := by decide +kernel
theorem dX1_findChain_57 : decode cX1_findChain 57 = .ok (.aload_n 0, 1) := by decide +kernel
theorem dX1_findChain_58 : decode cX1_findChain 58 = .ok (.getfield 30, 3) := by decide +kernel
theorem dX1_findChain_61 : decode cX1_findChain 61 = .ok (.iload 6, 2) := by decide +kernel
theorem dX1_findChain_63 : decode cX1_findChain 63 = .ok (.iaload, 1) := by decide +kernel
theorem dX1_findChain_64 : decode cX1_findChain 64 = .ok (.iconst (-1), 1) := by decide +kernel
theorem dX1_findChain_65 : decode cX1_findChain 65 = .ok (.if_icmp .ne 47, 3) := by decide +kernel
theorem dX1_findChain_68 : decode cX1_findChain 68 = .ok (.aload_n 0, 1) := by decide +kernel
theorem dX1_findChain_69 : decode cX1_findChain 69 = .ok (.getfield 23, 3) := by decide +kernel
theorem dX1_findChain_72 : decode cX1_findChain 72 = .ok (.iload 5, 2) := by decide +kernel
theorem dX1_findChain_74 : decode cX1_findChain 74 = .ok (.aaload, 1) := by decide +kernel
theorem dX1_findChain_75 : decode cX1_findChain 75 = .ok (.iload 6, 2) := by decide +kernel
theorem dX1_findChain_77 : decode cX1_findChain 77 = .ok (.iaload, 1) := by decide +kernel
theorem dX1_findChain_78 : decode cX1_findChain 78 = .ok (.ifCond .le 34, 3) := by decide +kernel
theorem dX1_findChain_81 : decode cX1_findChain 81 = .ok (.iload_n 3, 1) := by decide +kernel
theorem dX1_findChain_82 : decode cX1_findChain 82 = .ok (.aload_n 0, 1) := by decide +kernel
theorem dX1_findChain_83 : decode cX1_findChain 83 = .ok (.getfield 9, 3) := by decide +kernel
theorem dX1_findChain_86 : decode cX1_findChain 86 = .ok (.getfield 15, 3) := by decide +kernel
theorem dX1_findChain_89 : decode cX1_findChain 89 = .ok (.if_icmp .ge 23, 3) := by decide +kernel
theorem dX1_findChain_92 : decode cX1_findChain 92 = .ok (.aload_n 0, 1) := by decide +kernel
theorem dX1_findChain_93 : decode cX1_findChain 93 = .ok (.getfield 30, 3) := by decide +kernel
theorem dX1_findChain_96 : decode cX1_findChain 96 = .ok (.iload 6, 2) := by decide +kernel
theorem dX1_findChain_98 : decode cX1_findChain 98 = .ok (.iload 5, 2) := by decide +kernel
theorem dX1_findChain_100 : decode cX1_findChain 100 = .ok (.iastore, 1) := by decide +kernel
theorem dX1_findChain_101 : decode cX1_findChain 101 = .ok (.aload_n 0, 1) := by decide +kernel
theorem dX1_findChain_102 : decode cX1_findChain 102 = .ok (.getfield 26, 3) := by decide +kernel
theorem dX1_findChain_105 : decode cX1_findChain 105 = .ok (.iload_n 3, 1) := by decide +kernel
theorem dX1_findChain_106 : decode cX1_findChain 106 = .ok (.iload 6, 2) := by decide +kernel
theorem dX1_findChain_108 : decode cX1_findChain 108 = .ok (.iastore, 1) := by decide +kernel
theorem dX1_findChain_109 : decode cX1_findChain 109 = .ok (.iinc 3 1, 3) := by decide +kernel
theorem dX1_findChain_112 : decode cX1_findChain 112 = .ok (.iinc 6 1, 3) := by decide +kernel
theorem dX1_findChain_115 : decode cX1_findChain 115 = .ok (.goto (-70), 3) := by decide +kernel
theorem dX1_findChain_118 : decode cX1_findChain 118 = .ok (.iinc 4 1, 3) := by decide +kernel
theorem dX1_findChain_121 : decode cX1_findChain 121 = .ok (.goto (-94), 3) := by decide +kernel
theorem dX1_findChain_124 : decode cX1_findChain 124 = .ok (.aload_n 0, 1) := by decide +kernel
theorem dX1_findChain_125 : decode cX1_findChain 125 = .ok (.getfield 30, 3) := by decide +kernel
theorem dX1_findChain_128 : decode cX1_findChain 128 = .ok (.iload_n 2, 1) := by decide +kernel
theorem dX1_findChain_129 : decode cX1_findChain 129 = .ok (.iaload, 1) := by decide +kernel
theorem dX1_findChain_130 : decode cX1_findChain 130 = .ok (.iconst (-1), 1) := by decide +kernel
theorem dX1_findChain_131 : decode cX1_findChain 131 = .ok (.if_icmp .eq 7, 3) := by decide +kernel
theorem dX1_findChain_134 : decode cX1_findChain 134 = .ok (.iconst 1, 1) := by decide +kernel
theorem dX1_findChain_135 : decode cX1_findChain 135 = .ok (.goto 4, 3) := by decide +kernel
theorem dX1_findChain_138 : decode cX1_findChain 138 = .ok (.iconst 0, 1) := by decide +kernel
theorem dX1_findChain_139 : decode cX1_findChain 139 = .ok (.ireturn, 1) := by decide +kernel
theorem dX1_fillChain_0 : decode cX1_fillChain 0 = .ok (.ldc 58, 2) := by decide +kernel
theorem dX1_fillChain_2 : decode cX1_fillChain 2 = .ok (.istore_n 3, 1) := by decide +kernel
theorem dX1_fillChain_3 : decode cX1_fillChain 3 = .ok (.iload_n 2, 1) := by decide +kernel
theorem dX1_fillChain_4 : decode cX1_fillChain 4 = .ok (.istore 4, 2) := by decide +kernel
theorem dX1_fillChain_6 : decode cX1_fillChain 6 = .ok (.iconst 0, 1) := by decide +kernel
theorem dX1_fillChain_7 : decode cX1_fillChain 7 = .ok (.istore 5, 2) := by decide +kernel
theorem dX1_fillChain_9 : decode cX1_fillChain 9 = .ok (.iload 5, 2) := by decide +kernel
theorem dX1_fillChain_11 : decode cX1_fillChain 11 = .ok (.aload_n 0, 1) := by decide +kernel
theorem dX1_fillChain_12 : decode cX1_fillChain 12 = .ok (.getfield 9, 3) := by decide +kernel
theorem dX1_fillChain_15 : decode cX1_fillChain 15 = .ok (.getfield 15, 3) := by decide +kernel
theorem dX1_fillChain_18 : decode cX1_fillChain 18 = .ok (.if_icmp .ge 44, 3) := by decide +kernel
theorem dX1_fillChain_21 : decode cX1_fillChain 21 = .ok (.iload 4, 2) := by decide +kernel
theorem dX1_fillChain_23 : decode cX1_fillChain 23 = .ok (.iload_n 1, 1) := by decide +kernel
theorem dX1_fillChain_24 : decode cX1_fillChain 24 = .ok (.if_icmp .eq 38, 3) := by decide +kernel
theorem dX1_fillChain_27 : decode cX1_fillChain 27 = .ok (.iload_n 3, 1) := by decide +kernel
theorem dX1_fillChain_28 : decode cX1_fillChain 28 = .ok (.aload_n 0, 1) := by decide +kernel
theorem dX1_fillChain_29 : decode cX1_fillChain 29 = .ok (.getfield 23, 3) := by decide +kernel
theorem dX1_fillChain_32 : decode cX1_fillChain 32 = .ok (.aload_n 0, 1) := by decide +kernel
theorem dX1_fillChain_33 : decode cX1_fillChain 33 = .ok (.getfield 30, 3) := by decide +kernel
theorem dX1_fillChain_36 : decode cX1_fillChain 36 = .ok (.iload 4, 2) := by decide +kernel
theorem dX1_fillChain_38 : decode cX1_fillChain 38 = .ok (.iaload, 1) := by decide +kernel
theorem dX1_fillChain_39 : decode cX1_fillChain 39 = .ok (.aaload, 1) := by decide +kernel
theorem dX1_fillChain_40 : decode cX1_fillChain 40 = .ok (.iload 4, 2) := by decide +kernel
theorem dX1_fillChain_42 : decode cX1_fillChain 42 = .ok (.iaload, 1) := by decide +kernel
theorem dX1_fillChain_43 : decode cX1_fillChain 43 = .ok (.invokestatic 59, 3) := by decide +kernel
theorem dX1_fillChain_46 : decode cX1_fillChain 46 = .ok (.istore_n 3, 1) := by decide +kernel
theorem dX1_fillChain_47 : decode cX1_fillChain 47 = .ok (.aload_n 0, 1) := by decide +kernel
theorem dX1_fillChain_48 : decode cX1_fillChain 48 = .ok (.getfield 30, 3) := by decide +kernel
theorem dX1_fillChain_51 : decode cX1_fillChain 51 = .ok (.iload 4, 2) := by decide +kernel
theorem dX1_fillChain_53 : decode cX1_fillChain 53 = .ok (.iaload, 1) := by decide +kernel
theorem dX1_fillChain_54 : decode cX1_fillChain 54 = .ok (.istore 4, 2) := by decide +kernel
theorem dX1_fillChain_56 : decode cX1_fillChain 56 = .ok (.iinc 5 1, 3) := by decide +kernel
theorem dX1_fillChain_59 : decode cX1_fillChain 59 = .ok (.goto (-50), 3) := by decide +kernel
theorem dX1_fillChain_62 : decode cX1_fillChain 62 = .ok (.iload_n 2, 1) := by decide +kernel
theorem dX1_fillChain_63 : decode cX1_fillChain 63 = .ok (.istore 4, 2) := by decide +kernel
theorem dX1_fillChain_65 : decode cX1_fillChain 65 = .ok (.iconst 0, 1) := by decide +kernel
theorem dX1_fillChain_66 : decode cX1_fillChain 66 = .ok (.istore 5, 2) := by decide +kernel
theorem dX1_fillChain_68 : decode cX1_fillChain 68 = .ok (.iload 5, 2) := by decide +kernel
theorem dX1_fillChain_70 : decode cX1_fillChain 70 = .ok (.aload_n 0, 1) := by decide +kernel
theorem dX1_fillChain_71 : decode cX1_fillChain 71 = .ok (.getfield 9, 3) := by decide +kernel
theorem dX1_fillChain_74 : decode cX1_fillChain 74 = .ok (.getfield 15, 3) := by decide +kernel
theorem dX1_fillChain_77 : decode cX1_fillChain 77 = .ok (.if_icmp .ge 62, 3) := by decide +kernel
theorem dX1_fillChain_80 : decode cX1_fillChain 80 = .ok (.iload 4, 2) := by decide +kernel
theorem dX1_fillChain_82 : decode cX1_fillChain 82 = .ok (.iload_n 1, 1) := by decide +kernel
theorem dX1_fillChain_83 : decode cX1_fillChain 83 = .ok (.if_icmp .eq 56, 3) := by decide +kernel
theorem dX1_fillChain_86 : decode cX1_fillChain 86 = .ok (.aload_n 0, 1) := by decide +kernel
theorem dX1_fillChain_87 : decode cX1_fillChain 87 = .ok (.getfield 23, 3) := by decide +kernel
theorem dX1_fillChain_90 : decode cX1_fillChain 90 = .ok (.aload_n 0, 1) := by decide +kernel
theorem dX1_fillChain_91 : decode cX1_fillChain 91 = .ok (.getfield 30, 3) := by decide +kernel
theorem dX1_fillChain_94 : decode cX1_fillChain 94 = .ok (.iload 4, 2) := by decide +kernel
theorem dX1_fillChain_96 : decode cX1_fillChain 96 = .ok (.iaload, 1) := by decide +kernel
theorem dX1_fillChain_97 : decode cX1_fillChain 97 = .ok (.aaload, 1) := by decide +kernel
theorem dX1_fillChain_98 : decode cX1_fillChain 98 = .ok (.iload 4, 2) := by decide +kernel
theorem dX1_fillChain_100 : decode cX1_fillChain 100 = .ok (.dup2, 1) := by decide +kernel
theorem dX1_fillChain_101 : decode cX1_fillChain 101 = .ok (.iaload, 1) := by decide +kernel
theorem dX1_fillChain_102 : decode cX1_fillChain 102 = .ok (.iload_n 3, 1) := by decide +kernel
theorem dX1_fillChain_103 : decode cX1_fillChain 103 = .ok (.isub, 1) := by decide +kernel
theorem dX1_fillChain_104 : decode cX1_fillChain 104 = .ok (.iastore, 1) := by decide +kernel
theorem dX1_fillChain_105 : decode cX1_fillChain 105 = .ok (.aload_n 0, 1) := by decide +kernel
theorem dX1_fillChain_106 : decode cX1_fillChain 106 = .ok (.getfield 23, 3) := by decide +kernel
theorem dX1_fillChain_109 : decode cX1_fillChain 109 = .ok (.iload 4, 2) := by decide +kernel
theorem dX1_fillChain_111 : decode cX1_fillChain 111 = .ok (.aaload, 1) := by decide +kernel
theorem dX1_fillChain_112 : decode cX1_fillChain 112 = .ok (.aload_n 0, 1) := by decide +kernel
theorem dX1_fillChain_113 : decode cX1_fillChain 113 = .ok (.getfield 30, 3) := by decide +kernel
theorem dX1_fillChain_116 : decode cX1_fillChain 116 = .ok (.iload 4, 2) := by decide +kernel
theorem dX1_fillChain_118 : decode cX1_fillChain 118 = .ok (.iaload, 1) := by decide +kernel
theorem dX1_fillChain_119 : decode cX1_fillChain 119 = .ok (.dup2, 1) := by decide +kernel
theorem dX1_fillChain_120 : decode cX1_fillChain 120 = .ok (.iaload, 1) := by decide +kernel
theorem dX1_fillChain_121 : decode cX1_fillChain 121 = .ok (.iload_n 3, 1) := by decide +kernel
theorem dX1_fillChain_122 : decode cX1_fillChain 122 = .ok (.iadd, 1) := by decide +kernel
theorem dX1_fillChain_123 : decode cX1_fillChain 123 = .ok (.iastore, 1) := by decide +kernel
theorem dX1_fillChain_124 : decode cX1_fillChain 124 = .ok (.aload_n 0, 1) := by decide +kernel
theorem dX1_fillChain_125 : decode cX1_fillChain 125 = .ok (.getfield 30, 3) := by decide +kernel
theorem dX1_fillChain_128 : decode cX1_fillChain 128 = .ok (.iload 4, 2) := by decide +kernel
theorem dX1_fillChain_130 : decode cX1_fillChain 130 = .ok (.iaload, 1) := by decide +kernel
theorem dX1_fillChain_131 : decode cX1_fillChain 131 = .ok (.istore 4, 2) := by decide +kernel
theorem dX1_fillChain_133 : decode cX1_fillChain 133 = .ok (.iinc 5 1, 3) := by decide +kernel
theorem dX1_fillChain_136 : decode cX1_fillChain 136 = .ok (.goto (-68), 3) := by decide +kernel
theorem dX1_fillChain_139 : decode cX1_fillChain 139 = .ok (.iload_n 3, 1) := by decide +kernel
theorem dX1_fillChain_140 : decode cX1_fillChain 140 = .ok (.ireturn, 1) := by decide +kernel
theorem dX2_init_0 : decode cX2_init 0 = .ok (.aload_n 0, 1) := by decide +kernel
theorem dX2_init_1 : decode cX2_init 1 = .ok (.invokespecial 3, 3) := by decide +kernel
theorem dX2_init_4 : decode cX2_init 4 = .ok (.aload_n 0, 1) := by decide +kernel
theorem dX2_init_5 : decode cX2_init 5 = .ok (.aload_n 1, 1) := by decide +kernel
theorem dX2_init_6 : decode cX2_init 6 = .ok (.putfield 9, 3) := by decide +kernel
theorem dX2_init_9 : decode cX2_init 9 = .ok (.aload_n 0, 1) := by decide +kernel
theorem dX2_init_10 : decode cX2_init 10 = .ok (.aload_n 1, 1) := by decide +kernel
theorem dX2_init_11 : decode cX2_init 11 = .ok (.getfield 15, 3) := by decide +kernel
theorem dX2_init_14 : decode cX2_init 14 = .ok (.newarray .int, 2) := by decide +kernel
theorem dX2_init_16 : decode cX2_init 16 = .ok (.putfield 21, 3) := by decide +kernel
theorem dX2_init_19 : decode cX2_init 19 = .ok (.aload_n 0, 1) := by decide +kernel
theorem dX2_init_20 : decode cX2_init 20 = .ok (.aload_n 1, 1) := by decide +kernel
theorem dX2_init_21 : decode cX2_init 21 = .ok (.getfield 15, 3) := by decide +kernel
theorem dX2_init_24 : decode cX2_init 24 = .ok (.newarray .int, 2) := by decide +kernel
theorem dX2_init_26 : decode cX2_init 26 = .ok (.putfield 25, 3) := by decide +kernel
theorem dX2_init_29 : decode cX2_init 29 = .ok (.aload_n 0, 1) := by decide +kernel
theorem dX2_init_30 : decode cX2_init 30 = .ok (.aload_n 1, 1) := by decide +kernel
theorem dX2_init_31 : decode cX2_init 31 = .ok (.getfield 15, 3) := by decide +kernel
theorem dX2_init_34 : decode cX2_init 34 = .ok (.newarray .int, 2) := by decide +kernel
theorem dX2_init_36 : decode cX2_init 36 = .ok (.putfield 28, 3) := by decide +kernel
theorem dX2_init_39 : decode cX2_init 39 = .ok (.aload_n 0, 1) := by decide +kernel
theorem dX2_init_40 : decode cX2_init 40 = .ok (.lconst 0, 1) := by decide +kernel
theorem dX2_init_41 : decode cX2_init 41 = .ok (.putfield 31, 3) := by decide +kernel
theorem dX2_init_44 : decode cX2_init 44 = .ok (.aload_n 0, 1) := by decide +kernel
theorem dX2_init_45 : decode cX2_init 45 = .ok (.iconst 0, 1) := by decide +kernel
theorem dX2_init_46 : decode cX2_init 46 = .ok (.putfield 35, 3) := by decide +kernel
theorem dX2_init_49 : decode cX2_init 49 = .ok (.return_, 1) := by decide +kernel
set_option maxRecDepth 20000 in
theorem ggX2_bound_J7_fill_53178 : GoodIn wsX2_bound wsJ7_fill_53178 := goodIn_r _ [9] (by decide +kernel) (by decide +kernel)
set_option maxRecDepth 20000 in
theorem gX2_bound_J7_fill_53178 : GoodIn wsX2_bound (va_wsS RX2 38 yJ7_fill_53178 wsJ7_fill_53178) := goodIn_app (goodIn_of _ (by decide +kernel)) ggX2_bound_J7_fill_53178
set_option maxRecDepth 20000 in
theorem ggX2_bound_X2_makeTree : GoodIn wsX2_bound wsX2_makeTree := goodIn_r _ [14, 4, 15, 16, 17, 5, 1, 18, 19, 20, 13, 21, 22, 23, 24, 25, 26, 27, 28, 29, 30, 31, 32, 33, 34, 35, 36, 37, 45, 46, 47, 48, 49, 50, 51, 52, 53] (by decide +kernel) (by decide +kernel)
set_option maxRecDepth 20000 in
theorem gX2_bound_X2_makeTree : GoodIn wsX2_bound (wsV RX2 44 RX2 yX2_makeTree wsX2_makeTree) := goodIn_app (goodIn_of _ (by decide +kernel)) ggX2_bound_X2_makeTree
set_option maxRecDepth 20000 in
theorem ggX2_bound_X2_stepOf : GoodIn wsX2_bound wsX2_stepOf := goodIn_r _ [40] (by decide +kernel) (by decide +kernel)
set_option maxRecDepth 20000 in
theorem gX2_bound_X2_stepOf : GoodIn wsX2_bound (va_wsS RX2 50 yX2_stepOf wsX2_stepOf) := goodIn_app (goodIn_of _ (by decide +kernel)) ggX2_bound_X2_stepOf
set_option maxRecDepth 20000 in
theorem ggX2_bound_X2_moveWeights : GoodIn wsX2_bound wsX2_moveWeights := goodIn_r _ [44, 15, 1, 16, 45, 46, 47, 48, 49, 50, 51, 52, 53] (by decide +kernel) (by decide +kernel)
set_option maxRecDepth 20000 in
theorem gX2_bound_X2_moveWeights : GoodIn wsX2_bound (wsV RX2 54 RX2 yX2_moveWeights wsX2_moveWeights) := goodIn_app (goodIn_of _ (by decide +kernel)) ggX2_bound_X2_moveWeights
theorem dX2_bound_0 : decode cX2_bound 0 = .ok (.aload_n 0, 1) := by decide +kernel
theorem dX2_bound_1 : decode cX2_bound 1 = .ok (.getfield 21, 3) := by decide +kernel
theorem dX2_bound_4 : decode cX2_bound 4 = .ok (.iconst 0, 1) := by decide +kernel
theorem dX2_bound_5 : decode cX2_bound 5 = .ok (.invokestatic 38, 3) := by decide +kernel
theorem dX2_bound_8 : decode cX2_bound 8 = .ok (.aload_n 0, 1) := by decide +kernel
theorem dX2_bound_9 : decode cX2_bound 9 = .ok (.iconst 0, 1) := by decide +kernel
theorem dX2_bound_10 : decode cX2_bound 10 = .ok (.putfield 35, 3) := by decide +kernel
theorem dX2_bound_13 : decode cX2_bound 13 = .ok (.lconst 0, 1) := by decide +kernel
theorem dX2_bound_14 : decode cX2_bound 14 = .ok (.lstore_n 2, 1) := by decide +kernel
theorem dX2_bound_15 : decode cX2_bound 15 = .ok (.iconst 1, 1) := by decide +kernel
theorem dX2_bound_16 : decode cX2_bound 16 = .ok (.istore 4, 2) := by decide +kernel
theorem dX2_bound_18 : decode cX2_bound 18 = .ok (.iload 4, 2) := by decide +kernel
theorem dX2_bound_20 : decode cX2_bound 20 = .ok (.iload_n 1, 1) := by decide +kernel
theorem dX2_bound_21 : decode cX2_bound 21 = .ok (.if_icmp .gt 56, 3) := by decide +kernel
theorem dX2_bound_24 : decode cX2_bound 24 = .ok (.aload_n 0, 1) := by decide +kernel
theorem dX2_bound_25 : decode cX2_bound 25 = .ok (.invokevirtual 44, 3) := by decide +kernel
theorem dX2_bound_28 : decode cX2_bound 28 = .ok (.ifCond .ne 7, 3) := by decide +kernel
theorem dX2_bound_31 : decode cX2_bound 31 = .ok (.ldc2_w 48, 3) := by decide +kernel
theorem dX2_bound_34 : decode cX2_bound 34 = .ok (.lreturn, 1) := by decide +kernel
theorem dX2_bound_35 : decode cX2_bound 35 = .ok (.aload_n 0, 1) := by decide +kernel
theorem dX2_bound_36 : decode cX2_bound 36 = .ok (.getfield 35, 3) := by decide +kernel
theorem dX2_bound_39 : decode cX2_bound 39 = .ok (.ifCond .eq 12, 3) := by decide +kernel
theorem dX2_bound_42 : decode cX2_bound 42 = .ok (.aload_n 0, 1) := by decide +kernel
theorem dX2_bound_43 : decode cX2_bound 43 = .ok (.getfield 31, 3) := by decide +kernel
theorem dX2_bound_46 : decode cX2_bound 46 = .ok (.lload_n 2, 1) := by decide +kernel
theorem dX2_bound_47 : decode cX2_bound 47 = .ok (.lcmp, 1) := by decide +kernel
theorem dX2_bound_48 : decode cX2_bound 48 = .ok (.ifCond .le 14, 3) := by decide +kernel
theorem dX2_bound_51 : decode cX2_bound 51 = .ok (.aload_n 0, 1) := by decide +kernel
theorem dX2_bound_52 : decode cX2_bound 52 = .ok (.getfield 31, 3) := by decide +kernel
theorem dX2_bound_55 : decode cX2_bound 55 = .ok (.lstore_n 2, 1) := by decide +kernel
theorem dX2_bound_56 : decode cX2_bound 56 = .ok (.aload_n 0, 1) := by decide +kernel
theorem dX2_bound_57 : decode cX2_bound 57 = .ok (.iload 4, 2) := by decide +kernel
theorem dX2_bound_59 : decode cX2_bound 59 = .ok (.putfield 35, 3) := by decide +kernel
theorem dX2_bound_62 : decode cX2_bound 62 = .ok (.aload_n 0, 1) := by decide +kernel
theorem dX2_bound_63 : decode cX2_bound 63 = .ok (.iload 4, 2) := by decide +kernel
theorem dX2_bound_65 : decode cX2_bound 65 = .ok (.invokestatic 50, 3) := by decide +kernel
theorem dX2_bound_68 : decode cX2_bound 68 = .ok (.invokevirtual 54, 3) := by decide +kernel
theorem dX2_bound_71 : decode cX2_bound 71 = .ok (.iinc 4 1, 3) := by decide +kernel
theorem dX2_bound_74 : decode cX2_bound 74 = .ok (.goto (-56), 3) := by decide +kernel
theorem dX2_bound_77 : decode cX2_bound 77 = .ok (.lload_n 2, 1) := by decide +kernel
theorem dX2_bound_78 : decode cX2_bound 78 = .ok (.lconst 0, 1) := by decide +kernel
theorem dX2_bound_79 : decode cX2_bound 79 = .ok (.lcmp, 1) := by decide +kernel
theorem dX2_bound_80 : decode cX2_bound 80 = .ok (.ifCond .ge 7, 3) := by decide +kernel
theorem dX2_bound_83 : decode cX2_bound 83 = .ok (.lconst 0, 1) := by decide +kernel
theorem dX2_bound_84 : decode cX2_bound 84 = .ok (.goto 10, 3) := by decide +kernel
theorem dX2_bound_87 : decode cX2_bound 87 = .ok (.lload_n 2, 1) := by decide +kernel
theorem dX2_bound_88 : decode cX2_bound 88 = .ok (.lconst 1, 1) := by decide +kernel
theorem dX2_bound_89 : decode cX2_bound 89 = .ok (.ladd, 1) := by decide +kernel
theorem dX2_bound_90 : decode cX2_bound 90 = .ok (.ldc2_w 58, 3) := by decide +kernel
theorem dX2_bound_93 : decode cX2_bound 93 = .ok (.ldiv, 1) := by decide +kernel
theorem dX2_bound_94 : decode cX2_bound 94 = .ok (.lreturn, 1) := by decide +kernel
theorem dX2_stepOf_0 : decode cX2_stepOf 0 = .ok (.iload_n 0, 1) := by decide +kernel
theorem dX2_stepOf_1 : decode cX2_stepOf 1 = .ok (.iconst 1, 1) := by decide +kernel
theorem dX2_stepOf_2 : decode cX2_stepOf 2 = .ok (.isub, 1) := by decide +kernel
theorem dX2_stepOf_3 : decode cX2_stepOf 3 = .ok (.iconst 4, 1) := by decide +kernel
theorem dX2_stepOf_4 : decode cX2_stepOf 4 = .ok (.idiv, 1) := by decide +kernel
theorem dX2_stepOf_5 : decode cX2_stepOf 5 = .ok (.istore_n 1, 1) := by decide +kernel
theorem dX2_stepOf_6 : decode cX2_stepOf 6 = .ok (.iload_n 1, 1) := by decide +kernel
theorem dX2_stepOf_7 : decode cX2_stepOf 7 = .ok (.iconst 4, 1) := by decide +kernel
theorem dX2_stepOf_8 : decode cX2_stepOf 8 = .ok (.if_icmp .ge 10, 3) := by decide +kernel
theorem dX2_stepOf_11 : decode cX2_stepOf 11 = .ok (.bipush 16, 2) := by decide +kernel
theorem dX2_stepOf_13 : decode cX2_stepOf 13 = .ok (.iload_n 1, 1) := by decide +kernel
theorem dX2_stepOf_14 : decode cX2_stepOf 14 = .ok (.ishr, 1) := by decide +kernel
theorem dX2_stepOf_15 : decode cX2_stepOf 15 = .ok (.goto 4, 3) := by decide +kernel
theorem dX2_stepOf_18 : decode cX2_stepOf 18 = .ok (.iconst 1, 1) := by decide +kernel
theorem dX2_stepOf_19 : decode cX2_stepOf 19 = .ok (.ireturn, 1) := by decide +kernel
theorem dX2_moveWeights_0 : decode cX2_moveWeights 0 = .ok (.iconst 0, 1) := by decide +kernel
theorem dX2_moveWeights_1 : decode cX2_moveWeights 1 = .ok (.istore_n 2, 1) := by decide +kernel
theorem dX2_moveWeights_2 : decode cX2_moveWeights 2 = .ok (.iload_n 2, 1) := by decide +kernel
theorem dX2_moveWeights_3 : decode cX2_moveWeights 3 = .ok (.aload_n 0, 1) := by decide +kernel
theorem dX2_moveWeights_4 : decode cX2_moveWeights 4 = .ok (.getfield 9, 3) := by decide +kernel
theorem dX2_moveWeights_7 : decode cX2_moveWeights 7 = .ok (.getfield 15, 3) := by decide +kernel
theorem dX2_moveWeights_10 : decode cX2_moveWeights 10 = .ok (.if_icmp .ge 28, 3) := by decide +kernel
theorem dX2_moveWeights_13 : decode cX2_moveWeights 13 = .ok (.aload_n 0, 1) := by decide +kernel
theorem dX2_moveWeights_14 : decode cX2_moveWeights 14 = .ok (.getfield 21, 3) := by decide +kernel
theorem dX2_moveWeights_17 : decode cX2_moveWeights 17 = .ok (.iload_n 2, 1) := by decide +kernel
theorem dX2_moveWeights_18 : decode cX2_moveWeights 18 = .ok (.dup2, 1) := by decide +kernel
theorem dX2_moveWeights_19 : decode cX2_moveWeights 19 = .ok (.iaload, 1) := by decide +kernel
theorem dX2_moveWeights_20 : decode cX2_moveWeights 20 = .ok (.aload_n 0, 1) := by decide +kernel
theorem dX2_moveWeights_21 : decode cX2_moveWeights 21 = .ok (.getfield 25, 3) := by decide +kernel
theorem dX2_moveWeights_24 : decode cX2_moveWeights 24 = .ok (.iload_n 2, 1) := by decide +kernel
theorem dX2_moveWeights_25 : decode cX2_moveWeights 25 = .ok (.iaload, 1) := by decide +kernel
theorem dX2_moveWeights_26 : decode cX2_moveWeights 26 = .ok (.iconst 2, 1) := by decide +kernel
theorem dX2_moveWeights_27 : decode cX2_moveWeights 27 = .ok (.isub, 1) := by decide +kernel
theorem dX2_moveWeights_28 : decode cX2_moveWeights 28 = .ok (.iload_n 1, 1) := by decide +kernel
theorem dX2_moveWeights_29 : decode cX2_moveWeights 29 = .ok (.imul, 1) := by decide +kernel
theorem dX2_moveWeights_30 : decode cX2_moveWeights 30 = .ok (.iadd, 1) := by decide +kernel
theorem dX2_moveWeights_31 : decode cX2_moveWeights 31 = .ok (.iastore, 1) := by decide +kernel
theorem dX2_moveWeights_32 : decode cX2_moveWeights 32 = .ok (.iinc 2 1, 3) := by decide +kernel
theorem dX2_moveWeights_35 : decode cX2_moveWeights 35 = .ok (.goto (-33), 3) := by decide +kernel
theorem dX2_moveWeights_38 : decode cX2_moveWeights 38 = .ok (.return_, 1) := by decide +kernel
set_option maxRecDepth 20000 in
theorem ggX2_makeTree_X2_joinTwoPieces : GoodIn wsX2_makeTree wsX2_joinTwoPieces := goodIn_r _ [11, 2, 4, 12, 13, 14, 10, 15, 5, 6, 16, 17, 18, 19, 1, 3, 20, 21, 22, 23, 28, 29, 30, 31, 32, 33, 34, 35, 36] (by decide +kernel) (by decide +kernel)
set_option maxRecDepth 20000 in
theorem gX2_makeTree_X2_joinTwoPieces : GoodIn wsX2_makeTree (wsV RX2 60 RX2 yX2_joinTwoPieces wsX2_joinTwoPieces) := goodIn_app (goodIn_of _ (by decide +kernel)) ggX2_makeTree_X2_joinTwoPieces
set_option maxRecDepth 20000 in
theorem ggX2_makeTree_X2_cheapestFromPlace0 : GoodIn wsX2_makeTree wsX2_cheapestFromPlace0 := goodIn_r _ [27, 2, 12, 13, 14, 10, 15, 5, 6, 28, 29, 30, 31, 32, 33, 34, 35, 36] (by decide +kernel) (by decide +kernel)
set_option maxRecDepth 20000 in
theorem gX2_makeTree_X2_cheapestFromPlace0 : GoodIn wsX2_makeTree (wsV RX2 63 RX2 yX2_cheapestFromPlace0 wsX2_cheapestFromPlace0) := goodIn_app (goodIn_of _ (by decide +kernel)) ggX2_makeTree_X2_cheapestFromPlace0
set_option maxRecDepth 20000 in
theorem ggX2_makeTree_X2_take : GoodIn wsX2_makeTree wsX2_take := goodIn_r _ [19, 1, 3, 12, 13, 14, 10, 15, 5, 2, 6, 28, 29, 30, 31, 32, 33, 34, 35, 36] (by decide +kernel) (by decide +kernel)
set_option maxRecDepth 20000 in
theorem gX2_makeTree_X2_take : GoodIn wsX2_makeTree (wsV RX2 66 RX2 yX2_take wsX2_take) := goodIn_app (goodIn_of _ (by decide +kernel)) ggX2_makeTree_X2_take
theorem dX2_makeTree_0 : decode cX2_makeTree 0 = .ok (.aload_n 0, 1) := by decide +kernel
theorem dX2_makeTree_1 : decode cX2_makeTree 1 = .ok (.lconst 0, 1) := by decide +kernel
theorem dX2_makeTree_2 : decode cX2_makeTree 2 = .ok (.putfield 31, 3) := by decide +kernel
theorem dX2_makeTree_5 : decode cX2_makeTree 5 = .ok (.iconst 0, 1) := by decide +kernel
theorem dX2_makeTree_6 : decode cX2_makeTree 6 = .ok (.istore_n 1, 1) := by decide +kernel
theorem dX2_makeTree_7 : decode cX2_makeTree 7 = .ok (.iload_n 1, 1) := by decide +kernel
theorem dX2_makeTree_8 : decode cX2_makeTree 8 = .ok (.aload_n 0, 1) := by decide +kernel
theorem dX2_makeTree_9 : decode cX2_makeTree 9 = .ok (.getfield 9, 3) := by decide +kernel
theorem dX2_makeTree_12 : decode cX2_makeTree 12 = .ok (.getfield 15, 3) := by decide +kernel
theorem dX2_makeTree_15 : decode cX2_makeTree 15 = .ok (.if_icmp .ge 43, 3) := by decide +kernel
theorem dX2_makeTree_18 : decode cX2_makeTree 18 = .ok (.aload_n 0, 1) := by decide +kernel
theorem dX2_makeTree_19 : decode cX2_makeTree 19 = .ok (.getfield 25, 3) := by decide +kernel
theorem dX2_makeTree_22 : decode cX2_makeTree 22 = .ok (.iload_n 1, 1) := by decide +kernel
theorem dX2_makeTree_23 : decode cX2_makeTree 23 = .ok (.iconst 0, 1) := by decide +kernel
theorem dX2_makeTree_24 : decode cX2_makeTree 24 = .ok (.iastore, 1) := by decide +kernel
theorem dX2_makeTree_25 : decode cX2_makeTree 25 = .ok (.aload_n 0, 1) := by decide +kernel
theorem dX2_makeTree_26 : decode cX2_makeTree 26 = .ok (.getfield 28, 3) := by decide +kernel
theorem dX2_makeTree_29 : decode cX2_makeTree 29 = .ok (.iload_n 1, 1) := by decide +kernel
theorem dX2_makeTree_30 : decode cX2_makeTree 30 = .ok (.iload_n 1, 1) := by decide +kernel
theorem dX2_makeTree_31 : decode cX2_makeTree 31 = .ok (.iastore, 1) := by decide +kernel
theorem dX2_makeTree_32 : decode cX2_makeTree 32 = .ok (.aload_n 0, 1) := by decide +kernel
theorem dX2_makeTree_33 : decode cX2_makeTree 33 = .ok (.dup, 1) := by decide +kernel
theorem dX2_makeTree_34 : decode cX2_makeTree 34 = .ok (.getfield 31, 3) := by decide +kernel
theorem dX2_makeTree_37 : decode cX2_makeTree 37 = .ok (.ldc2_w 58, 3) := by decide +kernel
theorem dX2_makeTree_40 : decode cX2_makeTree 40 = .ok (.aload_n 0, 1) := by decide +kernel
theorem dX2_makeTree_41 : decode cX2_makeTree 41 = .ok (.getfield 21, 3) := by decide +kernel
theorem dX2_makeTree_44 : decode cX2_makeTree 44 = .ok (.iload_n 1, 1) := by decide +kernel
theorem dX2_makeTree_45 : decode cX2_makeTree 45 = .ok (.iaload, 1) := by decide +kernel
theorem dX2_makeTree_46 : decode cX2_makeTree 46 = .ok (.i2l, 1) := by decide +kernel
theorem dX2_makeTree_47 : decode cX2_makeTree 47 = .ok (.lmul, 1) := by decide +kernel
theorem dX2_makeTree_48 : decode cX2_makeTree 48 = .ok (.lsub, 1) := by decide +kernel
theorem dX2_makeTree_49 : decode cX2_makeTree 49 = .ok (.putfield 31, 3) := by decide +kernel
theorem dX2_makeTree_52 : decode cX2_makeTree 52 = .ok (.iinc 1 1, 3) := by decide +kernel
theorem dX2_makeTree_55 : decode cX2_makeTree 55 = .ok (.goto (-48), 3) := by decide +kernel
theorem dX2_makeTree_58 : decode cX2_makeTree 58 = .ok (.iconst 2, 1) := by decide +kernel
theorem dX2_makeTree_59 : decode cX2_makeTree 59 = .ok (.istore_n 1, 1) := by decide +kernel
theorem dX2_makeTree_60 : decode cX2_makeTree 60 = .ok (.iload_n 1, 1) := by decide +kernel
theorem dX2_makeTree_61 : decode cX2_makeTree 61 = .ok (.aload_n 0, 1) := by decide +kernel
theorem dX2_makeTree_62 : decode cX2_makeTree 62 = .ok (.getfield 9, 3) := by decide +kernel
theorem dX2_makeTree_65 : decode cX2_makeTree 65 = .ok (.getfield 15, 3) := by decide +kernel
theorem dX2_makeTree_68 : decode cX2_makeTree 68 = .ok (.if_icmp .ge 18, 3) := by decide +kernel
theorem dX2_makeTree_71 : decode cX2_makeTree 71 = .ok (.aload_n 0, 1) := by decide +kernel
theorem dX2_makeTree_72 : decode cX2_makeTree 72 = .ok (.invokevirtual 60, 3) := by decide +kernel
theorem dX2_makeTree_75 : decode cX2_makeTree 75 = .ok (.ifCond .ne 5, 3) := by decide +kernel
theorem dX2_makeTree_78 : decode cX2_makeTree 78 = .ok (.iconst 0, 1) := by decide +kernel
theorem dX2_makeTree_79 : decode cX2_makeTree 79 = .ok (.ireturn, 1) := by decide +kernel
theorem dX2_makeTree_80 : decode cX2_makeTree 80 = .ok (.iinc 1 1, 3) := by decide +kernel
theorem dX2_makeTree_83 : decode cX2_makeTree 83 = .ok (.goto (-23), 3) := by decide +kernel
theorem dX2_makeTree_86 : decode cX2_makeTree 86 = .ok (.aload_n 0, 1) := by decide +kernel
theorem dX2_makeTree_87 : decode cX2_makeTree 87 = .ok (.iconst (-1), 1) := by decide +kernel
theorem dX2_makeTree_88 : decode cX2_makeTree 88 = .ok (.invokevirtual 63, 3) := by decide +kernel
theorem dX2_makeTree_91 : decode cX2_makeTree 91 = .ok (.istore_n 1, 1) := by decide +kernel
theorem dX2_makeTree_92 : decode cX2_makeTree 92 = .ok (.aload_n 0, 1) := by decide +kernel
theorem dX2_makeTree_93 : decode cX2_makeTree 93 = .ok (.iload_n 1, 1) := by decide +kernel
theorem dX2_makeTree_94 : decode cX2_makeTree 94 = .ok (.invokevirtual 63, 3) := by decide +kernel
theorem dX2_makeTree_97 : decode cX2_makeTree 97 = .ok (.istore_n 2, 1) := by decide +kernel
theorem dX2_makeTree_98 : decode cX2_makeTree 98 = .ok (.iload_n 1, 1) := by decide +kernel
theorem dX2_makeTree_99 : decode cX2_makeTree 99 = .ok (.iconst (-1), 1) := by decide +kernel
theorem dX2_makeTree_100 : decode cX2_makeTree 100 = .ok (.if_icmp .eq 8, 3) := by decide +kernel
theorem dX2_makeTree_103 : decode cX2_makeTree 103 = .ok (.iload_n 2, 1) := by decide +kernel
theorem dX2_makeTree_104 : decode cX2_makeTree 104 = .ok (.iconst (-1), 1) := by decide +kernel
theorem dX2_makeTree_105 : decode cX2_makeTree 105 = .ok (.if_icmp .ne 5, 3) := by decide +kernel
theorem dX2_makeTree_108 : decode cX2_makeTree 108 = .ok (.iconst 0, 1) := by decide +kernel
theorem dX2_makeTree_109 : decode cX2_makeTree 109 = .ok (.ireturn, 1) := by decide +kernel
theorem dX2_makeTree_110 : decode cX2_makeTree 110 = .ok (.aload_n 0, 1) := by decide +kernel
theorem dX2_makeTree_111 : decode cX2_makeTree 111 = .ok (.iconst 0, 1) := by decide +kernel
theorem dX2_makeTree_112 : decode cX2_makeTree 112 = .ok (.iload_n 1, 1) := by decide +kernel
theorem dX2_makeTree_113 : decode cX2_makeTree 113 = .ok (.invokevirtual 66, 3) := by decide +kernel
theorem dX2_makeTree_116 : decode cX2_makeTree 116 = .ok (.aload_n 0, 1) := by decide +kernel
theorem dX2_makeTree_117 : decode cX2_makeTree 117 = .ok (.iconst 0, 1) := by decide +kernel
theorem dX2_makeTree_118 : decode cX2_makeTree 118 = .ok (.iload_n 2, 1) := by decide +kernel
theorem dX2_makeTree_119 : decode cX2_makeTree 119 = .ok (.invokevirtual 66, 3) := by decide +kernel
theorem dX2_makeTree_122 : decode cX2_makeTree 122 = .ok (.iconst 1, 1) := by decide +kernel
theorem dX2_makeTree_123 : decode cX2_makeTree 123 = .ok (.ireturn, 1) := by decide +kernel
set_option maxRecDepth 20000 in
theorem ggX2_joinTwoPieces_X2_price : GoodIn wsX2_joinTwoPieces wsX2_price := goodIn_r _ [7, 8, 1, 9, 20, 21, 22, 23, 24, 25, 26, 27, 28] (by decide +kernel) (by decide +kernel)
set_option maxRecDepth 20000 in
theorem gX2_joinTwoPieces_X2_price : GoodIn wsX2_joinTwoPieces (wsV RX2 74 RX2 yX2_price wsX2_price) := goodIn_app (goodIn_of _ (by decide +kernel)) ggX2_joinTwoPieces_X2_price
set_option maxRecDepth 20000 in
theorem ggX2_joinTwoPieces_X2_take : GoodIn wsX2_joinTwoPieces wsX2_take := goodIn_r _ [13, 14, 15, 3, 4, 5, 6, 7, 8, 1, 9, 20, 21, 22, 23, 24, 25, 26, 27, 28] (by decide +kernel) (by decide +kernel)
set_option maxRecDepth 20000 in
theorem gX2_joinTwoPieces_X2_take : GoodIn wsX2_joinTwoPieces (wsV RX2 66 RX2 yX2_take wsX2_take) := goodIn_app (goodIn_of _ (by decide +kernel)) ggX2_joinTwoPieces_X2_take
set_option maxRecDepth 20000 in
theorem ggX2_joinTwoPieces_X2_uniteWith : GoodIn wsX2_joinTwoPieces wsX2_uniteWith := goodIn_r _ [19, 1, 2, 20, 21, 22, 23, 24, 25, 26, 27, 28] (by decide +kernel) (by decide +kernel)
set_option maxRecDepth 20000 in
theorem gX2_joinTwoPieces_X2_uniteWith : GoodIn wsX2_joinTwoPieces (wsV RX2 78 RX2 yX2_uniteWith wsX2_uniteWith) := goodIn_app (goodIn_of _ (by decide +kernel)) ggX2_joinTwoPieces_X2_uniteWith
theorem dX2_joinTwoPieces_0 : decode cX2_joinTwoPieces 0 = .ok (.iconst (-1), 1) := by decide +kernel
theorem dX2_joinTwoPieces_1 : decode cX2_joinTwoPieces 1 = .ok (.istore_n 1, 1) := by decide +kernel
theorem dX2_joinTwoPieces_2 : decode cX2_joinTwoPieces 2 = .ok (.iconst (-1), 1) := by decide +kernel
theorem dX2_joinTwoPieces_3 : decode cX2_joinTwoPieces 3 = .ok (.istore_n 2, 1) := by decide +kernel
theorem dX2_joinTwoPieces_4 : decode cX2_joinTwoPieces 4 = .ok (.iconst 1, 1) := by decide +kernel
theorem dX2_joinTwoPieces_5 : decode cX2_joinTwoPieces 5 = .ok (.istore_n 3, 1) := by decide +kernel
theorem dX2_joinTwoPieces_6 : decode cX2_joinTwoPieces 6 = .ok (.iload_n 3, 1) := by decide +kernel
theorem dX2_joinTwoPieces_7 : decode cX2_joinTwoPieces 7 = .ok (.aload_n 0, 1) := by decide +kernel
theorem dX2_joinTwoPieces_8 : decode cX2_joinTwoPieces 8 = .ok (.getfield 9, 3) := by decide +kernel
theorem dX2_joinTwoPieces_11 : decode cX2_joinTwoPieces 11 = .ok (.getfield 15, 3) := by decide +kernel
theorem dX2_joinTwoPieces_14 : decode cX2_joinTwoPieces 14 = .ok (.if_icmp .ge 91, 3) := by decide +kernel
theorem dX2_joinTwoPieces_17 : decode cX2_joinTwoPieces 17 = .ok (.iload_n 3, 1) := by decide +kernel
theorem dX2_joinTwoPieces_18 : decode cX2_joinTwoPieces 18 = .ok (.iconst 1, 1) := by decide +kernel
theorem dX2_joinTwoPieces_19 : decode cX2_joinTwoPieces 19 = .ok (.iadd, 1) := by decide +kernel
theorem dX2_joinTwoPieces_20 : decode cX2_joinTwoPieces 20 = .ok (.istore 4, 2) := by decide +kernel
theorem dX2_joinTwoPieces_22 : decode cX2_joinTwoPieces 22 = .ok (.iload 4, 2) := by decide +kernel
theorem dX2_joinTwoPieces_24 : decode cX2_joinTwoPieces 24 = .ok (.aload_n 0, 1) := by decide +kernel
theorem dX2_joinTwoPieces_25 : decode cX2_joinTwoPieces 25 = .ok (.getfield 9, 3) := by decide +kernel
theorem dX2_joinTwoPieces_28 : decode cX2_joinTwoPieces 28 = .ok (.getfield 15, 3) := by decide +kernel
theorem dX2_joinTwoPieces_31 : decode cX2_joinTwoPieces 31 = .ok (.if_icmp .ge 68, 3) := by decide +kernel
theorem dX2_joinTwoPieces_34 : decode cX2_joinTwoPieces 34 = .ok (.aload_n 0, 1) := by decide +kernel
theorem dX2_joinTwoPieces_35 : decode cX2_joinTwoPieces 35 = .ok (.getfield 28, 3) := by decide +kernel
theorem dX2_joinTwoPieces_38 : decode cX2_joinTwoPieces 38 = .ok (.iload_n 3, 1) := by decide +kernel
theorem dX2_joinTwoPieces_39 : decode cX2_joinTwoPieces 39 = .ok (.iaload, 1) := by decide +kernel
theorem dX2_joinTwoPieces_40 : decode cX2_joinTwoPieces 40 = .ok (.aload_n 0, 1) := by decide +kernel
theorem dX2_joinTwoPieces_41 : decode cX2_joinTwoPieces 41 = .ok (.getfield 28, 3) := by decide +kernel
theorem dX2_joinTwoPieces_44 : decode cX2_joinTwoPieces 44 = .ok (.iload 4, 2) := by decide +kernel
theorem dX2_joinTwoPieces_46 : decode cX2_joinTwoPieces 46 = .ok (.iaload, 1) := by decide +kernel
theorem dX2_joinTwoPieces_47 : decode cX2_joinTwoPieces 47 = .ok (.if_icmp .eq 46, 3) := by decide +kernel
theorem dX2_joinTwoPieces_50 : decode cX2_joinTwoPieces 50 = .ok (.aload_n 0, 1) := by decide +kernel
theorem dX2_joinTwoPieces_51 : decode cX2_joinTwoPieces 51 = .ok (.getfield 9, 3) := by decide +kernel
theorem dX2_joinTwoPieces_54 : decode cX2_joinTwoPieces 54 = .ok (.getfield 70, 3) := by decide +kernel
theorem dX2_joinTwoPieces_57 : decode cX2_joinTwoPieces 57 = .ok (.iload_n 3, 1) := by decide +kernel
theorem dX2_joinTwoPieces_58 : decode cX2_joinTwoPieces 58 = .ok (.aaload, 1) := by decide +kernel
theorem dX2_joinTwoPieces_59 : decode cX2_joinTwoPieces 59 = .ok (.iload 4, 2) := by decide +kernel
theorem dX2_joinTwoPieces_61 : decode cX2_joinTwoPieces 61 = .ok (.iaload, 1) := by decide +kernel
theorem dX2_joinTwoPieces_62 : decode cX2_joinTwoPieces 62 = .ok (.iconst (-1), 1) := by decide +kernel
theorem dX2_joinTwoPieces_63 : decode cX2_joinTwoPieces 63 = .ok (.if_icmp .eq 30, 3) := by decide +kernel
theorem dX2_joinTwoPieces_66 : decode cX2_joinTwoPieces 66 = .ok (.iload_n 1, 1) := by decide +kernel
theorem dX2_joinTwoPieces_67 : decode cX2_joinTwoPieces 67 = .ok (.iconst (-1), 1) := by decide +kernel
theorem dX2_joinTwoPieces_68 : decode cX2_joinTwoPieces 68 = .ok (.if_icmp .eq 20, 3) := by decide +kernel
theorem dX2_joinTwoPieces_71 : decode cX2_joinTwoPieces 71 = .ok (.aload_n 0, 1) := by decide +kernel
theorem dX2_joinTwoPieces_72 : decode cX2_joinTwoPieces 72 = .ok (.iload_n 3, 1) := by decide +kernel
theorem dX2_joinTwoPieces_73 : decode cX2_joinTwoPieces 73 = .ok (.iload 4, 2) := by decide +kernel
theorem dX2_joinTwoPieces_75 : decode cX2_joinTwoPieces 75 = .ok (.invokevirtual 74, 3) := by decide +kernel
theorem dX2_joinTwoPieces_78 : decode cX2_joinTwoPieces 78 = .ok (.aload_n 0, 1) := by decide +kernel
theorem dX2_joinTwoPieces_79 : decode cX2_joinTwoPieces 79 = .ok (.iload_n 1, 1) := by decide +kernel
theorem dX2_joinTwoPieces_80 : decode cX2_joinTwoPieces 80 = .ok (.iload_n 2, 1) := by decide +kernel
theorem dX2_joinTwoPieces_81 : decode cX2_joinTwoPieces 81 = .ok (.invokevirtual 74, 3) := by decide +kernel
theorem dX2_joinTwoPieces_84 : decode cX2_joinTwoPieces 84 = .ok (.lcmp, 1) := by decide +kernel
theorem dX2_joinTwoPieces_85 : decode cX2_joinTwoPieces 85 = .ok (.ifCond .ge 8, 3) := by decide +kernel
theorem dX2_joinTwoPieces_88 : decode cX2_joinTwoPieces 88 = .ok (.iload_n 3, 1) := by decide +kernel
theorem dX2_joinTwoPieces_89 : decode cX2_joinTwoPieces 89 = .ok (.istore_n 1, 1) := by decide +kernel
theorem dX2_joinTwoPieces_90 : decode cX2_joinTwoPieces 90 = .ok (.iload 4, 2) := by decide +kernel
theorem dX2_joinTwoPieces_92 : decode cX2_joinTwoPieces 92 = .ok (.istore_n 2, 1) := by decide +kernel
theorem dX2_joinTwoPieces_93 : decode cX2_joinTwoPieces 93 = .ok (.iinc 4 1, 3) := by decide +kernel
theorem dX2_joinTwoPieces_96 : decode cX2_joinTwoPieces 96 = .ok (.goto (-74), 3) := by decide +kernel
theorem dX2_joinTwoPieces_99 : decode cX2_joinTwoPieces 99 = .ok (.iinc 3 1, 3) := by decide +kernel
theorem dX2_joinTwoPieces_102 : decode cX2_joinTwoPieces 102 = .ok (.goto (-96), 3) := by decide +kernel
theorem dX2_joinTwoPieces_105 : decode cX2_joinTwoPieces 105 = .ok (.iload_n 1, 1) := by decide +kernel
theorem dX2_joinTwoPieces_106 : decode cX2_joinTwoPieces 106 = .ok (.iconst (-1), 1) := by decide +kernel
theorem dX2_joinTwoPieces_107 : decode cX2_joinTwoPieces 107 = .ok (.if_icmp .ne 5, 3) := by decide +kernel
theorem dX2_joinTwoPieces_110 : decode cX2_joinTwoPieces 110 = .ok (.iconst 0, 1) := by decide +kernel
theorem dX2_joinTwoPieces_111 : decode cX2_joinTwoPieces 111 = .ok (.ireturn, 1) := by decide +kernel
theorem dX2_joinTwoPieces_112 : decode cX2_joinTwoPieces 112 = .ok (.aload_n 0, 1) := by decide +kernel
theorem dX2_joinTwoPieces_113 : decode cX2_joinTwoPieces 113 = .ok (.iload_n 1, 1) := by decide +kernel
theorem dX2_joinTwoPieces_114 : decode cX2_joinTwoPieces 114 = .ok (.iload_n 2, 1) := by decide +kernel
theorem dX2_joinTwoPieces_115 : decode cX2_joinTwoPieces 115 = .ok (.invokevirtual 66, 3) := by decide +kernel
theorem dX2_joinTwoPieces_118 : decode cX2_joinTwoPieces 118 = .ok (.aload_n 0, 1) := by decide +kernel
theorem dX2_joinTwoPieces_119 : decode cX2_joinTwoPieces 119 = .ok (.aload_n 0, 1) := by decide +kernel
theorem dX2_joinTwoPieces_120 : decode cX2_joinTwoPieces 120 = .ok (.getfield 28, 3) := by decide +kernel
theorem dX2_joinTwoPieces_123 : decode cX2_joinTwoPieces 123 = .ok (.iload_n 1, 1) := by decide +kernel
theorem dX2_joinTwoPieces_124 : decode cX2_joinTwoPieces 124 = .ok (.iaload, 1) := by decide +kernel
theorem dX2_joinTwoPieces_125 : decode cX2_joinTwoPieces 125 = .ok (.aload_n 0, 1) := by decide +kernel
theorem dX2_joinTwoPieces_126 : decode cX2_joinTwoPieces 126 = .ok (.getfield 28, 3) := by decide +kernel
theorem dX2_joinTwoPieces_129 : decode cX2_joinTwoPieces 129 = .ok (.iload_n 2, 1) := by decide +kernel
theorem dX2_joinTwoPieces_130 : decode cX2_joinTwoPieces 130 = .ok (.iaload, 1) := by decide +kernel
theorem dX2_joinTwoPieces_131 : decode cX2_joinTwoPieces 131 = .ok (.invokevirtual 78, 3) := by decide +kernel
theorem dX2_joinTwoPieces_134 : decode cX2_joinTwoPieces 134 = .ok (.iconst 1, 1) := by decide +kernel
theorem dX2_joinTwoPieces_135 : decode cX2_joinTwoPieces 135 = .ok (.ireturn, 1) := by decide +kernel
theorem dX2_uniteWith_0 : decode cX2_uniteWith 0 = .ok (.iconst 0, 1) := by decide +kernel
theorem dX2_uniteWith_1 : decode cX2_uniteWith 1 = .ok (.istore_n 3, 1) := by decide +kernel
theorem dX2_uniteWith_2 : decode cX2_uniteWith 2 = .ok (.iload_n 3, 1) := by decide +kernel
theorem dX2_uniteWith_3 : decode cX2_uniteWith 3 = .ok (.aload_n 0, 1) := by decide +kernel
theorem dX2_uniteWith_4 : decode cX2_uniteWith 4 = .ok (.getfield 9, 3) := by decide +kernel
theorem dX2_uniteWith_7 : decode cX2_uniteWith 7 = .ok (.getfield 15, 3) := by decide +kernel
theorem dX2_uniteWith_10 : decode cX2_uniteWith 10 = .ok (.if_icmp .ge 26, 3) := by decide +kernel
theorem dX2_uniteWith_13 : decode cX2_uniteWith 13 = .ok (.aload_n 0, 1) := by decide +kernel
theorem dX2_uniteWith_14 : decode cX2_uniteWith 14 = .ok (.getfield 28, 3) := by decide +kernel
theorem dX2_uniteWith_17 : decode cX2_uniteWith 17 = .ok (.iload_n 3, 1) := by decide +kernel
theorem dX2_uniteWith_18 : decode cX2_uniteWith 18 = .ok (.iaload, 1) := by decide +kernel
theorem dX2_uniteWith_19 : decode cX2_uniteWith 19 = .ok (.iload_n 2, 1) := by decide +kernel
theorem dX2_uniteWith_20 : decode cX2_uniteWith 20 = .ok (.if_icmp .ne 10, 3) := by decide +kernel
theorem dX2_uniteWith_23 : decode cX2_uniteWith 23 = .ok (.aload_n 0, 1) := by decide +kernel
theorem dX2_uniteWith_24 : decode cX2_uniteWith 24 = .ok (.getfield 28, 3) := by decide +kernel
theorem dX2_uniteWith_27 : decode cX2_uniteWith 27 = .ok (.iload_n 3, 1) := by decide +kernel
theorem dX2_uniteWith_28 : decode cX2_uniteWith 28 = .ok (.iload_n 1, 1) := by decide +kernel
theorem dX2_uniteWith_29 : decode cX2_uniteWith 29 = .ok (.iastore, 1) := by decide +kernel
theorem dX2_uniteWith_30 : decode cX2_uniteWith 30 = .ok (.iinc 3 1, 3) := by decide +kernel
theorem dX2_uniteWith_33 : decode cX2_uniteWith 33 = .ok (.goto (-31), 3) := by decide +kernel
theorem dX2_uniteWith_36 : decode cX2_uniteWith 36 = .ok (.return_, 1) := by decide +kernel
set_option maxRecDepth 20000 in
theorem ggX2_cheapestFromPlace0_X2_price : GoodIn wsX2_cheapestFromPlace0 wsX2_price := goodIn_r _ [6, 7, 1, 8, 9, 10, 11, 12, 13, 14, 15, 16, 17] (by decide +kernel) (by decide +kernel)
set_option maxRecDepth 20000 in
theorem gX2_cheapestFromPlace0_X2_price : GoodIn wsX2_cheapestFromPlace0 (wsV RX2 74 RX2 yX2_price wsX2_price) := goodIn_app (goodIn_of _ (by decide +kernel)) ggX2_cheapestFromPlace0_X2_price
theorem dX2_cheapestFromPlace0_0 : decode cX2_cheapestFromPlace0 0 = .ok (.iconst (-1), 1) := by decide +kernel
theorem dX2_cheapestFromPlace0_1 : decode cX2_cheapestFromPlace0 1 = .ok (.istore_n 2, 1) := by decide +kernel
theorem dX2_cheapestFromPlace0_2 : decode cX2_cheapestFromPlace0 2 = .ok (.iconst 1, 1) := by decide +kernel
theorem dX2_cheapestFromPlace0_3 : decode cX2_cheapestFromPlace0 3 = .ok (.istore_n 3, 1) := by decide +kernel
theorem dX2_cheapestFromPlace0_4 : decode cX2_cheapestFromPlace0 4 = .ok (.iload_n 3, 1) := by decide +kernel
theorem dX2_cheapestFromPlace0_5 : decode cX2_cheapestFromPlace0 5 = .ok (.aload_n 0, 1) := by decide +kernel
theorem dX2_cheapestFromPlace0_6 : decode cX2_cheapestFromPlace0 6 = .ok (.getfield 9, 3) := by decide +kernel
theorem dX2_cheapestFromPlace0_9 : decode cX2_cheapestFromPlace0 9 = .ok (.getfield 15, 3) := by decide +kernel
theorem dX2_cheapestFromPlace0_12 : decode cX2_cheapestFromPlace0 12 = .ok (.if_icmp .ge 52, 3) := by decide +kernel
theorem dX2_cheapestFromPlace0_15 : decode cX2_cheapestFromPlace0 15 = .ok (.iload_n 3, 1) := by decide +kernel
theorem dX2_cheapestFromPlace0_16 : decode cX2_cheapestFromPlace0 16 = .ok (.iload_n 1, 1) := by decide +kernel
theorem dX2_cheapestFromPlace0_17 : decode cX2_cheapestFromPlace0 17 = .ok (.if_icmp .eq 41, 3) := by decide +kernel
theorem dX2_cheapestFromPlace0_20 : decode cX2_cheapestFromPlace0 20 = .ok (.aload_n 0, 1) := by decide +kernel
theorem dX2_cheapestFromPlace0_21 : decode cX2_cheapestFromPlace0 21 = .ok (.getfield 9, 3) := by decide +kernel
theorem dX2_cheapestFromPlace0_24 : decode cX2_cheapestFromPlace0 24 = .ok (.getfield 70, 3) := by decide +kernel
theorem dX2_cheapestFromPlace0_27 : decode cX2_cheapestFromPlace0 27 = .ok (.iconst 0, 1) := by decide +kernel
theorem dX2_cheapestFromPlace0_28 : decode cX2_cheapestFromPlace0 28 = .ok (.aaload, 1) := by decide +kernel
theorem dX2_cheapestFromPlace0_29 : decode cX2_cheapestFromPlace0 29 = .ok (.iload_n 3, 1) := by decide +kernel
theorem dX2_cheapestFromPlace0_30 : decode cX2_cheapestFromPlace0 30 = .ok (.iaload, 1) := by decide +kernel
theorem dX2_cheapestFromPlace0_31 : decode cX2_cheapestFromPlace0 31 = .ok (.iconst (-1), 1) := by decide +kernel
theorem dX2_cheapestFromPlace0_32 : decode cX2_cheapestFromPlace0 32 = .ok (.if_icmp .eq 26, 3) := by decide +kernel
theorem dX2_cheapestFromPlace0_35 : decode cX2_cheapestFromPlace0 35 = .ok (.iload_n 2, 1) := by decide +kernel
theorem dX2_cheapestFromPlace0_36 : decode cX2_cheapestFromPlace0 36 = .ok (.iconst (-1), 1) := by decide +kernel
theorem dX2_cheapestFromPlace0_37 : decode cX2_cheapestFromPlace0 37 = .ok (.if_icmp .eq 19, 3) := by decide +kernel
theorem dX2_cheapestFromPlace0_40 : decode cX2_cheapestFromPlace0 40 = .ok (.aload_n 0, 1) := by decide +kernel
theorem dX2_cheapestFromPlace0_41 : decode cX2_cheapestFromPlace0 41 = .ok (.iconst 0, 1) := by decide +kernel
theorem dX2_cheapestFromPlace0_42 : decode cX2_cheapestFromPlace0 42 = .ok (.iload_n 3, 1) := by decide +kernel
theorem dX2_cheapestFromPlace0_43 : decode cX2_cheapestFromPlace0 43 = .ok (.invokevirtual 74, 3) := by decide +kernel
theorem dX2_cheapestFromPlace0_46 : decode cX2_cheapestFromPlace0 46 = .ok (.aload_n 0, 1) := by decide +kernel
theorem dX2_cheapestFromPlace0_47 : decode cX2_cheapestFromPlace0 47 = .ok (.iconst 0, 1) := by decide +kernel
theorem dX2_cheapestFromPlace0_48 : decode cX2_cheapestFromPlace0 48 = .ok (.iload_n 2, 1) := by decide +kernel
theorem dX2_cheapestFromPlace0_49 : decode cX2_cheapestFromPlace0 49 = .ok (.invokevirtual 74, 3) := by decide +kernel
theorem dX2_cheapestFromPlace0_52 : decode cX2_cheapestFromPlace0 52 = .ok (.lcmp, 1) := by decide +kernel
theorem dX2_cheapestFromPlace0_53 : decode cX2_cheapestFromPlace0 53 = .ok (.ifCond .ge 5, 3) := by decide +kernel
theorem dX2_cheapestFromPlace0_56 : decode cX2_cheapestFromPlace0 56 = .ok (.iload_n 3, 1) := by decide +kernel
theorem dX2_cheapestFromPlace0_57 : decode cX2_cheapestFromPlace0 57 = .ok (.istore_n 2, 1) := by decide +kernel
theorem dX2_cheapestFromPlace0_58 : decode cX2_cheapestFromPlace0 58 = .ok (.iinc 3 1, 3) := by decide +kernel
theorem dX2_cheapestFromPlace0_61 : decode cX2_cheapestFromPlace0 61 = .ok (.goto (-57), 3) := by decide +kernel
theorem dX2_cheapestFromPlace0_64 : decode cX2_cheapestFromPlace0 64 = .ok (.iload_n 2, 1) := by decide +kernel
theorem dX2_cheapestFromPlace0_65 : decode cX2_cheapestFromPlace0 65 = .ok (.ireturn, 1) := by decide +kernel
set_option maxRecDepth 20000 in
theorem ggX2_take_X2_price : GoodIn wsX2_take wsX2_price := goodIn_r _ [7, 8, 9, 10, 11, 12, 13, 14, 15, 16, 17, 18, 19] (by decide +kernel) (by decide +kernel)
set_option maxRecDepth 20000 in
theorem gX2_take_X2_price : GoodIn wsX2_take (wsV RX2 74 RX2 yX2_price wsX2_price) := goodIn_app (goodIn_of _ (by decide +kernel)) ggX2_take_X2_price
theorem dX2_take_0 : decode cX2_take 0 = .ok (.aload_n 0, 1) := by decide +kernel
theorem dX2_take_1 : decode cX2_take 1 = .ok (.dup, 1) := by decide +kernel
theorem dX2_take_2 : decode cX2_take 2 = .ok (.getfield 31, 3) := by decide +kernel
theorem dX2_take_5 : decode cX2_take 5 = .ok (.aload_n 0, 1) := by decide +kernel
theorem dX2_take_6 : decode cX2_take 6 = .ok (.iload_n 1, 1) := by decide +kernel
theorem dX2_take_7 : decode cX2_take 7 = .ok (.iload_n 2, 1) := by decide +kernel
theorem dX2_take_8 : decode cX2_take 8 = .ok (.invokevirtual 74, 3) := by decide +kernel
theorem dX2_take_11 : decode cX2_take 11 = .ok (.ladd, 1) := by decide +kernel
theorem dX2_take_12 : decode cX2_take 12 = .ok (.putfield 31, 3) := by decide +kernel
theorem dX2_take_15 : decode cX2_take 15 = .ok (.aload_n 0, 1) := by decide +kernel
theorem dX2_take_16 : decode cX2_take 16 = .ok (.getfield 25, 3) := by decide +kernel
theorem dX2_take_19 : decode cX2_take 19 = .ok (.iload_n 1, 1) := by decide +kernel
theorem dX2_take_20 : decode cX2_take 20 = .ok (.dup2, 1) := by decide +kernel
theorem dX2_take_21 : decode cX2_take 21 = .ok (.iaload, 1) := by decide +kernel
theorem dX2_take_22 : decode cX2_take 22 = .ok (.iconst 1, 1) := by decide +kernel
theorem dX2_take_23 : decode cX2_take 23 = .ok (.iadd, 1) := by decide +kernel
theorem dX2_take_24 : decode cX2_take 24 = .ok (.iastore, 1) := by decide +kernel
theorem dX2_take_25 : decode cX2_take 25 = .ok (.aload_n 0, 1) := by decide +kernel
theorem dX2_take_26 : decode cX2_take 26 = .ok (.getfield 25, 3) := by decide +kernel
theorem dX2_take_29 : decode cX2_take 29 = .ok (.iload_n 2, 1) := by decide +kernel
theorem dX2_take_30 : decode cX2_take 30 = .ok (.dup2, 1) := by decide +kernel
theorem dX2_take_31 : decode cX2_take 31 = .ok (.iaload, 1) := by decide +kernel
theorem dX2_take_32 : decode cX2_take 32 = .ok (.iconst 1, 1) := by decide +kernel
theorem dX2_take_33 : decode cX2_take 33 = .ok (.iadd, 1) := by decide +kernel
theorem dX2_take_34 : decode cX2_take 34 = .ok (.iastore, 1) := by decide +kernel
theorem dX2_take_35 : decode cX2_take 35 = .ok (.return_, 1) := by decide +kernel
theorem dX2_price_0 : decode cX2_price 0 = .ok (.ldc2_w 58, 3) := by decide +kernel
theorem dX2_price_3 : decode cX2_price 3 = .ok (.aload_n 0, 1) := by decide +kernel
theorem dX2_price_4 : decode cX2_price 4 = .ok (.getfield 9, 3) := by decide +kernel
theorem dX2_price_7 : decode cX2_price 7 = .ok (.getfield 70, 3) := by decide +kernel
theorem dX2_price_10 : decode cX2_price 10 = .ok (.iload_n 1, 1) := by decide +kernel
theorem dX2_price_11 : decode cX2_price 11 = .ok (.aaload, 1) := by decide +kernel
theorem dX2_price_12 : decode cX2_price 12 = .ok (.iload_n 2, 1) := by decide +kernel
theorem dX2_price_13 : decode cX2_price 13 = .ok (.iaload, 1) := by decide +kernel
theorem dX2_price_14 : decode cX2_price 14 = .ok (.i2l, 1) := by decide +kernel
theorem dX2_price_15 : decode cX2_price 15 = .ok (.lmul, 1) := by decide +kernel
theorem dX2_price_16 : decode cX2_price 16 = .ok (.aload_n 0, 1) := by decide +kernel
theorem dX2_price_17 : decode cX2_price 17 = .ok (.getfield 21, 3) := by decide +kernel
theorem dX2_price_20 : decode cX2_price 20 = .ok (.iload_n 1, 1) := by decide +kernel
theorem dX2_price_21 : decode cX2_price 21 = .ok (.iaload, 1) := by decide +kernel
theorem dX2_price_22 : decode cX2_price 22 = .ok (.i2l, 1) := by decide +kernel
theorem dX2_price_23 : decode cX2_price 23 = .ok (.ladd, 1) := by decide +kernel
theorem dX2_price_24 : decode cX2_price 24 = .ok (.aload_n 0, 1) := by decide +kernel
theorem dX2_price_25 : decode cX2_price 25 = .ok (.getfield 21, 3) := by decide +kernel
theorem dX2_price_28 : decode cX2_price 28 = .ok (.iload_n 2, 1) := by decide +kernel
theorem dX2_price_29 : decode cX2_price 29 = .ok (.iaload, 1) := by decide +kernel
theorem dX2_price_30 : decode cX2_price 30 = .ok (.i2l, 1) := by decide +kernel
theorem dX2_price_31 : decode cX2_price 31 = .ok (.ladd, 1) := by decide +kernel
theorem dX2_price_32 : decode cX2_price 32 = .ok (.lreturn, 1) := by decide +kernel
set_option maxRecDepth 20000 in
theorem ggX3_init_J7_fill_53178 : GoodIn wsX3_init wsJ7_fill_53178 := goodIn_r _ [12] (by decide +kernel) (by decide +kernel)
set_option maxRecDepth 20000 in
theorem gX3_init_J7_fill_53178 : GoodIn wsX3_init (va_wsS RX3 23 yJ7_fill_53178 wsJ7_fill_53178) := goodIn_app (goodIn_of _ (by decide +kernel)) ggX3_init_J7_fill_53178
theorem dX3_init_0 : decode cX3_init 0 = .ok (.aload_n 0, 1) := by decide +kernel
theorem dX3_init_1 : decode cX3_init 1 = .ok (.invokespecial 3, 3) := by decide +kernel
theorem dX3_init_4 : decode cX3_init 4 = .ok (.aload_n 0, 1) := by decide +kernel
theorem dX3_init_5 : decode cX3_init 5 = .ok (.iload_n 1, 1) := by decide +kernel
theorem dX3_init_6 : decode cX3_init 6 = .ok (.putfield 9, 3) := by decide +kernel
theorem dX3_init_9 : decode cX3_init 9 = .ok (.aload_n 0, 1) := by decide +kernel
theorem dX3_init_10 : decode cX3_init 10 = .ok (.iload_n 1, 1) := by decide +kernel
theorem dX3_init_11 : decode cX3_init 11 = .ok (.iload_n 1, 1) := by decide +kernel
theorem dX3_init_12 : decode cX3_init 12 = .ok (.multianewarray 15 2, 4) := by decide +kernel
theorem dX3_init_16 : decode cX3_init 16 = .ok (.putfield 17, 3) := by decide +kernel
theorem dX3_init_19 : decode cX3_init 19 = .ok (.aload_n 0, 1) := by decide +kernel
theorem dX3_init_20 : decode cX3_init 20 = .ok (.iload_n 1, 1) := by decide +kernel
theorem dX3_init_21 : decode cX3_init 21 = .ok (.iload_n 1, 1) := by decide +kernel
theorem dX3_init_22 : decode cX3_init 22 = .ok (.multianewarray 15 2, 4) := by decide +kernel
theorem dX3_init_26 : decode cX3_init 26 = .ok (.putfield 20, 3) := by decide +kernel
theorem dX3_init_29 : decode cX3_init 29 = .ok (.iconst 0, 1) := by decide +kernel
theorem dX3_init_30 : decode cX3_init 30 = .ok (.istore_n 2, 1) := by decide +kernel
theorem dX3_init_31 : decode cX3_init 31 = .ok (.iload_n 2, 1) := by decide +kernel
theorem dX3_init_32 : decode cX3_init 32 = .ok (.iload_n 1, 1) := by decide +kernel
theorem dX3_init_33 : decode cX3_init 33 = .ok (.if_icmp .ge 29, 3) := by decide +kernel
theorem dX3_init_36 : decode cX3_init 36 = .ok (.aload_n 0, 1) := by decide +kernel
theorem dX3_init_37 : decode cX3_init 37 = .ok (.getfield 17, 3) := by decide +kernel
theorem dX3_init_40 : decode cX3_init 40 = .ok (.iload_n 2, 1) := by decide +kernel
theorem dX3_init_41 : decode cX3_init 41 = .ok (.aaload, 1) := by decide +kernel
theorem dX3_init_42 : decode cX3_init 42 = .ok (.iconst (-1), 1) := by decide +kernel
theorem dX3_init_43 : decode cX3_init 43 = .ok (.invokestatic 23, 3) := by decide +kernel
theorem dX3_init_46 : decode cX3_init 46 = .ok (.aload_n 0, 1) := by decide +kernel
theorem dX3_init_47 : decode cX3_init 47 = .ok (.getfield 20, 3) := by decide +kernel
theorem dX3_init_50 : decode cX3_init 50 = .ok (.iload_n 2, 1) := by decide +kernel
theorem dX3_init_51 : decode cX3_init 51 = .ok (.aaload, 1) := by decide +kernel
theorem dX3_init_52 : decode cX3_init 52 = .ok (.iconst (-1), 1) := by decide +kernel
theorem dX3_init_53 : decode cX3_init 53 = .ok (.invokestatic 23, 3) := by decide +kernel
theorem dX3_init_56 : decode cX3_init 56 = .ok (.iinc 2 1, 3) := by decide +kernel
theorem dX3_init_59 : decode cX3_init 59 = .ok (.goto (-28), 3) := by decide +kernel
theorem dX3_init_62 : decode cX3_init 62 = .ok (.return_, 1) := by decide +kernel
theorem dX3_has_0 : decode cX3_has 0 = .ok (.iload_n 1, 1) := by decide +kernel
theorem dX3_has_1 : decode cX3_has 1 = .ok (.ifCond .lt 15, 3) := by decide +kernel
theorem dX3_has_4 : decode cX3_has 4 = .ok (.iload_n 1, 1) := by decide +kernel
theorem dX3_has_5 : decode cX3_has 5 = .ok (.aload_n 0, 1) := by decide +kernel
theorem dX3_has_6 : decode cX3_has 6 = .ok (.getfield 9, 3) := by decide +kernel
theorem dX3_has_9 : decode cX3_has 9 = .ok (.if_icmp .ge 7, 3) := by decide +kernel
theorem dX3_has_12 : decode cX3_has 12 = .ok (.iconst 1, 1) := by decide +kernel
theorem dX3_has_13 : decode cX3_has 13 = .ok (.goto 4, 3) := by decide +kernel
theorem dX3_has_16 : decode cX3_has 16 = .ok (.iconst 0, 1) := by decide +kernel
theorem dX3_has_17 : decode cX3_has 17 = .ok (.ireturn, 1) := by decide +kernel
set_option maxRecDepth 20000 in
theorem ggX3_tell_X3_shorter : GoodIn wsX3_tell wsX3_shorter := goodIn_r _ [6, 7, 8, 9, 10, 11, 12, 13] (by decide +kernel) (by decide +kernel)
set_option maxRecDepth 20000 in
theorem gX3_tell_X3_shorter : GoodIn wsX3_tell (va_wsS RX3 29 yX3_shorter wsX3_shorter) := goodIn_app (goodIn_of _ (by decide +kernel)) ggX3_tell_X3_shorter
theorem dX3_tell_0 : decode cX3_tell 0 = .ok (.aload_n 0, 1) := by decide +kernel
theorem dX3_tell_1 : decode cX3_tell 1 = .ok (.getfield 17, 3) := by decide +kernel
theorem dX3_tell_4 : decode cX3_tell 4 = .ok (.iload_n 1, 1) := by decide +kernel
theorem dX3_tell_5 : decode cX3_tell 5 = .ok (.aaload, 1) := by decide +kernel
theorem dX3_tell_6 : decode cX3_tell 6 = .ok (.iload_n 2, 1) := by decide +kernel
theorem dX3_tell_7 : decode cX3_tell 7 = .ok (.iload_n 3, 1) := by decide +kernel
theorem dX3_tell_8 : decode cX3_tell 8 = .ok (.iastore, 1) := by decide +kernel
theorem dX3_tell_9 : decode cX3_tell 9 = .ok (.iload_n 3, 1) := by decide +kernel
theorem dX3_tell_10 : decode cX3_tell 10 = .ok (.aload_n 0, 1) := by decide +kernel
theorem dX3_tell_11 : decode cX3_tell 11 = .ok (.getfield 17, 3) := by decide +kernel
theorem dX3_tell_14 : decode cX3_tell 14 = .ok (.iload_n 2, 1) := by decide +kernel
theorem dX3_tell_15 : decode cX3_tell 15 = .ok (.aaload, 1) := by decide +kernel
theorem dX3_tell_16 : decode cX3_tell 16 = .ok (.iload_n 1, 1) := by decide +kernel
theorem dX3_tell_17 : decode cX3_tell 17 = .ok (.iaload, 1) := by decide +kernel
theorem dX3_tell_18 : decode cX3_tell 18 = .ok (.invokestatic 29, 3) := by decide +kernel
theorem dX3_tell_21 : decode cX3_tell 21 = .ok (.istore 4, 2) := by decide +kernel
theorem dX3_tell_23 : decode cX3_tell 23 = .ok (.aload_n 0, 1) := by decide +kernel
theorem dX3_tell_24 : decode cX3_tell 24 = .ok (.getfield 20, 3) := by decide +kernel
theorem dX3_tell_27 : decode cX3_tell 27 = .ok (.iload_n 1, 1) := by decide +kernel
theorem dX3_tell_28 : decode cX3_tell 28 = .ok (.aaload, 1) := by decide +kernel
theorem dX3_tell_29 : decode cX3_tell 29 = .ok (.iload_n 2, 1) := by decide +kernel
theorem dX3_tell_30 : decode cX3_tell 30 = .ok (.iload 4, 2) := by decide +kernel
theorem dX3_tell_32 : decode cX3_tell 32 = .ok (.iastore, 1) := by decide +kernel
theorem dX3_tell_33 : decode cX3_tell 33 = .ok (.aload_n 0, 1) := by decide +kernel
theorem dX3_tell_34 : decode cX3_tell 34 = .ok (.getfield 20, 3) := by decide +kernel
theorem dX3_tell_37 : decode cX3_tell 37 = .ok (.iload_n 2, 1) := by decide +kernel
theorem dX3_tell_38 : decode cX3_tell 38 = .ok (.aaload, 1) := by decide +kernel
theorem dX3_tell_39 : decode cX3_tell 39 = .ok (.iload_n 1, 1) := by decide +kernel
theorem dX3_tell_40 : decode cX3_tell 40 = .ok (.iload 4, 2) := by decide +kernel
theorem dX3_tell_42 : decode cX3_tell 42 = .ok (.iastore, 1) := by decide +kernel
theorem dX3_tell_43 : decode cX3_tell 43 = .ok (.return_, 1) := by decide +kernel
theorem dX3_shorter_0 : decode cX3_shorter 0 = .ok (.iload_n 0, 1) := by decide +kernel
theorem dX3_shorter_1 : decode cX3_shorter 1 = .ok (.iconst (-1), 1) := by decide +kernel
theorem dX3_shorter_2 : decode cX3_shorter 2 = .ok (.if_icmp .eq 8, 3) := by decide +kernel
theorem dX3_shorter_5 : decode cX3_shorter 5 = .ok (.iload_n 1, 1) := by decide +kernel
theorem dX3_shorter_6 : decode cX3_shorter 6 = .ok (.iconst (-1), 1) := by decide +kernel
theorem dX3_shorter_7 : decode cX3_shorter 7 = .ok (.if_icmp .ne 9, 3) := by decide +kernel
theorem dX3_shorter_10 : decode cX3_shorter 10 = .ok (.iload_n 0, 1) := by decide +kernel
theorem dX3_shorter_11 : decode cX3_shorter 11 = .ok (.iload_n 1, 1) := by decide +kernel
theorem dX3_shorter_12 : decode cX3_shorter 12 = .ok (.invokestatic 33, 3) := by decide +kernel
theorem dX3_shorter_15 : decode cX3_shorter 15 = .ok (.ireturn, 1) := by decide +kernel
theorem dX3_shorter_16 : decode cX3_shorter 16 = .ok (.iload_n 0, 1) := by decide +kernel
theorem dX3_shorter_17 : decode cX3_shorter 17 = .ok (.iload_n 1, 1) := by decide +kernel
theorem dX3_shorter_18 : decode cX3_shorter 18 = .ok (.invokestatic 38, 3) := by decide +kernel
theorem dX3_shorter_21 : decode cX3_shorter 21 = .ok (.ireturn, 1) := by decide +kernel
set_option maxRecDepth 20000 in
theorem ggX3_streetsHangTogether_X3_placesWithStreets : GoodIn wsX3_streetsHangTogether wsX3_placesWithStreets := goodIn_r _ [6, 7, 1, 16, 17, 18] (by decide +kernel) (by decide +kernel)
set_option maxRecDepth 20000 in
theorem gX3_streetsHangTogether_X3_placesWithStreets : GoodIn wsX3_streetsHangTogether (wsV RX3 41 RX3 yX3_placesWithStreets wsX3_placesWithStreets) := goodIn_app (goodIn_of _ (by decide +kernel)) ggX3_streetsHangTogether_X3_placesWithStreets
set_option maxRecDepth 20000 in
theorem ggX3_streetsHangTogether_X3_reached : GoodIn wsX3_streetsHangTogether wsX3_reached := goodIn_r _ [11, 7, 12, 13, 14, 5, 15, 16, 17, 18] (by decide +kernel) (by decide +kernel)
set_option maxRecDepth 20000 in
theorem gX3_streetsHangTogether_X3_reached : GoodIn wsX3_streetsHangTogether (wsV RX3 45 RX3 yX3_reached wsX3_reached) := goodIn_app (goodIn_of _ (by decide +kernel)) ggX3_streetsHangTogether_X3_reached
theorem dX3_streetsHangTogether_0 : decode cX3_streetsHangTogether 0 = .ok (.aload_n 0, 1) := by decide +kernel
theorem dX3_streetsHangTogether_1 : decode cX3_streetsHangTogether 1 = .ok (.invokevirtual 41, 3) := by decide +kernel
theorem dX3_streetsHangTogether_4 : decode cX3_streetsHangTogether 4 = .ok (.istore_n 1, 1) := by decide +kernel
theorem dX3_streetsHangTogether_5 : decode cX3_streetsHangTogether 5 = .ok (.aload_n 0, 1) := by decide +kernel
theorem dX3_streetsHangTogether_6 : decode cX3_streetsHangTogether 6 = .ok (.aload_n 0, 1) := by decide +kernel
theorem dX3_streetsHangTogether_7 : decode cX3_streetsHangTogether 7 = .ok (.getfield 20, 3) := by decide +kernel
theorem dX3_streetsHangTogether_10 : decode cX3_streetsHangTogether 10 = .ok (.iload_n 1, 1) := by decide +kernel
theorem dX3_streetsHangTogether_11 : decode cX3_streetsHangTogether 11 = .ok (.iconst 0, 1) := by decide +kernel
theorem dX3_streetsHangTogether_12 : decode cX3_streetsHangTogether 12 = .ok (.invokevirtual 45, 3) := by decide +kernel
theorem dX3_streetsHangTogether_15 : decode cX3_streetsHangTogether 15 = .ok (.iload_n 1, 1) := by decide +kernel
theorem dX3_streetsHangTogether_16 : decode cX3_streetsHangTogether 16 = .ok (.iand, 1) := by decide +kernel
theorem dX3_streetsHangTogether_17 : decode cX3_streetsHangTogether 17 = .ok (.iload_n 1, 1) := by decide +kernel
theorem dX3_streetsHangTogether_18 : decode cX3_streetsHangTogether 18 = .ok (.if_icmp .ne 7, 3) := by decide +kernel
theorem dX3_streetsHangTogether_21 : decode cX3_streetsHangTogether 21 = .ok (.iconst 1, 1) := by decide +kernel
theorem dX3_streetsHangTogether_22 : decode cX3_streetsHangTogether 22 = .ok (.goto 4, 3) := by decide +kernel
theorem dX3_streetsHangTogether_25 : decode cX3_streetsHangTogether 25 = .ok (.iconst 0, 1) := by decide +kernel
theorem dX3_streetsHangTogether_26 : decode cX3_streetsHangTogether 26 = .ok (.ireturn, 1) := by decide +kernel
set_option maxRecDepth 20000 in
theorem ggX3_waysLeadFromEachToEach_X3_placesWithStreets : GoodIn wsX3_waysLeadFromEachToEach wsX3_placesWithStreets := goodIn_r _ [6, 7, 8, 17, 18, 19] (by decide +kernel) (by decide +kernel)
set_option maxRecDepth 20000 in
theorem gX3_waysLeadFromEachToEach_X3_placesWithStreets : GoodIn wsX3_waysLeadFromEachToEach (wsV RX3 41 RX3 yX3_placesWithStreets wsX3_placesWithStreets) := goodIn_app (goodIn_of _ (by decide +kernel)) ggX3_waysLeadFromEachToEach_X3_placesWithStreets
set_option maxRecDepth 20000 in
theorem ggX3_waysLeadFromEachToEach_X3_reached : GoodIn wsX3_waysLeadFromEachToEach wsX3_reached := goodIn_r _ [12, 7, 13, 14, 15, 5, 16, 17, 18, 19] (by decide +kernel) (by decide +kernel)
set_option maxRecDepth 20000 in
theorem gX3_waysLeadFromEachToEach_X3_reached : GoodIn wsX3_waysLeadFromEachToEach (wsV RX3 45 RX3 yX3_reached wsX3_reached) := goodIn_app (goodIn_of _ (by decide +kernel)) ggX3_waysLeadFromEachToEach_X3_reached
theorem dX3_waysLeadFromEachToEach_0 : decode cX3_waysLeadFromEachToEach 0 = .ok (.aload_n 0, 1) := by decide +kernel
theorem dX3_waysLeadFromEachToEach_1 : decode cX3_waysLeadFromEachToEach 1 = .ok (.invokevirtual 41, 3) := by decide +kernel
theorem dX3_waysLeadFromEachToEach_4 : decode cX3_waysLeadFromEachToEach 4 = .ok (.istore_n 1, 1) := by decide +kernel
theorem dX3_waysLeadFromEachToEach_5 : decode cX3_waysLeadFromEachToEach 5 = .ok (.aload_n 0, 1) := by decide +kernel
theorem dX3_waysLeadFromEachToEach_6 : decode cX3_waysLeadFromEachToEach 6 = .ok (.aload_n 0, 1) := by decide +kernel
theorem dX3_waysLeadFromEachToEach_7 : decode cX3_waysLeadFromEachToEach 7 = .ok (.getfield 17, 3) := by decide +kernel
theorem dX3_waysLeadFromEachToEach_10 : decode cX3_waysLeadFromEachToEach 10 = .ok (.iload_n 1, 1) := by decide +kernel
theorem dX3_waysLeadFromEachToEach_11 : decode cX3_waysLeadFromEachToEach 11 = .ok (.iconst 0, 1) := by decide +kernel
theorem dX3_waysLeadFromEachToEach_12 : decode cX3_waysLeadFromEachToEach 12 = .ok (.invokevirtual 45, 3) := by decide +kernel
theorem dX3_waysLeadFromEachToEach_15 : decode cX3_waysLeadFromEachToEach 15 = .ok (.aload_n 0, 1) := by decide +kernel
theorem dX3_waysLeadFromEachToEach_16 : decode cX3_waysLeadFromEachToEach 16 = .ok (.aload_n 0, 1) := by decide +kernel
theorem dX3_waysLeadFromEachToEach_17 : decode cX3_waysLeadFromEachToEach 17 = .ok (.getfield 17, 3) := by decide +kernel
theorem dX3_waysLeadFromEachToEach_20 : decode cX3_waysLeadFromEachToEach 20 = .ok (.iload_n 1, 1) := by decide +kernel
theorem dX3_waysLeadFromEachToEach_21 : decode cX3_waysLeadFromEachToEach 21 = .ok (.iconst 1, 1) := by decide +kernel
theorem dX3_waysLeadFromEachToEach_22 : decode cX3_waysLeadFromEachToEach 22 = .ok (.invokevirtual 45, 3) := by decide +kernel
theorem dX3_waysLeadFromEachToEach_25 : decode cX3_waysLeadFromEachToEach 25 = .ok (.iand, 1) := by decide +kernel
theorem dX3_waysLeadFromEachToEach_26 : decode cX3_waysLeadFromEachToEach 26 = .ok (.iload_n 1, 1) := by decide +kernel
theorem dX3_waysLeadFromEachToEach_27 : decode cX3_waysLeadFromEachToEach 27 = .ok (.iand, 1) := by decide +kernel
theorem dX3_waysLeadFromEachToEach_28 : decode cX3_waysLeadFromEachToEach 28 = .ok (.iload_n 1, 1) := by decide +kernel
theorem dX3_waysLeadFromEachToEach_29 : decode cX3_waysLeadFromEachToEach 29 = .ok (.if_icmp .ne 7, 3) := by decide +kernel
theorem dX3_waysLeadFromEachToEach_32 : decode cX3_waysLeadFromEachToEach 32 = .ok (.iconst 1, 1) := by decide +kernel
theorem dX3_waysLeadFromEachToEach_33 : decode cX3_waysLeadFromEachToEach 33 = .ok (.goto 4, 3) := by decide +kernel
theorem dX3_waysLeadFromEachToEach_36 : decode cX3_waysLeadFromEachToEach 36 = .ok (.iconst 0, 1) := by decide +kernel
theorem dX3_waysLeadFromEachToEach_37 : decode cX3_waysLeadFromEachToEach 37 = .ok (.ireturn, 1) := by decide +kernel
theorem dX3_placesWithStreets_0 : decode cX3_placesWithStreets 0 = .ok (.iconst 0, 1) := by decide +kernel
theorem dX3_placesWithStreets_1 : decode cX3_placesWithStreets 1 = .ok (.istore_n 1, 1) := by decide +kernel
theorem dX3_placesWithStreets_2 : decode cX3_placesWithStreets 2 = .ok (.iconst 0, 1) := by decide +kernel
theorem dX3_placesWithStreets_3 : decode cX3_placesWithStreets 3 = .ok (.istore_n 2, 1) := by decide +kernel
theorem dX3_placesWithStreets_4 : decode cX3_placesWithStreets 4 = .ok (.iload_n 2, 1) := by decide +kernel
theorem dX3_placesWithStreets_5 : decode cX3_placesWithStreets 5 = .ok (.aload_n 0, 1) := by decide +kernel
theorem dX3_placesWithStreets_6 : decode cX3_placesWithStreets 6 = .ok (.getfield 9, 3) := by decide +kernel
theorem dX3_placesWithStreets_9 : decode cX3_placesWithStreets 9 = .ok (.if_icmp .ge 43, 3) := by decide +kernel
theorem dX3_placesWithStreets_12 : decode cX3_placesWithStreets 12 = .ok (.iconst 0, 1) := by decide +kernel
theorem dX3_placesWithStreets_13 : decode cX3_placesWithStreets 13 = .ok (.istore_n 3, 1) := by decide +kernel
theorem dX3_placesWithStreets_14 : decode cX3_placesWithStreets 14 = .ok (.iload_n 3, 1) := by decide +kernel
theorem dX3_placesWithStreets_15 : decode cX3_placesWithStreets 15 = .ok (.aload_n 0, 1) := by decide +kernel
theorem dX3_placesWithStreets_16 : decode cX3_placesWithStreets 16 = .ok (.getfield 9, 3) := by decide +kernel
theorem dX3_placesWithStreets_19 : decode cX3_placesWithStreets 19 = .ok (.if_icmp .ge 27, 3) := by decide +kernel
theorem dX3_placesWithStreets_22 : decode cX3_placesWithStreets 22 = .ok (.aload_n 0, 1) := by decide +kernel
theorem dX3_placesWithStreets_23 : decode cX3_placesWithStreets 23 = .ok (.getfield 20, 3) := by decide +kernel
theorem dX3_placesWithStreets_26 : decode cX3_placesWithStreets 26 = .ok (.iload_n 2, 1) := by decide +kernel
theorem dX3_placesWithStreets_27 : decode cX3_placesWithStreets 27 = .ok (.aaload, 1) := by decide +kernel
theorem dX3_placesWithStreets_28 : decode cX3_placesWithStreets 28 = .ok (.iload_n 3, 1) := by decide +kernel
theorem dX3_placesWithStreets_29 : decode cX3_placesWithStreets 29 = .ok (.iaload, 1) := by decide +kernel
theorem dX3_placesWithStreets_30 : decode cX3_placesWithStreets 30 = .ok (.iconst (-1), 1) := by decide +kernel
theorem dX3_placesWithStreets_31 : decode cX3_placesWithStreets 31 = .ok (.if_icmp .eq 9, 3) := by decide +kernel
theorem dX3_placesWithStreets_34 : decode cX3_placesWithStreets 34 = .ok (.iload_n 1, 1) := by decide +kernel
theorem dX3_placesWithStreets_35 : decode cX3_placesWithStreets 35 = .ok (.iconst 1, 1) := by decide +kernel
theorem dX3_placesWithStreets_36 : decode cX3_placesWithStreets 36 = .ok (.iload_n 2, 1) := by decide +kernel
theorem dX3_placesWithStreets_37 : decode cX3_placesWithStreets 37 = .ok (.ishl, 1) := by decide +kernel
theorem dX3_placesWithStreets_38 : decode cX3_placesWithStreets 38 = .ok (.ior, 1) := by decide +kernel
theorem dX3_placesWithStreets_39 : decode cX3_placesWithStreets 39 = .ok (.istore_n 1, 1) := by decide +kernel
theorem dX3_placesWithStreets_40 : decode cX3_placesWithStreets 40 = .ok (.iinc 3 1, 3) := by decide +kernel
theorem dX3_placesWithStreets_43 : decode cX3_placesWithStreets 43 = .ok (.goto (-29), 3) := by decide +kernel
theorem dX3_placesWithStreets_46 : decode cX3_placesWithStreets 46 = .ok (.iinc 2 1, 3) := by decide +kernel
theorem dX3_placesWithStreets_49 : decode cX3_placesWithStreets 49 = .ok (.goto (-45), 3) := by decide +kernel
theorem dX3_placesWithStreets_52 : decode cX3_placesWithStreets 52 = .ok (.iload_n 1, 1) := by decide +kernel
theorem dX3_placesWithStreets_53 : decode cX3_placesWithStreets 53 = .ok (.ireturn, 1) := by decide +kernel
set_option maxRecDepth 20000 in
theorem ggX3_reached_X3_spread : GoodIn wsX3_reached wsX3_spread := goodIn_r _ [6, 1, 7, 8, 9] (by decide +kernel) (by decide +kernel)
set_option maxRecDepth 20000 in
theorem gX3_reached_X3_spread : GoodIn wsX3_reached (wsV RX3 49 RX3 yX3_spread wsX3_spread) := goodIn_app (goodIn_of _ (by decide +kernel)) ggX3_reached_X3_spread
theorem dX3_reached_0 : decode cX3_reached 0 = .ok (.iload_n 2, 1) := by decide +kernel
theorem dX3_reached_1 : decode cX3_reached 1 = .ok (.iload_n 2, 1) := by decide +kernel
theorem dX3_reached_2 : decode cX3_reached 2 = .ok (.ineg, 1) := by decide +kernel
theorem dX3_reached_3 : decode cX3_reached 3 = .ok (.iand, 1) := by decide +kernel
theorem dX3_reached_4 : decode cX3_reached 4 = .ok (.istore 4, 2) := by decide +kernel
theorem dX3_reached_6 : decode cX3_reached 6 = .ok (.iconst 1, 1) := by decide +kernel
theorem dX3_reached_7 : decode cX3_reached 7 = .ok (.istore 5, 2) := by decide +kernel
theorem dX3_reached_9 : decode cX3_reached 9 = .ok (.iload 5, 2) := by decide +kernel
theorem dX3_reached_11 : decode cX3_reached 11 = .ok (.aload_n 0, 1) := by decide +kernel
theorem dX3_reached_12 : decode cX3_reached 12 = .ok (.getfield 9, 3) := by decide +kernel
theorem dX3_reached_15 : decode cX3_reached 15 = .ok (.if_icmp .ge 19, 3) := by decide +kernel
theorem dX3_reached_18 : decode cX3_reached 18 = .ok (.aload_n 0, 1) := by decide +kernel
theorem dX3_reached_19 : decode cX3_reached 19 = .ok (.aload_n 1, 1) := by decide +kernel
theorem dX3_reached_20 : decode cX3_reached 20 = .ok (.iload 4, 2) := by decide +kernel
theorem dX3_reached_22 : decode cX3_reached 22 = .ok (.iload_n 3, 1) := by decide +kernel
theorem dX3_reached_23 : decode cX3_reached 23 = .ok (.invokevirtual 49, 3) := by decide +kernel
theorem dX3_reached_26 : decode cX3_reached 26 = .ok (.istore 4, 2) := by decide +kernel
theorem dX3_reached_28 : decode cX3_reached 28 = .ok (.iinc 5 1, 3) := by decide +kernel
theorem dX3_reached_31 : decode cX3_reached 31 = .ok (.goto (-22), 3) := by decide +kernel
theorem dX3_reached_34 : decode cX3_reached 34 = .ok (.iload 4, 2) := by decide +kernel
theorem dX3_reached_36 : decode cX3_reached 36 = .ok (.ireturn, 1) := by decide +kernel
theorem dX3_spread_0 : decode cX3_spread 0 = .ok (.iload_n 2, 1) := by decide +kernel
theorem dX3_spread_1 : decode cX3_spread 1 = .ok (.istore 4, 2) := by decide +kernel
theorem dX3_spread_3 : decode cX3_spread 3 = .ok (.iconst 0, 1) := by decide +kernel
theorem dX3_spread_4 : decode cX3_spread 4 = .ok (.istore 5, 2) := by decide +kernel
theorem dX3_spread_6 : decode cX3_spread 6 = .ok (.iload 5, 2) := by decide +kernel
theorem dX3_spread_8 : decode cX3_spread 8 = .ok (.aload_n 0, 1) := by decide +kernel
theorem dX3_spread_9 : decode cX3_spread 9 = .ok (.getfield 9, 3) := by decide +kernel
theorem dX3_spread_12 : decode cX3_spread 12 = .ok (.if_icmp .ge 83, 3) := by decide +kernel
theorem dX3_spread_15 : decode cX3_spread 15 = .ok (.iconst 0, 1) := by decide +kernel
theorem dX3_spread_16 : decode cX3_spread 16 = .ok (.istore 6, 2) := by decide +kernel
theorem dX3_spread_18 : decode cX3_spread 18 = .ok (.iload 6, 2) := by decide +kernel
theorem dX3_spread_20 : decode cX3_spread 20 = .ok (.aload_n 0, 1) := by decide +kernel
theorem dX3_spread_21 : decode cX3_spread 21 = .ok (.getfield 9, 3) := by decide +kernel
theorem dX3_spread_24 : decode cX3_spread 24 = .ok (.if_icmp .ge 65, 3) := by decide +kernel
theorem dX3_spread_27 : decode cX3_spread 27 = .ok (.iload_n 3, 1) := by decide +kernel
theorem dX3_spread_28 : decode cX3_spread 28 = .ok (.ifCond .eq 8, 3) := by decide +kernel
theorem dX3_spread_31 : decode cX3_spread 31 = .ok (.iload 6, 2) := by decide +kernel
theorem dX3_spread_33 : decode cX3_spread 33 = .ok (.goto 5, 3) := by decide +kernel
theorem dX3_spread_36 : decode cX3_spread 36 = .ok (.iload 5, 2) := by decide +kernel
end
section
theorem dX3_spread_38 : decode cX3_spread 38 = .ok (.istore 7, 2) := by decide +kernel
theorem dX3_spread_40 : decode cX3_spread 40 = .ok (.iload_n 3, 1) := by decide +kernel
theorem dX3_spread_41 : decode cX3_spread 41 = .ok (.ifCond .eq 8, 3) := by decide +kernel
theorem dX3_spread_44 : decode cX3_spread 44 = .ok (.iload 5, 2) := by decide +kernel
theorem dX3_spread_46 : decode cX3_spread 46 = .ok (.goto 5, 3) := by decide +kernel
theorem dX3_spread_49 : decode cX3_spread 49 = .ok (.iload 6, 2) := by decide +kernel
theorem dX3_spread_51 : decode cX3_spread 51 = .ok (.istore 8, 2) := by decide +kernel
theorem dX3_spread_53 : decode cX3_spread 53 = .ok (.aload_n 1, 1) := by decide +kernel
theorem dX3_spread_54 : decode cX3_spread 54 = .ok (.iload 5, 2) := by decide +kernel
theorem dX3_spread_56 : decode cX3_spread 56 = .ok (.aaload, 1) := by decide +kernel
theorem dX3_spread_57 : decode cX3_spread 57 = .ok (.iload 6, 2) := by decide +kernel
theorem dX3_spread_59 : decode cX3_spread 59 = .ok (.iaload, 1) := by decide +kernel
theorem dX3_spread_60 : decode cX3_spread 60 = .ok (.iconst (-1), 1) := by decide +kernel
theorem dX3_spread_61 : decode cX3_spread 61 = .ok (.if_icmp .eq 22, 3) := by decide +kernel
theorem dX3_spread_64 : decode cX3_spread 64 = .ok (.iload 4, 2) := by decide +kernel
theorem dX3_spread_66 : decode cX3_spread 66 = .ok (.iload 7, 2) := by decide +kernel
theorem dX3_spread_68 : decode cX3_spread 68 = .ok (.ishr, 1) := by decide +kernel
theorem dX3_spread_69 : decode cX3_spread 69 = .ok (.iconst 1, 1) := by decide +kernel
theorem dX3_spread_70 : decode cX3_spread 70 = .ok (.iand, 1) := by decide +kernel
theorem dX3_spread_71 : decode cX3_spread 71 = .ok (.ifCond .eq 12, 3) := by decide +kernel
theorem dX3_spread_74 : decode cX3_spread 74 = .ok (.iload 4, 2) := by decide +kernel
theorem dX3_spread_76 : decode cX3_spread 76 = .ok (.iconst 1, 1) := by decide +kernel
theorem dX3_spread_77 : decode cX3_spread 77 = .ok (.iload 8, 2) := by decide +kernel
theorem dX3_spread_79 : decode cX3_spread 79 = .ok (.ishl, 1) := by decide +kernel
theorem dX3_spread_80 : decode cX3_spread 80 = .ok (.ior, 1) := by decide +kernel
theorem dX3_spread_81 : decode cX3_spread 81 = .ok (.istore 4, 2) := by decide +kernel
theorem dX3_spread_83 : decode cX3_spread 83 = .ok (.iinc 6 1, 3) := by decide +kernel
theorem dX3_spread_86 : decode cX3_spread 86 = .ok (.goto (-68), 3) := by decide +kernel
theorem dX3_spread_89 : decode cX3_spread 89 = .ok (.iinc 5 1, 3) := by decide +kernel
theorem dX3_spread_92 : decode cX3_spread 92 = .ok (.goto (-86), 3) := by decide +kernel
theorem dX3_spread_95 : decode cX3_spread 95 = .ok (.iload 4, 2) := by decide +kernel
theorem dX3_spread_97 : decode cX3_spread 97 = .ok (.ireturn, 1) := by decide +kernel
theorem dX4_init_0 : decode cX4_init 0 = .ok (.aload_n 0, 1) := by decide +kernel
theorem dX4_init_1 : decode cX4_init 1 = .ok (.invokespecial 3, 3) := by decide +kernel
theorem dX4_init_4 : decode cX4_init 4 = .ok (.aload_n 0, 1) := by decide +kernel
theorem dX4_init_5 : decode cX4_init 5 = .ok (.aload_n 1, 1) := by decide +kernel
theorem dX4_init_6 : decode cX4_init 6 = .ok (.putfield 9, 3) := by decide +kernel
theorem dX4_init_9 : decode cX4_init 9 = .ok (.aload_n 0, 1) := by decide +kernel
theorem dX4_init_10 : decode cX4_init 10 = .ok (.aload_n 1, 1) := by decide +kernel
theorem dX4_init_11 : decode cX4_init 11 = .ok (.getfield 15, 3) := by decide +kernel
theorem dX4_init_14 : decode cX4_init 14 = .ok (.aload_n 1, 1) := by decide +kernel
theorem dX4_init_15 : decode cX4_init 15 = .ok (.getfield 15, 3) := by decide +kernel
theorem dX4_init_18 : decode cX4_init 18 = .ok (.multianewarray 21 2, 4) := by decide +kernel
theorem dX4_init_22 : decode cX4_init 22 = .ok (.putfield 23, 3) := by decide +kernel
theorem dX4_init_25 : decode cX4_init 25 = .ok (.aload_n 0, 1) := by decide +kernel
theorem dX4_init_26 : decode cX4_init 26 = .ok (.aload_n 1, 1) := by decide +kernel
theorem dX4_init_27 : decode cX4_init 27 = .ok (.getfield 15, 3) := by decide +kernel
theorem dX4_init_30 : decode cX4_init 30 = .ok (.newarray .int, 2) := by decide +kernel
theorem dX4_init_32 : decode cX4_init 32 = .ok (.putfield 26, 3) := by decide +kernel
theorem dX4_init_35 : decode cX4_init 35 = .ok (.aload_n 0, 1) := by decide +kernel
theorem dX4_init_36 : decode cX4_init 36 = .ok (.iconst 0, 1) := by decide +kernel
theorem dX4_init_37 : decode cX4_init 37 = .ok (.putfield 30, 3) := by decide +kernel
theorem dX4_init_40 : decode cX4_init 40 = .ok (.aload_n 0, 1) := by decide +kernel
theorem dX4_init_41 : decode cX4_init 41 = .ok (.iconst 1, 1) := by decide +kernel
theorem dX4_init_42 : decode cX4_init 42 = .ok (.aload_n 1, 1) := by decide +kernel
theorem dX4_init_43 : decode cX4_init 43 = .ok (.getfield 15, 3) := by decide +kernel
theorem dX4_init_46 : decode cX4_init 46 = .ok (.iconst 1, 1) := by decide +kernel
theorem dX4_init_47 : decode cX4_init 47 = .ok (.isub, 1) := by decide +kernel
theorem dX4_init_48 : decode cX4_init 48 = .ok (.ishl, 1) := by decide +kernel
theorem dX4_init_49 : decode cX4_init 49 = .ok (.newarray .int, 2) := by decide +kernel
theorem dX4_init_51 : decode cX4_init 51 = .ok (.putfield 33, 3) := by decide +kernel
theorem dX4_init_54 : decode cX4_init 54 = .ok (.aload_n 0, 1) := by decide +kernel
theorem dX4_init_55 : decode cX4_init 55 = .ok (.aload_n 1, 1) := by decide +kernel
theorem dX4_init_56 : decode cX4_init 56 = .ok (.getfield 15, 3) := by decide +kernel
theorem dX4_init_59 : decode cX4_init 59 = .ok (.newarray .int, 2) := by decide +kernel
theorem dX4_init_61 : decode cX4_init 61 = .ok (.putfield 36, 3) := by decide +kernel
theorem dX4_init_64 : decode cX4_init 64 = .ok (.aload_n 0, 1) := by decide +kernel
theorem dX4_init_65 : decode cX4_init 65 = .ok (.iconst 0, 1) := by decide +kernel
theorem dX4_init_66 : decode cX4_init 66 = .ok (.putfield 39, 3) := by decide +kernel
theorem dX4_init_69 : decode cX4_init 69 = .ok (.return_, 1) := by decide +kernel
theorem dX4_member_0 : decode cX4_member 0 = .ok (.iload_n 1, 1) := by decide +kernel
theorem dX4_member_1 : decode cX4_member 1 = .ok (.ifCond .lt 20, 3) := by decide +kernel
theorem dX4_member_4 : decode cX4_member 4 = .ok (.iload_n 1, 1) := by decide +kernel
theorem dX4_member_5 : decode cX4_member 5 = .ok (.aload_n 0, 1) := by decide +kernel
theorem dX4_member_6 : decode cX4_member 6 = .ok (.getfield 39, 3) := by decide +kernel
theorem dX4_member_9 : decode cX4_member 9 = .ok (.if_icmp .ge 12, 3) := by decide +kernel
theorem dX4_member_12 : decode cX4_member 12 = .ok (.iload_n 2, 1) := by decide +kernel
theorem dX4_member_13 : decode cX4_member 13 = .ok (.ifCond .lt 8, 3) := by decide +kernel
theorem dX4_member_16 : decode cX4_member 16 = .ok (.iload_n 2, 1) := by decide +kernel
theorem dX4_member_17 : decode cX4_member 17 = .ok (.iconst 1, 1) := by decide +kernel
theorem dX4_member_18 : decode cX4_member 18 = .ok (.if_icmp .le 5, 3) := by decide +kernel
theorem dX4_member_21 : decode cX4_member 21 = .ok (.iconst (-1), 1) := by decide +kernel
theorem dX4_member_22 : decode cX4_member 22 = .ok (.ireturn, 1) := by decide +kernel
theorem dX4_member_23 : decode cX4_member 23 = .ok (.aload_n 0, 1) := by decide +kernel
theorem dX4_member_24 : decode cX4_member 24 = .ok (.getfield 36, 3) := by decide +kernel
theorem dX4_member_27 : decode cX4_member 27 = .ok (.iconst 2, 1) := by decide +kernel
theorem dX4_member_28 : decode cX4_member 28 = .ok (.iload_n 1, 1) := by decide +kernel
theorem dX4_member_29 : decode cX4_member 29 = .ok (.imul, 1) := by decide +kernel
theorem dX4_member_30 : decode cX4_member 30 = .ok (.iload_n 2, 1) := by decide +kernel
theorem dX4_member_31 : decode cX4_member 31 = .ok (.iadd, 1) := by decide +kernel
theorem dX4_member_32 : decode cX4_member 32 = .ok (.iaload, 1) := by decide +kernel
theorem dX4_member_33 : decode cX4_member 33 = .ok (.ireturn, 1) := by decide +kernel
set_option maxRecDepth 20000 in
theorem ggX4_leastWay_X3_streetsHangTogether : GoodIn wsX4_leastWay wsX3_streetsHangTogether := goodIn_r _ [8, 9, 10, 11, 12, 7, 13, 14, 15, 16, 17, 18, 19, 20, 21, 22, 94, 95, 96] (by decide +kernel) (by decide +kernel)
set_option maxRecDepth 20000 in
theorem gX4_leastWay_X3_streetsHangTogether : GoodIn wsX4_leastWay (wsV RX4 42 RX3 yX3_streetsHangTogether wsX3_streetsHangTogether) := goodIn_app (goodIn_of _ (by decide +kernel)) ggX4_leastWay_X3_streetsHangTogether
set_option maxRecDepth 20000 in
theorem ggX4_leastWay_X4_sumOfStreets : GoodIn wsX4_leastWay wsX4_sumOfStreets := goodIn_r _ [27, 1, 28, 29, 30, 31, 87, 88, 89, 90, 91, 92, 93, 94, 95, 96] (by decide +kernel) (by decide +kernel)
set_option maxRecDepth 20000 in
theorem gX4_leastWay_X4_sumOfStreets : GoodIn wsX4_leastWay (wsV RX4 48 RX4 yX4_sumOfStreets wsX4_sumOfStreets) := goodIn_app (goodIn_of _ (by decide +kernel)) ggX4_leastWay_X4_sumOfStreets
set_option maxRecDepth 20000 in
theorem ggX4_leastWay_X4_findOddPlaces : GoodIn wsX4_leastWay wsX4_findOddPlaces := goodIn_r _ [35, 36, 1, 37, 87, 88, 89, 90, 91, 92, 93, 94, 95, 96] (by decide +kernel) (by decide +kernel)
set_option maxRecDepth 20000 in
theorem gX4_leastWay_X4_findOddPlaces : GoodIn wsX4_leastWay (wsV RX4 52 RX4 yX4_findOddPlaces wsX4_findOddPlaces) := goodIn_app (goodIn_of _ (by decide +kernel)) ggX4_leastWay_X4_findOddPlaces
set_option maxRecDepth 20000 in
theorem ggX4_leastWay_X4_findShortest : GoodIn wsX4_leastWay wsX4_findShortest := goodIn_r _ [41, 1, 42, 43, 44, 45, 30, 46, 87, 88, 89, 90, 91, 92, 93, 94, 95, 96] (by decide +kernel) (by decide +kernel)
set_option maxRecDepth 20000 in
theorem gX4_leastWay_X4_findShortest : GoodIn wsX4_leastWay (wsV RX4 55 RX4 yX4_findShortest wsX4_findShortest) := goodIn_app (goodIn_of _ (by decide +kernel)) ggX4_leastWay_X4_findShortest
set_option maxRecDepth 20000 in
theorem ggX4_leastWay_X4_findLeastSums : GoodIn wsX4_leastWay wsX4_findLeastSums := goodIn_r _ [50, 3, 51, 52, 53, 26, 54, 36, 55, 56, 57, 58, 59, 60, 61, 62, 63, 64, 65, 66, 67, 68, 69, 70, 71, 72, 73, 74, 75, 76, 77, 42, 37, 78, 79, 80, 87, 88, 89, 90, 91, 92, 93] (by decide +kernel) (by decide +kernel)
set_option maxRecDepth 20000 in
theorem gX4_leastWay_X4_findLeastSums : GoodIn wsX4_leastWay (wsV RX4 58 RX4 yX4_findLeastSums wsX4_findLeastSums) := goodIn_app (goodIn_of _ (by decide +kernel)) ggX4_leastWay_X4_findLeastSums
set_option maxRecDepth 20000 in
theorem ggX4_leastWay_X4_keepPairs : GoodIn wsX4_leastWay wsX4_keepPairs := goodIn_r _ [84, 85, 36, 86, 37, 51, 52, 53, 26, 54, 67, 68, 69, 70, 71, 57, 72, 73, 62, 63, 64, 65, 66, 74, 75, 76, 77, 42, 3, 78, 79, 80, 87, 88, 89, 90, 91, 92, 93] (by decide +kernel) (by decide +kernel)
set_option maxRecDepth 20000 in
theorem gX4_leastWay_X4_keepPairs : GoodIn wsX4_leastWay (wsV RX4 61 RX4 yX4_keepPairs wsX4_keepPairs) := goodIn_app (goodIn_of _ (by decide +kernel)) ggX4_leastWay_X4_keepPairs
set_option maxRecDepth 20000 in
theorem ggX4_leastWay_X4_everyOdd : GoodIn wsX4_leastWay wsX4_everyOdd := goodIn_r _ [54, 36, 87, 88, 89, 90, 91, 92, 93] (by decide +kernel) (by decide +kernel)
set_option maxRecDepth 20000 in
theorem gX4_leastWay_X4_everyOdd : GoodIn wsX4_leastWay (wsV RX4 64 RX4 yX4_everyOdd wsX4_everyOdd) := goodIn_app (goodIn_of _ (by decide +kernel)) ggX4_leastWay_X4_everyOdd
theorem dX4_leastWay_0 : decode cX4_leastWay 0 = .ok (.aload_n 0, 1) := by decide +kernel
theorem dX4_leastWay_1 : decode cX4_leastWay 1 = .ok (.getfield 9, 3) := by decide +kernel
theorem dX4_leastWay_4 : decode cX4_leastWay 4 = .ok (.invokevirtual 42, 3) := by decide +kernel
theorem dX4_leastWay_7 : decode cX4_leastWay 7 = .ok (.ifCond .ne 7, 3) := by decide +kernel
theorem dX4_leastWay_10 : decode cX4_leastWay 10 = .ok (.ldc2_w 46, 3) := by decide +kernel
theorem dX4_leastWay_13 : decode cX4_leastWay 13 = .ok (.lreturn, 1) := by decide +kernel
theorem dX4_leastWay_14 : decode cX4_leastWay 14 = .ok (.aload_n 0, 1) := by decide +kernel
theorem dX4_leastWay_15 : decode cX4_leastWay 15 = .ok (.invokevirtual 48, 3) := by decide +kernel
theorem dX4_leastWay_18 : decode cX4_leastWay 18 = .ok (.lstore_n 1, 1) := by decide +kernel
theorem dX4_leastWay_19 : decode cX4_leastWay 19 = .ok (.aload_n 0, 1) := by decide +kernel
theorem dX4_leastWay_20 : decode cX4_leastWay 20 = .ok (.invokevirtual 52, 3) := by decide +kernel
theorem dX4_leastWay_23 : decode cX4_leastWay 23 = .ok (.aload_n 0, 1) := by decide +kernel
theorem dX4_leastWay_24 : decode cX4_leastWay 24 = .ok (.invokevirtual 55, 3) := by decide +kernel
theorem dX4_leastWay_27 : decode cX4_leastWay 27 = .ok (.aload_n 0, 1) := by decide +kernel
theorem dX4_leastWay_28 : decode cX4_leastWay 28 = .ok (.invokevirtual 58, 3) := by decide +kernel
theorem dX4_leastWay_31 : decode cX4_leastWay 31 = .ok (.aload_n 0, 1) := by decide +kernel
theorem dX4_leastWay_32 : decode cX4_leastWay 32 = .ok (.invokevirtual 61, 3) := by decide +kernel
theorem dX4_leastWay_35 : decode cX4_leastWay 35 = .ok (.lload_n 1, 1) := by decide +kernel
theorem dX4_leastWay_36 : decode cX4_leastWay 36 = .ok (.aload_n 0, 1) := by decide +kernel
theorem dX4_leastWay_37 : decode cX4_leastWay 37 = .ok (.getfield 33, 3) := by decide +kernel
theorem dX4_leastWay_40 : decode cX4_leastWay 40 = .ok (.aload_n 0, 1) := by decide +kernel
theorem dX4_leastWay_41 : decode cX4_leastWay 41 = .ok (.invokevirtual 64, 3) := by decide +kernel
theorem dX4_leastWay_44 : decode cX4_leastWay 44 = .ok (.iconst 1, 1) := by decide +kernel
theorem dX4_leastWay_45 : decode cX4_leastWay 45 = .ok (.ishr, 1) := by decide +kernel
theorem dX4_leastWay_46 : decode cX4_leastWay 46 = .ok (.iaload, 1) := by decide +kernel
theorem dX4_leastWay_47 : decode cX4_leastWay 47 = .ok (.i2l, 1) := by decide +kernel
theorem dX4_leastWay_48 : decode cX4_leastWay 48 = .ok (.ladd, 1) := by decide +kernel
theorem dX4_leastWay_49 : decode cX4_leastWay 49 = .ok (.lreturn, 1) := by decide +kernel
theorem dX4_sumOfStreets_0 : decode cX4_sumOfStreets 0 = .ok (.lconst 0, 1) := by decide +kernel
theorem dX4_sumOfStreets_1 : decode cX4_sumOfStreets 1 = .ok (.lstore_n 1, 1) := by decide +kernel
theorem dX4_sumOfStreets_2 : decode cX4_sumOfStreets 2 = .ok (.iconst 0, 1) := by decide +kernel
theorem dX4_sumOfStreets_3 : decode cX4_sumOfStreets 3 = .ok (.istore_n 3, 1) := by decide +kernel
theorem dX4_sumOfStreets_4 : decode cX4_sumOfStreets 4 = .ok (.iload_n 3, 1) := by decide +kernel
theorem dX4_sumOfStreets_5 : decode cX4_sumOfStreets 5 = .ok (.aload_n 0, 1) := by decide +kernel
theorem dX4_sumOfStreets_6 : decode cX4_sumOfStreets 6 = .ok (.getfield 9, 3) := by decide +kernel
theorem dX4_sumOfStreets_9 : decode cX4_sumOfStreets 9 = .ok (.getfield 15, 3) := by decide +kernel
theorem dX4_sumOfStreets_12 : decode cX4_sumOfStreets 12 = .ok (.if_icmp .ge 52, 3) := by decide +kernel
theorem dX4_sumOfStreets_15 : decode cX4_sumOfStreets 15 = .ok (.iload_n 3, 1) := by decide +kernel
theorem dX4_sumOfStreets_16 : decode cX4_sumOfStreets 16 = .ok (.iconst 1, 1) := by decide +kernel
theorem dX4_sumOfStreets_17 : decode cX4_sumOfStreets 17 = .ok (.iadd, 1) := by decide +kernel
theorem dX4_sumOfStreets_18 : decode cX4_sumOfStreets 18 = .ok (.istore 4, 2) := by decide +kernel
theorem dX4_sumOfStreets_20 : decode cX4_sumOfStreets 20 = .ok (.iload 4, 2) := by decide +kernel
theorem dX4_sumOfStreets_22 : decode cX4_sumOfStreets 22 = .ok (.aload_n 0, 1) := by decide +kernel
theorem dX4_sumOfStreets_23 : decode cX4_sumOfStreets 23 = .ok (.getfield 9, 3) := by decide +kernel
theorem dX4_sumOfStreets_26 : decode cX4_sumOfStreets 26 = .ok (.getfield 15, 3) := by decide +kernel
theorem dX4_sumOfStreets_29 : decode cX4_sumOfStreets 29 = .ok (.if_icmp .ge 29, 3) := by decide +kernel
theorem dX4_sumOfStreets_32 : decode cX4_sumOfStreets 32 = .ok (.lload_n 1, 1) := by decide +kernel
theorem dX4_sumOfStreets_33 : decode cX4_sumOfStreets 33 = .ok (.iconst 0, 1) := by decide +kernel
theorem dX4_sumOfStreets_34 : decode cX4_sumOfStreets 34 = .ok (.aload_n 0, 1) := by decide +kernel
theorem dX4_sumOfStreets_35 : decode cX4_sumOfStreets 35 = .ok (.getfield 9, 3) := by decide +kernel
theorem dX4_sumOfStreets_38 : decode cX4_sumOfStreets 38 = .ok (.getfield 68, 3) := by decide +kernel
theorem dX4_sumOfStreets_41 : decode cX4_sumOfStreets 41 = .ok (.iload_n 3, 1) := by decide +kernel
theorem dX4_sumOfStreets_42 : decode cX4_sumOfStreets 42 = .ok (.aaload, 1) := by decide +kernel
theorem dX4_sumOfStreets_43 : decode cX4_sumOfStreets 43 = .ok (.iload 4, 2) := by decide +kernel
theorem dX4_sumOfStreets_45 : decode cX4_sumOfStreets 45 = .ok (.iaload, 1) := by decide +kernel
theorem dX4_sumOfStreets_46 : decode cX4_sumOfStreets 46 = .ok (.invokestatic 71, 3) := by decide +kernel
theorem dX4_sumOfStreets_49 : decode cX4_sumOfStreets 49 = .ok (.i2l, 1) := by decide +kernel
theorem dX4_sumOfStreets_50 : decode cX4_sumOfStreets 50 = .ok (.ladd, 1) := by decide +kernel
theorem dX4_sumOfStreets_51 : decode cX4_sumOfStreets 51 = .ok (.lstore_n 1, 1) := by decide +kernel
theorem dX4_sumOfStreets_52 : decode cX4_sumOfStreets 52 = .ok (.iinc 4 1, 3) := by decide +kernel
theorem dX4_sumOfStreets_55 : decode cX4_sumOfStreets 55 = .ok (.goto (-35), 3) := by decide +kernel
theorem dX4_sumOfStreets_58 : decode cX4_sumOfStreets 58 = .ok (.iinc 3 1, 3) := by decide +kernel
theorem dX4_sumOfStreets_61 : decode cX4_sumOfStreets 61 = .ok (.goto (-57), 3) := by decide +kernel
theorem dX4_sumOfStreets_64 : decode cX4_sumOfStreets 64 = .ok (.lload_n 1, 1) := by decide +kernel
theorem dX4_sumOfStreets_65 : decode cX4_sumOfStreets 65 = .ok (.lreturn, 1) := by decide +kernel
theorem dX4_findOddPlaces_0 : decode cX4_findOddPlaces 0 = .ok (.aload_n 0, 1) := by decide +kernel
theorem dX4_findOddPlaces_1 : decode cX4_findOddPlaces 1 = .ok (.iconst 0, 1) := by decide +kernel
theorem dX4_findOddPlaces_2 : decode cX4_findOddPlaces 2 = .ok (.putfield 30, 3) := by decide +kernel
theorem dX4_findOddPlaces_5 : decode cX4_findOddPlaces 5 = .ok (.iconst 0, 1) := by decide +kernel
theorem dX4_findOddPlaces_6 : decode cX4_findOddPlaces 6 = .ok (.istore_n 1, 1) := by decide +kernel
theorem dX4_findOddPlaces_7 : decode cX4_findOddPlaces 7 = .ok (.iload_n 1, 1) := by decide +kernel
theorem dX4_findOddPlaces_8 : decode cX4_findOddPlaces 8 = .ok (.aload_n 0, 1) := by decide +kernel
theorem dX4_findOddPlaces_9 : decode cX4_findOddPlaces 9 = .ok (.getfield 9, 3) := by decide +kernel
theorem dX4_findOddPlaces_12 : decode cX4_findOddPlaces 12 = .ok (.getfield 15, 3) := by decide +kernel
theorem dX4_findOddPlaces_15 : decode cX4_findOddPlaces 15 = .ok (.if_icmp .ge 74, 3) := by decide +kernel
theorem dX4_findOddPlaces_18 : decode cX4_findOddPlaces 18 = .ok (.iconst 0, 1) := by decide +kernel
theorem dX4_findOddPlaces_19 : decode cX4_findOddPlaces 19 = .ok (.istore_n 2, 1) := by decide +kernel
theorem dX4_findOddPlaces_20 : decode cX4_findOddPlaces 20 = .ok (.iconst 0, 1) := by decide +kernel
theorem dX4_findOddPlaces_21 : decode cX4_findOddPlaces 21 = .ok (.istore_n 3, 1) := by decide +kernel
theorem dX4_findOddPlaces_22 : decode cX4_findOddPlaces 22 = .ok (.iload_n 3, 1) := by decide +kernel
theorem dX4_findOddPlaces_23 : decode cX4_findOddPlaces 23 = .ok (.aload_n 0, 1) := by decide +kernel
theorem dX4_findOddPlaces_24 : decode cX4_findOddPlaces 24 = .ok (.getfield 9, 3) := by decide +kernel
theorem dX4_findOddPlaces_27 : decode cX4_findOddPlaces 27 = .ok (.getfield 15, 3) := by decide +kernel
theorem dX4_findOddPlaces_30 : decode cX4_findOddPlaces 30 = .ok (.if_icmp .ge 27, 3) := by decide +kernel
theorem dX4_findOddPlaces_33 : decode cX4_findOddPlaces 33 = .ok (.aload_n 0, 1) := by decide +kernel
theorem dX4_findOddPlaces_34 : decode cX4_findOddPlaces 34 = .ok (.getfield 9, 3) := by decide +kernel
theorem dX4_findOddPlaces_37 : decode cX4_findOddPlaces 37 = .ok (.getfield 68, 3) := by decide +kernel
theorem dX4_findOddPlaces_40 : decode cX4_findOddPlaces 40 = .ok (.iload_n 1, 1) := by decide +kernel
theorem dX4_findOddPlaces_41 : decode cX4_findOddPlaces 41 = .ok (.aaload, 1) := by decide +kernel
theorem dX4_findOddPlaces_42 : decode cX4_findOddPlaces 42 = .ok (.iload_n 3, 1) := by decide +kernel
theorem dX4_findOddPlaces_43 : decode cX4_findOddPlaces 43 = .ok (.iaload, 1) := by decide +kernel
theorem dX4_findOddPlaces_44 : decode cX4_findOddPlaces 44 = .ok (.iconst (-1), 1) := by decide +kernel
theorem dX4_findOddPlaces_45 : decode cX4_findOddPlaces 45 = .ok (.if_icmp .eq 6, 3) := by decide +kernel
theorem dX4_findOddPlaces_48 : decode cX4_findOddPlaces 48 = .ok (.iinc 2 1, 3) := by decide +kernel
theorem dX4_findOddPlaces_51 : decode cX4_findOddPlaces 51 = .ok (.iinc 3 1, 3) := by decide +kernel
theorem dX4_findOddPlaces_54 : decode cX4_findOddPlaces 54 = .ok (.goto (-32), 3) := by decide +kernel
theorem dX4_findOddPlaces_57 : decode cX4_findOddPlaces 57 = .ok (.iload_n 2, 1) := by decide +kernel
theorem dX4_findOddPlaces_58 : decode cX4_findOddPlaces 58 = .ok (.iconst 1, 1) := by decide +kernel
theorem dX4_findOddPlaces_59 : decode cX4_findOddPlaces 59 = .ok (.iand, 1) := by decide +kernel
theorem dX4_findOddPlaces_60 : decode cX4_findOddPlaces 60 = .ok (.ifCond .eq 23, 3) := by decide +kernel
theorem dX4_findOddPlaces_63 : decode cX4_findOddPlaces 63 = .ok (.aload_n 0, 1) := by decide +kernel
theorem dX4_findOddPlaces_64 : decode cX4_findOddPlaces 64 = .ok (.getfield 26, 3) := by decide +kernel
theorem dX4_findOddPlaces_67 : decode cX4_findOddPlaces 67 = .ok (.aload_n 0, 1) := by decide +kernel
theorem dX4_findOddPlaces_68 : decode cX4_findOddPlaces 68 = .ok (.getfield 30, 3) := by decide +kernel
theorem dX4_findOddPlaces_71 : decode cX4_findOddPlaces 71 = .ok (.iload_n 1, 1) := by decide +kernel
theorem dX4_findOddPlaces_72 : decode cX4_findOddPlaces 72 = .ok (.iastore, 1) := by decide +kernel
theorem dX4_findOddPlaces_73 : decode cX4_findOddPlaces 73 = .ok (.aload_n 0, 1) := by decide +kernel
theorem dX4_findOddPlaces_74 : decode cX4_findOddPlaces 74 = .ok (.dup, 1) := by decide +kernel
theorem dX4_findOddPlaces_75 : decode cX4_findOddPlaces 75 = .ok (.getfield 30, 3) := by decide +kernel
theorem dX4_findOddPlaces_78 : decode cX4_findOddPlaces 78 = .ok (.iconst 1, 1) := by decide +kernel
theorem dX4_findOddPlaces_79 : decode cX4_findOddPlaces 79 = .ok (.iadd, 1) := by decide +kernel
theorem dX4_findOddPlaces_80 : decode cX4_findOddPlaces 80 = .ok (.putfield 30, 3) := by decide +kernel
theorem dX4_findOddPlaces_83 : decode cX4_findOddPlaces 83 = .ok (.iinc 1 1, 3) := by decide +kernel
theorem dX4_findOddPlaces_86 : decode cX4_findOddPlaces 86 = .ok (.goto (-79), 3) := by decide +kernel
theorem dX4_findOddPlaces_89 : decode cX4_findOddPlaces 89 = .ok (.return_, 1) := by decide +kernel
theorem dX4_findShortest_0 : decode cX4_findShortest 0 = .ok (.iconst 0, 1) := by decide +kernel
theorem dX4_findShortest_1 : decode cX4_findShortest 1 = .ok (.istore_n 1, 1) := by decide +kernel
theorem dX4_findShortest_2 : decode cX4_findShortest 2 = .ok (.iload_n 1, 1) := by decide +kernel
theorem dX4_findShortest_3 : decode cX4_findShortest 3 = .ok (.aload_n 0, 1) := by decide +kernel
theorem dX4_findShortest_4 : decode cX4_findShortest 4 = .ok (.getfield 9, 3) := by decide +kernel
theorem dX4_findShortest_7 : decode cX4_findShortest 7 = .ok (.getfield 15, 3) := by decide +kernel
theorem dX4_findShortest_10 : decode cX4_findShortest 10 = .ok (.if_icmp .ge 67, 3) := by decide +kernel
theorem dX4_findShortest_13 : decode cX4_findShortest 13 = .ok (.iconst 0, 1) := by decide +kernel
theorem dX4_findShortest_14 : decode cX4_findShortest 14 = .ok (.istore_n 2, 1) := by decide +kernel
theorem dX4_findShortest_15 : decode cX4_findShortest 15 = .ok (.iload_n 2, 1) := by decide +kernel
theorem dX4_findShortest_16 : decode cX4_findShortest 16 = .ok (.aload_n 0, 1) := by decide +kernel
theorem dX4_findShortest_17 : decode cX4_findShortest 17 = .ok (.getfield 9, 3) := by decide +kernel
theorem dX4_findShortest_20 : decode cX4_findShortest 20 = .ok (.getfield 15, 3) := by decide +kernel
theorem dX4_findShortest_23 : decode cX4_findShortest 23 = .ok (.if_icmp .ge 48, 3) := by decide +kernel
theorem dX4_findShortest_26 : decode cX4_findShortest 26 = .ok (.aload_n 0, 1) := by decide +kernel
theorem dX4_findShortest_27 : decode cX4_findShortest 27 = .ok (.getfield 23, 3) := by decide +kernel
theorem dX4_findShortest_30 : decode cX4_findShortest 30 = .ok (.iload_n 1, 1) := by decide +kernel
theorem dX4_findShortest_31 : decode cX4_findShortest 31 = .ok (.aaload, 1) := by decide +kernel
theorem dX4_findShortest_32 : decode cX4_findShortest 32 = .ok (.iload_n 2, 1) := by decide +kernel
theorem dX4_findShortest_33 : decode cX4_findShortest 33 = .ok (.aload_n 0, 1) := by decide +kernel
theorem dX4_findShortest_34 : decode cX4_findShortest 34 = .ok (.getfield 9, 3) := by decide +kernel
theorem dX4_findShortest_37 : decode cX4_findShortest 37 = .ok (.getfield 68, 3) := by decide +kernel
theorem dX4_findShortest_40 : decode cX4_findShortest 40 = .ok (.iload_n 1, 1) := by decide +kernel
theorem dX4_findShortest_41 : decode cX4_findShortest 41 = .ok (.aaload, 1) := by decide +kernel
theorem dX4_findShortest_42 : decode cX4_findShortest 42 = .ok (.iload_n 2, 1) := by decide +kernel
theorem dX4_findShortest_43 : decode cX4_findShortest 43 = .ok (.iaload, 1) := by decide +kernel
theorem dX4_findShortest_44 : decode cX4_findShortest 44 = .ok (.iconst (-1), 1) := by decide +kernel
theorem dX4_findShortest_45 : decode cX4_findShortest 45 = .ok (.if_icmp .ne 8, 3) := by decide +kernel
theorem dX4_findShortest_48 : decode cX4_findShortest 48 = .ok (.ldc 77, 2) := by decide +kernel
theorem dX4_findShortest_50 : decode cX4_findShortest 50 = .ok (.goto 14, 3) := by decide +kernel
theorem dX4_findShortest_53 : decode cX4_findShortest 53 = .ok (.aload_n 0, 1) := by decide +kernel
theorem dX4_findShortest_54 : decode cX4_findShortest 54 = .ok (.getfield 9, 3) := by decide +kernel
theorem dX4_findShortest_57 : decode cX4_findShortest 57 = .ok (.getfield 68, 3) := by decide +kernel
theorem dX4_findShortest_60 : decode cX4_findShortest 60 = .ok (.iload_n 1, 1) := by decide +kernel
theorem dX4_findShortest_61 : decode cX4_findShortest 61 = .ok (.aaload, 1) := by decide +kernel
theorem dX4_findShortest_62 : decode cX4_findShortest 62 = .ok (.iload_n 2, 1) := by decide +kernel
theorem dX4_findShortest_63 : decode cX4_findShortest 63 = .ok (.iaload, 1) := by decide +kernel
theorem dX4_findShortest_64 : decode cX4_findShortest 64 = .ok (.iastore, 1) := by decide +kernel
theorem dX4_findShortest_65 : decode cX4_findShortest 65 = .ok (.iinc 2 1, 3) := by decide +kernel
theorem dX4_findShortest_68 : decode cX4_findShortest 68 = .ok (.goto (-53), 3) := by decide +kernel
theorem dX4_findShortest_71 : decode cX4_findShortest 71 = .ok (.iinc 1 1, 3) := by decide +kernel
theorem dX4_findShortest_74 : decode cX4_findShortest 74 = .ok (.goto (-72), 3) := by decide +kernel
theorem dX4_findShortest_77 : decode cX4_findShortest 77 = .ok (.iconst 0, 1) := by decide +kernel
theorem dX4_findShortest_78 : decode cX4_findShortest 78 = .ok (.istore_n 1, 1) := by decide +kernel
theorem dX4_findShortest_79 : decode cX4_findShortest 79 = .ok (.iload_n 1, 1) := by decide +kernel
theorem dX4_findShortest_80 : decode cX4_findShortest 80 = .ok (.aload_n 0, 1) := by decide +kernel
theorem dX4_findShortest_81 : decode cX4_findShortest 81 = .ok (.getfield 9, 3) := by decide +kernel
theorem dX4_findShortest_84 : decode cX4_findShortest 84 = .ok (.getfield 15, 3) := by decide +kernel
theorem dX4_findShortest_87 : decode cX4_findShortest 87 = .ok (.if_icmp .ge 83, 3) := by decide +kernel
theorem dX4_findShortest_90 : decode cX4_findShortest 90 = .ok (.iconst 0, 1) := by decide +kernel
theorem dX4_findShortest_91 : decode cX4_findShortest 91 = .ok (.istore_n 2, 1) := by decide +kernel
theorem dX4_findShortest_92 : decode cX4_findShortest 92 = .ok (.iload_n 2, 1) := by decide +kernel
theorem dX4_findShortest_93 : decode cX4_findShortest 93 = .ok (.aload_n 0, 1) := by decide +kernel
theorem dX4_findShortest_94 : decode cX4_findShortest 94 = .ok (.getfield 9, 3) := by decide +kernel
theorem dX4_findShortest_97 : decode cX4_findShortest 97 = .ok (.getfield 15, 3) := by decide +kernel
theorem dX4_findShortest_100 : decode cX4_findShortest 100 = .ok (.if_icmp .ge 64, 3) := by decide +kernel
theorem dX4_findShortest_103 : decode cX4_findShortest 103 = .ok (.iconst 0, 1) := by decide +kernel
theorem dX4_findShortest_104 : decode cX4_findShortest 104 = .ok (.istore_n 3, 1) := by decide +kernel
theorem dX4_findShortest_105 : decode cX4_findShortest 105 = .ok (.iload_n 3, 1) := by decide +kernel
theorem dX4_findShortest_106 : decode cX4_findShortest 106 = .ok (.aload_n 0, 1) := by decide +kernel
theorem dX4_findShortest_107 : decode cX4_findShortest 107 = .ok (.getfield 9, 3) := by decide +kernel
theorem dX4_findShortest_110 : decode cX4_findShortest 110 = .ok (.getfield 15, 3) := by decide +kernel
theorem dX4_findShortest_113 : decode cX4_findShortest 113 = .ok (.if_icmp .ge 45, 3) := by decide +kernel
theorem dX4_findShortest_116 : decode cX4_findShortest 116 = .ok (.aload_n 0, 1) := by decide +kernel
theorem dX4_findShortest_117 : decode cX4_findShortest 117 = .ok (.getfield 23, 3) := by decide +kernel
theorem dX4_findShortest_120 : decode cX4_findShortest 120 = .ok (.iload_n 2, 1) := by decide +kernel
theorem dX4_findShortest_121 : decode cX4_findShortest 121 = .ok (.aaload, 1) := by decide +kernel
theorem dX4_findShortest_122 : decode cX4_findShortest 122 = .ok (.iload_n 3, 1) := by decide +kernel
theorem dX4_findShortest_123 : decode cX4_findShortest 123 = .ok (.aload_n 0, 1) := by decide +kernel
theorem dX4_findShortest_124 : decode cX4_findShortest 124 = .ok (.getfield 23, 3) := by decide +kernel
theorem dX4_findShortest_127 : decode cX4_findShortest 127 = .ok (.iload_n 2, 1) := by decide +kernel
theorem dX4_findShortest_128 : decode cX4_findShortest 128 = .ok (.aaload, 1) := by decide +kernel
theorem dX4_findShortest_129 : decode cX4_findShortest 129 = .ok (.iload_n 3, 1) := by decide +kernel
theorem dX4_findShortest_130 : decode cX4_findShortest 130 = .ok (.iaload, 1) := by decide +kernel
theorem dX4_findShortest_131 : decode cX4_findShortest 131 = .ok (.aload_n 0, 1) := by decide +kernel
theorem dX4_findShortest_132 : decode cX4_findShortest 132 = .ok (.getfield 23, 3) := by decide +kernel
theorem dX4_findShortest_135 : decode cX4_findShortest 135 = .ok (.iload_n 2, 1) := by decide +kernel
theorem dX4_findShortest_136 : decode cX4_findShortest 136 = .ok (.aaload, 1) := by decide +kernel
theorem dX4_findShortest_137 : decode cX4_findShortest 137 = .ok (.iload_n 1, 1) := by decide +kernel
theorem dX4_findShortest_138 : decode cX4_findShortest 138 = .ok (.iaload, 1) := by decide +kernel
theorem dX4_findShortest_139 : decode cX4_findShortest 139 = .ok (.aload_n 0, 1) := by decide +kernel
theorem dX4_findShortest_140 : decode cX4_findShortest 140 = .ok (.getfield 23, 3) := by decide +kernel
theorem dX4_findShortest_143 : decode cX4_findShortest 143 = .ok (.iload_n 1, 1) := by decide +kernel
theorem dX4_findShortest_144 : decode cX4_findShortest 144 = .ok (.aaload, 1) := by decide +kernel
theorem dX4_findShortest_145 : decode cX4_findShortest 145 = .ok (.iload_n 3, 1) := by decide +kernel
theorem dX4_findShortest_146 : decode cX4_findShortest 146 = .ok (.iaload, 1) := by decide +kernel
theorem dX4_findShortest_147 : decode cX4_findShortest 147 = .ok (.iadd, 1) := by decide +kernel
theorem dX4_findShortest_148 : decode cX4_findShortest 148 = .ok (.invokestatic 78, 3) := by decide +kernel
theorem dX4_findShortest_151 : decode cX4_findShortest 151 = .ok (.iastore, 1) := by decide +kernel
theorem dX4_findShortest_152 : decode cX4_findShortest 152 = .ok (.iinc 3 1, 3) := by decide +kernel
theorem dX4_findShortest_155 : decode cX4_findShortest 155 = .ok (.goto (-50), 3) := by decide +kernel
theorem dX4_findShortest_158 : decode cX4_findShortest 158 = .ok (.iinc 2 1, 3) := by decide +kernel
theorem dX4_findShortest_161 : decode cX4_findShortest 161 = .ok (.goto (-69), 3) := by decide +kernel
theorem dX4_findShortest_164 : decode cX4_findShortest 164 = .ok (.iinc 1 1, 3) := by decide +kernel
theorem dX4_findShortest_167 : decode cX4_findShortest 167 = .ok (.goto (-88), 3) := by decide +kernel
theorem dX4_findShortest_170 : decode cX4_findShortest 170 = .ok (.return_, 1) := by decide +kernel
theorem dX4_everyOdd_0 : decode cX4_everyOdd 0 = .ok (.iconst 1, 1) := by decide +kernel
theorem dX4_everyOdd_1 : decode cX4_everyOdd 1 = .ok (.aload_n 0, 1) := by decide +kernel
theorem dX4_everyOdd_2 : decode cX4_everyOdd 2 = .ok (.getfield 30, 3) := by decide +kernel
theorem dX4_everyOdd_5 : decode cX4_everyOdd 5 = .ok (.ishl, 1) := by decide +kernel
theorem dX4_everyOdd_6 : decode cX4_everyOdd 6 = .ok (.iconst 1, 1) := by decide +kernel
theorem dX4_everyOdd_7 : decode cX4_everyOdd 7 = .ok (.isub, 1) := by decide +kernel
theorem dX4_everyOdd_8 : decode cX4_everyOdd 8 = .ok (.ireturn, 1) := by decide +kernel
set_option maxRecDepth 20000 in
theorem ggX4_findLeastSums_X4_everyOdd : GoodIn wsX4_findLeastSums wsX4_everyOdd := goodIn_r _ [6, 7, 36, 37, 38, 39, 40, 41, 42] (by decide +kernel) (by decide +kernel)
set_option maxRecDepth 20000 in
theorem gX4_findLeastSums_X4_everyOdd : GoodIn wsX4_findLeastSums (wsV RX4 64 RX4 yX4_everyOdd wsX4_everyOdd) := goodIn_app (goodIn_of _ (by decide +kernel)) ggX4_findLeastSums_X4_everyOdd
set_option maxRecDepth 20000 in
theorem ggX4_findLeastSums_J6_bitCount_0f7a4 : GoodIn wsX4_findLeastSums wsJ6_bitCount_0f7a4 := goodIn_r _ [11, 12, 13, 14] (by decide +kernel) (by decide +kernel)
set_option maxRecDepth 20000 in
theorem gX4_findLeastSums_J6_bitCount_0f7a4 : GoodIn wsX4_findLeastSums (va_wsS RX4 81 yJ6_bitCount_0f7a4 wsJ6_bitCount_0f7a4) := goodIn_app (goodIn_of _ (by decide +kernel)) ggX4_findLeastSums_J6_bitCount_0f7a4
set_option maxRecDepth 20000 in
theorem ggX4_findLeastSums_X4_bestPartner : GoodIn wsX4_findLeastSums wsX4_bestPartner := goodIn_r _ [18, 19, 7, 20, 21, 5, 22, 23, 24, 10, 25, 26, 27, 28, 29, 30, 31, 32, 1, 33, 34, 35, 36, 37, 38, 39, 40, 41, 42] (by decide +kernel) (by decide +kernel)
set_option maxRecDepth 20000 in
theorem gX4_findLeastSums_X4_bestPartner : GoodIn wsX4_findLeastSums (wsV RX4 87 RX4 yX4_bestPartner wsX4_bestPartner) := goodIn_app (goodIn_of _ (by decide +kernel)) ggX4_findLeastSums_X4_bestPartner
set_option maxRecDepth 20000 in
theorem ggX4_findLeastSums_X4_sumWith : GoodIn wsX4_findLeastSums wsX4_sumWith := goodIn_r _ [30, 7, 31, 32, 1, 20, 21, 5, 22, 23, 24, 10, 25, 26, 33, 34, 35, 36, 37, 38, 39, 40, 41, 42] (by decide +kernel) (by decide +kernel)
set_option maxRecDepth 20000 in
theorem gX4_findLeastSums_X4_sumWith : GoodIn wsX4_findLeastSums (wsV RX4 90 RX4 yX4_sumWith wsX4_sumWith) := goodIn_app (goodIn_of _ (by decide +kernel)) ggX4_findLeastSums_X4_sumWith
theorem dX4_findLeastSums_0 : decode cX4_findLeastSums 0 = .ok (.aload_n 0, 1) := by decide +kernel
theorem dX4_findLeastSums_1 : decode cX4_findLeastSums 1 = .ok (.getfield 33, 3) := by decide +kernel
theorem dX4_findLeastSums_4 : decode cX4_findLeastSums 4 = .ok (.iconst 0, 1) := by decide +kernel
theorem dX4_findLeastSums_5 : decode cX4_findLeastSums 5 = .ok (.iconst 0, 1) := by decide +kernel
theorem dX4_findLeastSums_6 : decode cX4_findLeastSums 6 = .ok (.iastore, 1) := by decide +kernel
theorem dX4_findLeastSums_7 : decode cX4_findLeastSums 7 = .ok (.iconst 1, 1) := by decide +kernel
theorem dX4_findLeastSums_8 : decode cX4_findLeastSums 8 = .ok (.istore_n 1, 1) := by decide +kernel
theorem dX4_findLeastSums_9 : decode cX4_findLeastSums 9 = .ok (.iload_n 1, 1) := by decide +kernel
theorem dX4_findLeastSums_10 : decode cX4_findLeastSums 10 = .ok (.aload_n 0, 1) := by decide +kernel
theorem dX4_findLeastSums_11 : decode cX4_findLeastSums 11 = .ok (.invokevirtual 64, 3) := by decide +kernel
theorem dX4_findLeastSums_14 : decode cX4_findLeastSums 14 = .ok (.if_icmp .gt 36, 3) := by decide +kernel
theorem dX4_findLeastSums_17 : decode cX4_findLeastSums 17 = .ok (.iload_n 1, 1) := by decide +kernel
theorem dX4_findLeastSums_18 : decode cX4_findLeastSums 18 = .ok (.invokestatic 81, 3) := by decide +kernel
theorem dX4_findLeastSums_21 : decode cX4_findLeastSums 21 = .ok (.iconst 1, 1) := by decide +kernel
theorem dX4_findLeastSums_22 : decode cX4_findLeastSums 22 = .ok (.iand, 1) := by decide +kernel
theorem dX4_findLeastSums_23 : decode cX4_findLeastSums 23 = .ok (.ifCond .ne 21, 3) := by decide +kernel
theorem dX4_findLeastSums_26 : decode cX4_findLeastSums 26 = .ok (.aload_n 0, 1) := by decide +kernel
theorem dX4_findLeastSums_27 : decode cX4_findLeastSums 27 = .ok (.getfield 33, 3) := by decide +kernel
theorem dX4_findLeastSums_30 : decode cX4_findLeastSums 30 = .ok (.iload_n 1, 1) := by decide +kernel
theorem dX4_findLeastSums_31 : decode cX4_findLeastSums 31 = .ok (.iconst 1, 1) := by decide +kernel
theorem dX4_findLeastSums_32 : decode cX4_findLeastSums 32 = .ok (.ishr, 1) := by decide +kernel
theorem dX4_findLeastSums_33 : decode cX4_findLeastSums 33 = .ok (.aload_n 0, 1) := by decide +kernel
theorem dX4_findLeastSums_34 : decode cX4_findLeastSums 34 = .ok (.iload_n 1, 1) := by decide +kernel
theorem dX4_findLeastSums_35 : decode cX4_findLeastSums 35 = .ok (.aload_n 0, 1) := by decide +kernel
theorem dX4_findLeastSums_36 : decode cX4_findLeastSums 36 = .ok (.iload_n 1, 1) := by decide +kernel
theorem dX4_findLeastSums_37 : decode cX4_findLeastSums 37 = .ok (.invokevirtual 87, 3) := by decide +kernel
theorem dX4_findLeastSums_40 : decode cX4_findLeastSums 40 = .ok (.invokevirtual 90, 3) := by decide +kernel
theorem dX4_findLeastSums_43 : decode cX4_findLeastSums 43 = .ok (.iastore, 1) := by decide +kernel
theorem dX4_findLeastSums_44 : decode cX4_findLeastSums 44 = .ok (.iinc 1 1, 3) := by decide +kernel
theorem dX4_findLeastSums_47 : decode cX4_findLeastSums 47 = .ok (.goto (-38), 3) := by decide +kernel
theorem dX4_findLeastSums_50 : decode cX4_findLeastSums 50 = .ok (.return_, 1) := by decide +kernel
set_option maxRecDepth 20000 in
theorem ggX4_bestPartner_X4_firstOf : GoodIn wsX4_bestPartner wsX4_firstOf := goodIn_r _ [6, 7, 8, 9, 10, 11] (by decide +kernel) (by decide +kernel)
set_option maxRecDepth 20000 in
theorem gX4_bestPartner_X4_firstOf : GoodIn wsX4_bestPartner (va_wsS RX4 94 yX4_firstOf wsX4_firstOf) := goodIn_app (goodIn_of _ (by decide +kernel)) ggX4_bestPartner_X4_firstOf
set_option maxRecDepth 20000 in
theorem ggX4_bestPartner_X4_sumWith : GoodIn wsX4_bestPartner wsX4_sumWith := goodIn_r _ [15, 2, 16, 17, 18, 3, 4, 5, 6, 7, 8, 9, 10, 11, 19, 20, 21, 22, 23, 24, 25, 26, 27, 28] (by decide +kernel) (by decide +kernel)
set_option maxRecDepth 20000 in
theorem gX4_bestPartner_X4_sumWith : GoodIn wsX4_bestPartner (wsV RX4 90 RX4 yX4_sumWith wsX4_sumWith) := goodIn_app (goodIn_of _ (by decide +kernel)) ggX4_bestPartner_X4_sumWith
theorem dX4_bestPartner_0 : decode cX4_bestPartner 0 = .ok (.iconst (-1), 1) := by decide +kernel
theorem dX4_bestPartner_1 : decode cX4_bestPartner 1 = .ok (.istore_n 2, 1) := by decide +kernel
theorem dX4_bestPartner_2 : decode cX4_bestPartner 2 = .ok (.ldc 93, 2) := by decide +kernel
theorem dX4_bestPartner_4 : decode cX4_bestPartner 4 = .ok (.istore_n 3, 1) := by decide +kernel
theorem dX4_bestPartner_5 : decode cX4_bestPartner 5 = .ok (.iload_n 1, 1) := by decide +kernel
theorem dX4_bestPartner_6 : decode cX4_bestPartner 6 = .ok (.invokestatic 94, 3) := by decide +kernel
theorem dX4_bestPartner_9 : decode cX4_bestPartner 9 = .ok (.iconst 1, 1) := by decide +kernel
theorem dX4_bestPartner_10 : decode cX4_bestPartner 10 = .ok (.iadd, 1) := by decide +kernel
theorem dX4_bestPartner_11 : decode cX4_bestPartner 11 = .ok (.istore 4, 2) := by decide +kernel
theorem dX4_bestPartner_13 : decode cX4_bestPartner 13 = .ok (.iload 4, 2) := by decide +kernel
theorem dX4_bestPartner_15 : decode cX4_bestPartner 15 = .ok (.aload_n 0, 1) := by decide +kernel
theorem dX4_bestPartner_16 : decode cX4_bestPartner 16 = .ok (.getfield 30, 3) := by decide +kernel
theorem dX4_bestPartner_19 : decode cX4_bestPartner 19 = .ok (.if_icmp .ge 40, 3) := by decide +kernel
theorem dX4_bestPartner_22 : decode cX4_bestPartner 22 = .ok (.iload_n 1, 1) := by decide +kernel
theorem dX4_bestPartner_23 : decode cX4_bestPartner 23 = .ok (.iload 4, 2) := by decide +kernel
theorem dX4_bestPartner_25 : decode cX4_bestPartner 25 = .ok (.ishr, 1) := by decide +kernel
theorem dX4_bestPartner_26 : decode cX4_bestPartner 26 = .ok (.iconst 1, 1) := by decide +kernel
theorem dX4_bestPartner_27 : decode cX4_bestPartner 27 = .ok (.iand, 1) := by decide +kernel
theorem dX4_bestPartner_28 : decode cX4_bestPartner 28 = .ok (.ifCond .eq 25, 3) := by decide +kernel
theorem dX4_bestPartner_31 : decode cX4_bestPartner 31 = .ok (.aload_n 0, 1) := by decide +kernel
theorem dX4_bestPartner_32 : decode cX4_bestPartner 32 = .ok (.iload_n 1, 1) := by decide +kernel
theorem dX4_bestPartner_33 : decode cX4_bestPartner 33 = .ok (.iload 4, 2) := by decide +kernel
theorem dX4_bestPartner_35 : decode cX4_bestPartner 35 = .ok (.invokevirtual 90, 3) := by decide +kernel
theorem dX4_bestPartner_38 : decode cX4_bestPartner 38 = .ok (.iload_n 3, 1) := by decide +kernel
theorem dX4_bestPartner_39 : decode cX4_bestPartner 39 = .ok (.if_icmp .ge 14, 3) := by decide +kernel
theorem dX4_bestPartner_42 : decode cX4_bestPartner 42 = .ok (.aload_n 0, 1) := by decide +kernel
theorem dX4_bestPartner_43 : decode cX4_bestPartner 43 = .ok (.iload_n 1, 1) := by decide +kernel
theorem dX4_bestPartner_44 : decode cX4_bestPartner 44 = .ok (.iload 4, 2) := by decide +kernel
theorem dX4_bestPartner_46 : decode cX4_bestPartner 46 = .ok (.invokevirtual 90, 3) := by decide +kernel
theorem dX4_bestPartner_49 : decode cX4_bestPartner 49 = .ok (.istore_n 3, 1) := by decide +kernel
theorem dX4_bestPartner_50 : decode cX4_bestPartner 50 = .ok (.iload 4, 2) := by decide +kernel
theorem dX4_bestPartner_52 : decode cX4_bestPartner 52 = .ok (.istore_n 2, 1) := by decide +kernel
theorem dX4_bestPartner_53 : decode cX4_bestPartner 53 = .ok (.iinc 4 1, 3) := by decide +kernel
theorem dX4_bestPartner_56 : decode cX4_bestPartner 56 = .ok (.goto (-43), 3) := by decide +kernel
theorem dX4_bestPartner_59 : decode cX4_bestPartner 59 = .ok (.iload_n 2, 1) := by decide +kernel
theorem dX4_bestPartner_60 : decode cX4_bestPartner 60 = .ok (.ireturn, 1) := by decide +kernel
set_option maxRecDepth 20000 in
theorem ggX4_sumWith_X4_firstOf : GoodIn wsX4_sumWith wsX4_firstOf := goodIn_r _ [8, 9, 10, 11, 12, 13] (by decide +kernel) (by decide +kernel)
set_option maxRecDepth 20000 in
theorem gX4_sumWith_X4_firstOf : GoodIn wsX4_sumWith (va_wsS RX4 94 yX4_firstOf wsX4_firstOf) := goodIn_app (goodIn_of _ (by decide +kernel)) ggX4_sumWith_X4_firstOf
set_option maxRecDepth 20000 in
theorem ggX4_sumWith_X4_without : GoodIn wsX4_sumWith wsX4_without := goodIn_r _ [16, 5, 6, 7, 8, 9, 10, 11, 12, 13] (by decide +kernel) (by decide +kernel)
set_option maxRecDepth 20000 in
theorem gX4_sumWith_X4_without : GoodIn wsX4_sumWith (va_wsS RX4 97 yX4_without wsX4_without) := goodIn_app (goodIn_of _ (by decide +kernel)) ggX4_sumWith_X4_without
theorem dX4_sumWith_0 : decode cX4_sumWith 0 = .ok (.iload_n 1, 1) := by decide +kernel
theorem dX4_sumWith_1 : decode cX4_sumWith 1 = .ok (.invokestatic 94, 3) := by decide +kernel
theorem dX4_sumWith_4 : decode cX4_sumWith 4 = .ok (.istore_n 3, 1) := by decide +kernel
theorem dX4_sumWith_5 : decode cX4_sumWith 5 = .ok (.iload_n 3, 1) := by decide +kernel
theorem dX4_sumWith_6 : decode cX4_sumWith 6 = .ok (.aload_n 0, 1) := by decide +kernel
theorem dX4_sumWith_7 : decode cX4_sumWith 7 = .ok (.getfield 30, 3) := by decide +kernel
theorem dX4_sumWith_10 : decode cX4_sumWith 10 = .ok (.if_icmp .ge 15, 3) := by decide +kernel
theorem dX4_sumWith_13 : decode cX4_sumWith 13 = .ok (.iload_n 2, 1) := by decide +kernel
theorem dX4_sumWith_14 : decode cX4_sumWith 14 = .ok (.ifCond .lt 11, 3) := by decide +kernel
theorem dX4_sumWith_17 : decode cX4_sumWith 17 = .ok (.iload_n 2, 1) := by decide +kernel
theorem dX4_sumWith_18 : decode cX4_sumWith 18 = .ok (.aload_n 0, 1) := by decide +kernel
theorem dX4_sumWith_19 : decode cX4_sumWith 19 = .ok (.getfield 30, 3) := by decide +kernel
theorem dX4_sumWith_22 : decode cX4_sumWith 22 = .ok (.if_icmp .lt 5, 3) := by decide +kernel
theorem dX4_sumWith_25 : decode cX4_sumWith 25 = .ok (.iconst 0, 1) := by decide +kernel
theorem dX4_sumWith_26 : decode cX4_sumWith 26 = .ok (.ireturn, 1) := by decide +kernel
theorem dX4_sumWith_27 : decode cX4_sumWith 27 = .ok (.aload_n 0, 1) := by decide +kernel
theorem dX4_sumWith_28 : decode cX4_sumWith 28 = .ok (.getfield 23, 3) := by decide +kernel
theorem dX4_sumWith_31 : decode cX4_sumWith 31 = .ok (.aload_n 0, 1) := by decide +kernel
theorem dX4_sumWith_32 : decode cX4_sumWith 32 = .ok (.getfield 26, 3) := by decide +kernel
theorem dX4_sumWith_35 : decode cX4_sumWith 35 = .ok (.iload_n 3, 1) := by decide +kernel
theorem dX4_sumWith_36 : decode cX4_sumWith 36 = .ok (.iaload, 1) := by decide +kernel
theorem dX4_sumWith_37 : decode cX4_sumWith 37 = .ok (.aaload, 1) := by decide +kernel
theorem dX4_sumWith_38 : decode cX4_sumWith 38 = .ok (.aload_n 0, 1) := by decide +kernel
theorem dX4_sumWith_39 : decode cX4_sumWith 39 = .ok (.getfield 26, 3) := by decide +kernel
theorem dX4_sumWith_42 : decode cX4_sumWith 42 = .ok (.iload_n 2, 1) := by decide +kernel
theorem dX4_sumWith_43 : decode cX4_sumWith 43 = .ok (.iaload, 1) := by decide +kernel
theorem dX4_sumWith_44 : decode cX4_sumWith 44 = .ok (.iaload, 1) := by decide +kernel
theorem dX4_sumWith_45 : decode cX4_sumWith 45 = .ok (.aload_n 0, 1) := by decide +kernel
theorem dX4_sumWith_46 : decode cX4_sumWith 46 = .ok (.getfield 33, 3) := by decide +kernel
theorem dX4_sumWith_49 : decode cX4_sumWith 49 = .ok (.iload_n 1, 1) := by decide +kernel
theorem dX4_sumWith_50 : decode cX4_sumWith 50 = .ok (.iload_n 2, 1) := by decide +kernel
theorem dX4_sumWith_51 : decode cX4_sumWith 51 = .ok (.invokestatic 97, 3) := by decide +kernel
theorem dX4_sumWith_54 : decode cX4_sumWith 54 = .ok (.iconst 1, 1) := by decide +kernel
theorem dX4_sumWith_55 : decode cX4_sumWith 55 = .ok (.ishr, 1) := by decide +kernel
theorem dX4_sumWith_56 : decode cX4_sumWith 56 = .ok (.iaload, 1) := by decide +kernel
theorem dX4_sumWith_57 : decode cX4_sumWith 57 = .ok (.iadd, 1) := by decide +kernel
theorem dX4_sumWith_58 : decode cX4_sumWith 58 = .ok (.ireturn, 1) := by decide +kernel
set_option maxRecDepth 20000 in
theorem ggX4_firstOf_J6_numberOfTrailingZeros_0f7a4 : GoodIn wsX4_firstOf wsJ6_numberOfTrailingZeros_0f7a4 := goodIn_r _ [4, 5] (by decide +kernel) (by decide +kernel)
set_option maxRecDepth 20000 in
theorem gX4_firstOf_J6_numberOfTrailingZeros_0f7a4 : GoodIn wsX4_firstOf (va_wsS RX4 100 yJ6_numberOfTrailingZeros_0f7a4 wsJ6_numberOfTrailingZeros_0f7a4) := goodIn_app (goodIn_of _ (by decide +kernel)) ggX4_firstOf_J6_numberOfTrailingZeros_0f7a4
theorem dX4_firstOf_0 : decode cX4_firstOf 0 = .ok (.iload_n 0, 1) := by decide +kernel
theorem dX4_firstOf_1 : decode cX4_firstOf 1 = .ok (.invokestatic 100, 3) := by decide +kernel
theorem dX4_firstOf_4 : decode cX4_firstOf 4 = .ok (.ireturn, 1) := by decide +kernel
set_option maxRecDepth 20000 in
theorem ggX4_without_X4_firstOf : GoodIn wsX4_without wsX4_firstOf := goodIn_r _ [4, 5, 6, 7, 8, 9] (by decide +kernel) (by decide +kernel)
set_option maxRecDepth 20000 in
theorem gX4_without_X4_firstOf : GoodIn wsX4_without (va_wsS RX4 94 yX4_firstOf wsX4_firstOf) := goodIn_app (goodIn_of _ (by decide +kernel)) ggX4_without_X4_firstOf
theorem dX4_without_0 : decode cX4_without 0 = .ok (.iload_n 0, 1) := by decide +kernel
theorem dX4_without_1 : decode cX4_without 1 = .ok (.iconst 1, 1) := by decide +kernel
theorem dX4_without_2 : decode cX4_without 2 = .ok (.iload_n 0, 1) := by decide +kernel
theorem dX4_without_3 : decode cX4_without 3 = .ok (.invokestatic 94, 3) := by decide +kernel
theorem dX4_without_6 : decode cX4_without 6 = .ok (.ishl, 1) := by decide +kernel
theorem dX4_without_7 : decode cX4_without 7 = .ok (.iconst (-1), 1) := by decide +kernel
theorem dX4_without_8 : decode cX4_without 8 = .ok (.ixor, 1) := by decide +kernel
theorem dX4_without_9 : decode cX4_without 9 = .ok (.iand, 1) := by decide +kernel
theorem dX4_without_10 : decode cX4_without 10 = .ok (.iconst 1, 1) := by decide +kernel
theorem dX4_without_11 : decode cX4_without 11 = .ok (.iload_n 1, 1) := by decide +kernel
theorem dX4_without_12 : decode cX4_without 12 = .ok (.ishl, 1) := by decide +kernel
theorem dX4_without_13 : decode cX4_without 13 = .ok (.iconst (-1), 1) := by decide +kernel
theorem dX4_without_14 : decode cX4_without 14 = .ok (.ixor, 1) := by decide +kernel
theorem dX4_without_15 : decode cX4_without 15 = .ok (.iand, 1) := by decide +kernel
theorem dX4_without_16 : decode cX4_without 16 = .ok (.ireturn, 1) := by decide +kernel
set_option maxRecDepth 20000 in
theorem ggX4_keepPairs_X4_everyOdd : GoodIn wsX4_keepPairs wsX4_everyOdd := goodIn_r _ [9, 2, 32, 33, 34, 35, 36, 37, 38] (by decide +kernel) (by decide +kernel)
set_option maxRecDepth 20000 in
theorem gX4_keepPairs_X4_everyOdd : GoodIn wsX4_keepPairs (wsV RX4 64 RX4 yX4_everyOdd wsX4_everyOdd) := goodIn_app (goodIn_of _ (by decide +kernel)) ggX4_keepPairs_X4_everyOdd
set_option maxRecDepth 20000 in
theorem ggX4_keepPairs_X4_firstOf : GoodIn wsX4_keepPairs wsX4_firstOf := goodIn_r _ [12, 13, 14, 15, 16, 17] (by decide +kernel) (by decide +kernel)
set_option maxRecDepth 20000 in
theorem gX4_keepPairs_X4_firstOf : GoodIn wsX4_keepPairs (va_wsS RX4 94 yX4_firstOf wsX4_firstOf) := goodIn_app (goodIn_of _ (by decide +kernel)) ggX4_keepPairs_X4_firstOf
set_option maxRecDepth 20000 in
theorem ggX4_keepPairs_X4_bestPartner : GoodIn wsX4_keepPairs wsX4_bestPartner := goodIn_r _ [21, 22, 2, 10, 11, 8, 12, 13, 14, 15, 16, 17, 23, 24, 25, 26, 27, 4, 28, 29, 30, 31, 32, 33, 34, 35, 36, 37, 38] (by decide +kernel) (by decide +kernel)
set_option maxRecDepth 20000 in
theorem gX4_keepPairs_X4_bestPartner : GoodIn wsX4_keepPairs (wsV RX4 87 RX4 yX4_bestPartner wsX4_bestPartner) := goodIn_app (goodIn_of _ (by decide +kernel)) ggX4_keepPairs_X4_bestPartner
set_option maxRecDepth 20000 in
theorem ggX4_keepPairs_X4_without : GoodIn wsX4_keepPairs wsX4_without := goodIn_r _ [31, 10, 11, 8, 12, 13, 14, 15, 16, 17] (by decide +kernel) (by decide +kernel)
set_option maxRecDepth 20000 in
theorem gX4_keepPairs_X4_without : GoodIn wsX4_keepPairs (va_wsS RX4 97 yX4_without wsX4_without) := goodIn_app (goodIn_of _ (by decide +kernel)) ggX4_keepPairs_X4_without
theorem dX4_keepPairs_0 : decode cX4_keepPairs 0 = .ok (.aload_n 0, 1) := by decide +kernel
theorem dX4_keepPairs_1 : decode cX4_keepPairs 1 = .ok (.iconst 0, 1) := by decide +kernel
theorem dX4_keepPairs_2 : decode cX4_keepPairs 2 = .ok (.putfield 39, 3) := by decide +kernel
theorem dX4_keepPairs_5 : decode cX4_keepPairs 5 = .ok (.aload_n 0, 1) := by decide +kernel
theorem dX4_keepPairs_6 : decode cX4_keepPairs 6 = .ok (.invokevirtual 64, 3) := by decide +kernel
theorem dX4_keepPairs_9 : decode cX4_keepPairs 9 = .ok (.istore_n 1, 1) := by decide +kernel
theorem dX4_keepPairs_10 : decode cX4_keepPairs 10 = .ok (.iconst 0, 1) := by decide +kernel
theorem dX4_keepPairs_11 : decode cX4_keepPairs 11 = .ok (.istore_n 2, 1) := by decide +kernel
theorem dX4_keepPairs_12 : decode cX4_keepPairs 12 = .ok (.iload_n 2, 1) := by decide +kernel
theorem dX4_keepPairs_13 : decode cX4_keepPairs 13 = .ok (.iconst 1, 1) := by decide +kernel
theorem dX4_keepPairs_14 : decode cX4_keepPairs 14 = .ok (.iadd, 1) := by decide +kernel
theorem dX4_keepPairs_15 : decode cX4_keepPairs 15 = .ok (.aload_n 0, 1) := by decide +kernel
theorem dX4_keepPairs_16 : decode cX4_keepPairs 16 = .ok (.getfield 30, 3) := by decide +kernel
theorem dX4_keepPairs_19 : decode cX4_keepPairs 19 = .ok (.if_icmp .ge 82, 3) := by decide +kernel
theorem dX4_keepPairs_22 : decode cX4_keepPairs 22 = .ok (.iload_n 1, 1) := by decide +kernel
theorem dX4_keepPairs_23 : decode cX4_keepPairs 23 = .ok (.invokestatic 94, 3) := by decide +kernel
theorem dX4_keepPairs_26 : decode cX4_keepPairs 26 = .ok (.istore_n 3, 1) := by decide +kernel
theorem dX4_keepPairs_27 : decode cX4_keepPairs 27 = .ok (.aload_n 0, 1) := by decide +kernel
theorem dX4_keepPairs_28 : decode cX4_keepPairs 28 = .ok (.iload_n 1, 1) := by decide +kernel
theorem dX4_keepPairs_29 : decode cX4_keepPairs 29 = .ok (.invokevirtual 87, 3) := by decide +kernel
theorem dX4_keepPairs_32 : decode cX4_keepPairs 32 = .ok (.istore 4, 2) := by decide +kernel
theorem dX4_keepPairs_34 : decode cX4_keepPairs 34 = .ok (.iload_n 3, 1) := by decide +kernel
theorem dX4_keepPairs_35 : decode cX4_keepPairs 35 = .ok (.aload_n 0, 1) := by decide +kernel
theorem dX4_keepPairs_36 : decode cX4_keepPairs 36 = .ok (.getfield 30, 3) := by decide +kernel
theorem dX4_keepPairs_39 : decode cX4_keepPairs 39 = .ok (.if_icmp .ge 62, 3) := by decide +kernel
theorem dX4_keepPairs_42 : decode cX4_keepPairs 42 = .ok (.iload 4, 2) := by decide +kernel
theorem dX4_keepPairs_44 : decode cX4_keepPairs 44 = .ok (.iconst (-1), 1) := by decide +kernel
theorem dX4_keepPairs_45 : decode cX4_keepPairs 45 = .ok (.if_icmp .ne 6, 3) := by decide +kernel
theorem dX4_keepPairs_48 : decode cX4_keepPairs 48 = .ok (.goto 53, 3) := by decide +kernel
theorem dX4_keepPairs_51 : decode cX4_keepPairs 51 = .ok (.aload_n 0, 1) := by decide +kernel
theorem dX4_keepPairs_52 : decode cX4_keepPairs 52 = .ok (.getfield 36, 3) := by decide +kernel
theorem dX4_keepPairs_55 : decode cX4_keepPairs 55 = .ok (.iload_n 2, 1) := by decide +kernel
theorem dX4_keepPairs_56 : decode cX4_keepPairs 56 = .ok (.aload_n 0, 1) := by decide +kernel
theorem dX4_keepPairs_57 : decode cX4_keepPairs 57 = .ok (.getfield 26, 3) := by decide +kernel
theorem dX4_keepPairs_60 : decode cX4_keepPairs 60 = .ok (.iload_n 3, 1) := by decide +kernel
theorem dX4_keepPairs_61 : decode cX4_keepPairs 61 = .ok (.iaload, 1) := by decide +kernel
theorem dX4_keepPairs_62 : decode cX4_keepPairs 62 = .ok (.iastore, 1) := by decide +kernel
theorem dX4_keepPairs_63 : decode cX4_keepPairs 63 = .ok (.aload_n 0, 1) := by decide +kernel
theorem dX4_keepPairs_64 : decode cX4_keepPairs 64 = .ok (.getfield 36, 3) := by decide +kernel
theorem dX4_keepPairs_67 : decode cX4_keepPairs 67 = .ok (.iload_n 2, 1) := by decide +kernel
theorem dX4_keepPairs_68 : decode cX4_keepPairs 68 = .ok (.iconst 1, 1) := by decide +kernel
theorem dX4_keepPairs_69 : decode cX4_keepPairs 69 = .ok (.iadd, 1) := by decide +kernel
theorem dX4_keepPairs_70 : decode cX4_keepPairs 70 = .ok (.aload_n 0, 1) := by decide +kernel
theorem dX4_keepPairs_71 : decode cX4_keepPairs 71 = .ok (.getfield 26, 3) := by decide +kernel
theorem dX4_keepPairs_74 : decode cX4_keepPairs 74 = .ok (.iload 4, 2) := by decide +kernel
theorem dX4_keepPairs_76 : decode cX4_keepPairs 76 = .ok (.iaload, 1) := by decide +kernel
theorem dX4_keepPairs_77 : decode cX4_keepPairs 77 = .ok (.iastore, 1) := by decide +kernel
theorem dX4_keepPairs_78 : decode cX4_keepPairs 78 = .ok (.aload_n 0, 1) := by decide +kernel
theorem dX4_keepPairs_79 : decode cX4_keepPairs 79 = .ok (.dup, 1) := by decide +kernel
theorem dX4_keepPairs_80 : decode cX4_keepPairs 80 = .ok (.getfield 39, 3) := by decide +kernel
theorem dX4_keepPairs_83 : decode cX4_keepPairs 83 = .ok (.iconst 1, 1) := by decide +kernel
theorem dX4_keepPairs_84 : decode cX4_keepPairs 84 = .ok (.iadd, 1) := by decide +kernel
theorem dX4_keepPairs_85 : decode cX4_keepPairs 85 = .ok (.putfield 39, 3) := by decide +kernel
theorem dX4_keepPairs_88 : decode cX4_keepPairs 88 = .ok (.iload_n 1, 1) := by decide +kernel
theorem dX4_keepPairs_89 : decode cX4_keepPairs 89 = .ok (.iload 4, 2) := by decide +kernel
theorem dX4_keepPairs_91 : decode cX4_keepPairs 91 = .ok (.invokestatic 97, 3) := by decide +kernel
theorem dX4_keepPairs_94 : decode cX4_keepPairs 94 = .ok (.istore_n 1, 1) := by decide +kernel
theorem dX4_keepPairs_95 : decode cX4_keepPairs 95 = .ok (.iinc 2 2, 3) := by decide +kernel
theorem dX4_keepPairs_98 : decode cX4_keepPairs 98 = .ok (.goto (-86), 3) := by decide +kernel
theorem dX4_keepPairs_101 : decode cX4_keepPairs 101 = .ok (.return_, 1) := by decide +kernel
theorem dX5_init_0 : decode cX5_init 0 = .ok (.aload_n 0, 1) := by decide +kernel
theorem dX5_init_1 : decode cX5_init 1 = .ok (.invokespecial 3, 3) := by decide +kernel
theorem dX5_init_4 : decode cX5_init 4 = .ok (.aload_n 0, 1) := by decide +kernel
theorem dX5_init_5 : decode cX5_init 5 = .ok (.aload_n 1, 1) := by decide +kernel
theorem dX5_init_6 : decode cX5_init 6 = .ok (.putfield 9, 3) := by decide +kernel
theorem dX5_init_9 : decode cX5_init 9 = .ok (.aload_n 0, 1) := by decide +kernel
theorem dX5_init_10 : decode cX5_init 10 = .ok (.aload_n 1, 1) := by decide +kernel
theorem dX5_init_11 : decode cX5_init 11 = .ok (.getfield 15, 3) := by decide +kernel
theorem dX5_init_14 : decode cX5_init 14 = .ok (.aload_n 1, 1) := by decide +kernel
theorem dX5_init_15 : decode cX5_init 15 = .ok (.getfield 15, 3) := by decide +kernel
theorem dX5_init_18 : decode cX5_init 18 = .ok (.multianewarray 21 2, 4) := by decide +kernel
theorem dX5_init_22 : decode cX5_init 22 = .ok (.putfield 23, 3) := by decide +kernel
theorem dX5_init_25 : decode cX5_init 25 = .ok (.aload_n 0, 1) := by decide +kernel
theorem dX5_init_26 : decode cX5_init 26 = .ok (.aload_n 1, 1) := by decide +kernel
theorem dX5_init_27 : decode cX5_init 27 = .ok (.getfield 15, 3) := by decide +kernel
theorem dX5_init_30 : decode cX5_init 30 = .ok (.newarray .int, 2) := by decide +kernel
theorem dX5_init_32 : decode cX5_init 32 = .ok (.putfield 26, 3) := by decide +kernel
theorem dX5_init_35 : decode cX5_init 35 = .ok (.aload_n 0, 1) := by decide +kernel
theorem dX5_init_36 : decode cX5_init 36 = .ok (.aload_n 1, 1) := by decide +kernel
theorem dX5_init_37 : decode cX5_init 37 = .ok (.getfield 15, 3) := by decide +kernel
theorem dX5_init_40 : decode cX5_init 40 = .ok (.newarray .long, 2) := by decide +kernel
theorem dX5_init_42 : decode cX5_init 42 = .ok (.putfield 30, 3) := by decide +kernel
theorem dX5_init_45 : decode cX5_init 45 = .ok (.aload_n 0, 1) := by decide +kernel
theorem dX5_init_46 : decode cX5_init 46 = .ok (.aload_n 1, 1) := by decide +kernel
theorem dX5_init_47 : decode cX5_init 47 = .ok (.getfield 15, 3) := by decide +kernel
theorem dX5_init_50 : decode cX5_init 50 = .ok (.newarray .int, 2) := by decide +kernel
theorem dX5_init_52 : decode cX5_init 52 = .ok (.putfield 34, 3) := by decide +kernel
theorem dX5_init_55 : decode cX5_init 55 = .ok (.return_, 1) := by decide +kernel
set_option maxRecDepth 20000 in
theorem ggX5_leastWay_X3_waysLeadFromEachToEach : GoodIn wsX5_leastWay wsX3_waysLeadFromEachToEach := goodIn_r _ [8, 9, 10, 11, 12, 7, 13, 14, 15, 16, 17, 18, 19, 20, 21, 22, 23, 62, 63, 64] (by decide +kernel) (by decide +kernel)
set_option maxRecDepth 20000 in
theorem gX5_leastWay_X3_waysLeadFromEachToEach : GoodIn wsX5_leastWay (wsV RX5 37 RX3 yX3_waysLeadFromEachToEach wsX3_waysLeadFromEachToEach) := goodIn_app (goodIn_of _ (by decide +kernel)) ggX5_leastWay_X3_waysLeadFromEachToEach
set_option maxRecDepth 20000 in
theorem ggX5_leastWay_X5_goEachOnce : GoodIn wsX5_leastWay wsX5_goEachOnce := goodIn_r _ [28, 29, 1, 30, 31, 32, 33, 34, 57, 58, 59, 60, 61, 62, 63, 64] (by decide +kernel) (by decide +kernel)
set_option maxRecDepth 20000 in
theorem gX5_leastWay_X5_goEachOnce : GoodIn wsX5_leastWay (wsV RX5 43 RX5 yX5_goEachOnce wsX5_goEachOnce) := goodIn_app (goodIn_of _ (by decide +kernel)) ggX5_leastWay_X5_goEachOnce
set_option maxRecDepth 20000 in
theorem ggX5_leastWay_X5_findCosts : GoodIn wsX5_leastWay wsX5_findCosts := goodIn_r _ [38, 1, 3, 29, 39, 40, 41, 42, 43, 27, 44, 45, 46, 47, 48, 30, 57, 58, 59, 60, 61, 62, 63, 64] (by decide +kernel) (by decide +kernel)
set_option maxRecDepth 20000 in
theorem gX5_leastWay_X5_findCosts : GoodIn wsX5_leastWay (wsV RX5 47 RX5 yX5_findCosts wsX5_findCosts) := goodIn_app (goodIn_of _ (by decide +kernel)) ggX5_leastWay_X5_findCosts
set_option maxRecDepth 20000 in
theorem ggX5_leastWay_X5_cheapestEnd : GoodIn wsX5_leastWay wsX5_cheapestEnd := goodIn_r _ [52, 1, 29, 3, 39, 57, 58, 59, 60, 61, 62, 63, 64] (by decide +kernel) (by decide +kernel)
set_option maxRecDepth 20000 in
theorem gX5_leastWay_X5_cheapestEnd : GoodIn wsX5_leastWay (wsV RX5 50 RX5 yX5_cheapestEnd wsX5_cheapestEnd) := goodIn_app (goodIn_of _ (by decide +kernel)) ggX5_leastWay_X5_cheapestEnd
set_option maxRecDepth 20000 in
theorem ggX5_leastWay_X5_goTo : GoodIn wsX5_leastWay wsX5_goTo := goodIn_r _ [56, 1, 40, 30, 29, 57, 58, 59, 60, 61, 62, 63, 64] (by decide +kernel) (by decide +kernel)
set_option maxRecDepth 20000 in
theorem gX5_leastWay_X5_goTo : GoodIn wsX5_leastWay (wsV RX5 54 RX5 yX5_goTo wsX5_goTo) := goodIn_app (goodIn_of _ (by decide +kernel)) ggX5_leastWay_X5_goTo
theorem dX5_leastWay_0 : decode cX5_leastWay 0 = .ok (.aload_n 0, 1) := by decide +kernel
theorem dX5_leastWay_1 : decode cX5_leastWay 1 = .ok (.getfield 9, 3) := by decide +kernel
theorem dX5_leastWay_4 : decode cX5_leastWay 4 = .ok (.invokevirtual 37, 3) := by decide +kernel
theorem dX5_leastWay_7 : decode cX5_leastWay 7 = .ok (.ifCond .ne 7, 3) := by decide +kernel
theorem dX5_leastWay_10 : decode cX5_leastWay 10 = .ok (.ldc2_w 41, 3) := by decide +kernel
theorem dX5_leastWay_13 : decode cX5_leastWay 13 = .ok (.lreturn, 1) := by decide +kernel
theorem dX5_leastWay_14 : decode cX5_leastWay 14 = .ok (.aload_n 0, 1) := by decide +kernel
theorem dX5_leastWay_15 : decode cX5_leastWay 15 = .ok (.invokevirtual 43, 3) := by decide +kernel
theorem dX5_leastWay_18 : decode cX5_leastWay 18 = .ok (.lstore_n 1, 1) := by decide +kernel
theorem dX5_leastWay_19 : decode cX5_leastWay 19 = .ok (.aload_n 0, 1) := by decide +kernel
theorem dX5_leastWay_20 : decode cX5_leastWay 20 = .ok (.getfield 9, 3) := by decide +kernel
theorem dX5_leastWay_23 : decode cX5_leastWay 23 = .ok (.getfield 15, 3) := by decide +kernel
theorem dX5_leastWay_26 : decode cX5_leastWay 26 = .ok (.aload_n 0, 1) := by decide +kernel
theorem dX5_leastWay_27 : decode cX5_leastWay 27 = .ok (.getfield 9, 3) := by decide +kernel
theorem dX5_leastWay_30 : decode cX5_leastWay 30 = .ok (.getfield 15, 3) := by decide +kernel
theorem dX5_leastWay_33 : decode cX5_leastWay 33 = .ok (.imul, 1) := by decide +kernel
theorem dX5_leastWay_34 : decode cX5_leastWay 34 = .ok (.istore_n 3, 1) := by decide +kernel
theorem dX5_leastWay_35 : decode cX5_leastWay 35 = .ok (.iconst 0, 1) := by decide +kernel
theorem dX5_leastWay_36 : decode cX5_leastWay 36 = .ok (.istore 4, 2) := by decide +kernel
theorem dX5_leastWay_38 : decode cX5_leastWay 38 = .ok (.iload 4, 2) := by decide +kernel
theorem dX5_leastWay_40 : decode cX5_leastWay 40 = .ok (.iload_n 3, 1) := by decide +kernel
theorem dX5_leastWay_41 : decode cX5_leastWay 41 = .ok (.if_icmp .ge 44, 3) := by decide +kernel
theorem dX5_leastWay_44 : decode cX5_leastWay 44 = .ok (.aload_n 0, 1) := by decide +kernel
theorem dX5_leastWay_45 : decode cX5_leastWay 45 = .ok (.invokevirtual 47, 3) := by decide +kernel
theorem dX5_leastWay_48 : decode cX5_leastWay 48 = .ok (.aload_n 0, 1) := by decide +kernel
theorem dX5_leastWay_49 : decode cX5_leastWay 49 = .ok (.invokevirtual 50, 3) := by decide +kernel
theorem dX5_leastWay_52 : decode cX5_leastWay 52 = .ok (.istore 5, 2) := by decide +kernel
theorem dX5_leastWay_54 : decode cX5_leastWay 54 = .ok (.iload 5, 2) := by decide +kernel
theorem dX5_leastWay_56 : decode cX5_leastWay 56 = .ok (.iconst (-1), 1) := by decide +kernel
theorem dX5_leastWay_57 : decode cX5_leastWay 57 = .ok (.if_icmp .ne 6, 3) := by decide +kernel
theorem dX5_leastWay_60 : decode cX5_leastWay 60 = .ok (.goto 25, 3) := by decide +kernel
theorem dX5_leastWay_63 : decode cX5_leastWay 63 = .ok (.lload_n 1, 1) := by decide +kernel
theorem dX5_leastWay_64 : decode cX5_leastWay 64 = .ok (.aload_n 0, 1) := by decide +kernel
theorem dX5_leastWay_65 : decode cX5_leastWay 65 = .ok (.getfield 30, 3) := by decide +kernel
theorem dX5_leastWay_68 : decode cX5_leastWay 68 = .ok (.iload 5, 2) := by decide +kernel
theorem dX5_leastWay_70 : decode cX5_leastWay 70 = .ok (.laload, 1) := by decide +kernel
theorem dX5_leastWay_71 : decode cX5_leastWay 71 = .ok (.ladd, 1) := by decide +kernel
theorem dX5_leastWay_72 : decode cX5_leastWay 72 = .ok (.lstore_n 1, 1) := by decide +kernel
theorem dX5_leastWay_73 : decode cX5_leastWay 73 = .ok (.aload_n 0, 1) := by decide +kernel
theorem dX5_leastWay_74 : decode cX5_leastWay 74 = .ok (.iload 5, 2) := by decide +kernel
theorem dX5_leastWay_76 : decode cX5_leastWay 76 = .ok (.invokevirtual 54, 3) := by decide +kernel
theorem dX5_leastWay_79 : decode cX5_leastWay 79 = .ok (.iinc 4 1, 3) := by decide +kernel
theorem dX5_leastWay_82 : decode cX5_leastWay 82 = .ok (.goto (-44), 3) := by decide +kernel
theorem dX5_leastWay_85 : decode cX5_leastWay 85 = .ok (.lload_n 1, 1) := by decide +kernel
theorem dX5_leastWay_86 : decode cX5_leastWay 86 = .ok (.lreturn, 1) := by decide +kernel
set_option maxRecDepth 20000 in
theorem ggX5_goEachOnce_J7_fill_53178 : GoodIn wsX5_goEachOnce wsJ7_fill_53178 := goodIn_r _ [7] (by decide +kernel) (by decide +kernel)
set_option maxRecDepth 20000 in
theorem gX5_goEachOnce_J7_fill_53178 : GoodIn wsX5_goEachOnce (va_wsS RX5 58 yJ7_fill_53178 wsJ7_fill_53178) := goodIn_app (goodIn_of _ (by decide +kernel)) ggX5_goEachOnce_J7_fill_53178
theorem dX5_goEachOnce_0 : decode cX5_goEachOnce 0 = .ok (.aload_n 0, 1) := by decide +kernel
theorem dX5_goEachOnce_1 : decode cX5_goEachOnce 1 = .ok (.getfield 26, 3) := by decide +kernel
theorem dX5_goEachOnce_4 : decode cX5_goEachOnce 4 = .ok (.iconst 0, 1) := by decide +kernel
theorem dX5_goEachOnce_5 : decode cX5_goEachOnce 5 = .ok (.invokestatic 58, 3) := by decide +kernel
theorem dX5_goEachOnce_8 : decode cX5_goEachOnce 8 = .ok (.lconst 0, 1) := by decide +kernel
theorem dX5_goEachOnce_9 : decode cX5_goEachOnce 9 = .ok (.lstore_n 1, 1) := by decide +kernel
theorem dX5_goEachOnce_10 : decode cX5_goEachOnce 10 = .ok (.iconst 0, 1) := by decide +kernel
theorem dX5_goEachOnce_11 : decode cX5_goEachOnce 11 = .ok (.istore_n 3, 1) := by decide +kernel
theorem dX5_goEachOnce_12 : decode cX5_goEachOnce 12 = .ok (.iload_n 3, 1) := by decide +kernel
theorem dX5_goEachOnce_13 : decode cX5_goEachOnce 13 = .ok (.aload_n 0, 1) := by decide +kernel
theorem dX5_goEachOnce_14 : decode cX5_goEachOnce 14 = .ok (.getfield 9, 3) := by decide +kernel
theorem dX5_goEachOnce_17 : decode cX5_goEachOnce 17 = .ok (.getfield 15, 3) := by decide +kernel
theorem dX5_goEachOnce_20 : decode cX5_goEachOnce 20 = .ok (.if_icmp .ge 93, 3) := by decide +kernel
theorem dX5_goEachOnce_23 : decode cX5_goEachOnce 23 = .ok (.iconst 0, 1) := by decide +kernel
theorem dX5_goEachOnce_24 : decode cX5_goEachOnce 24 = .ok (.istore 4, 2) := by decide +kernel
theorem dX5_goEachOnce_26 : decode cX5_goEachOnce 26 = .ok (.iload 4, 2) := by decide +kernel
theorem dX5_goEachOnce_28 : decode cX5_goEachOnce 28 = .ok (.aload_n 0, 1) := by decide +kernel
theorem dX5_goEachOnce_29 : decode cX5_goEachOnce 29 = .ok (.getfield 9, 3) := by decide +kernel
theorem dX5_goEachOnce_32 : decode cX5_goEachOnce 32 = .ok (.getfield 15, 3) := by decide +kernel
theorem dX5_goEachOnce_35 : decode cX5_goEachOnce 35 = .ok (.if_icmp .ge 72, 3) := by decide +kernel
theorem dX5_goEachOnce_38 : decode cX5_goEachOnce 38 = .ok (.aload_n 0, 1) := by decide +kernel
theorem dX5_goEachOnce_39 : decode cX5_goEachOnce 39 = .ok (.getfield 23, 3) := by decide +kernel
theorem dX5_goEachOnce_42 : decode cX5_goEachOnce 42 = .ok (.iload_n 3, 1) := by decide +kernel
theorem dX5_goEachOnce_43 : decode cX5_goEachOnce 43 = .ok (.aaload, 1) := by decide +kernel
theorem dX5_goEachOnce_44 : decode cX5_goEachOnce 44 = .ok (.iload 4, 2) := by decide +kernel
theorem dX5_goEachOnce_46 : decode cX5_goEachOnce 46 = .ok (.iconst 0, 1) := by decide +kernel
theorem dX5_goEachOnce_47 : decode cX5_goEachOnce 47 = .ok (.iastore, 1) := by decide +kernel
theorem dX5_goEachOnce_48 : decode cX5_goEachOnce 48 = .ok (.aload_n 0, 1) := by decide +kernel
theorem dX5_goEachOnce_49 : decode cX5_goEachOnce 49 = .ok (.getfield 9, 3) := by decide +kernel
theorem dX5_goEachOnce_52 : decode cX5_goEachOnce 52 = .ok (.getfield 64, 3) := by decide +kernel
theorem dX5_goEachOnce_55 : decode cX5_goEachOnce 55 = .ok (.iload_n 3, 1) := by decide +kernel
theorem dX5_goEachOnce_56 : decode cX5_goEachOnce 56 = .ok (.aaload, 1) := by decide +kernel
theorem dX5_goEachOnce_57 : decode cX5_goEachOnce 57 = .ok (.iload 4, 2) := by decide +kernel
theorem dX5_goEachOnce_59 : decode cX5_goEachOnce 59 = .ok (.iaload, 1) := by decide +kernel
theorem dX5_goEachOnce_60 : decode cX5_goEachOnce 60 = .ok (.iconst (-1), 1) := by decide +kernel
theorem dX5_goEachOnce_61 : decode cX5_goEachOnce 61 = .ok (.if_icmp .eq 40, 3) := by decide +kernel
theorem dX5_goEachOnce_64 : decode cX5_goEachOnce 64 = .ok (.aload_n 0, 1) := by decide +kernel
theorem dX5_goEachOnce_65 : decode cX5_goEachOnce 65 = .ok (.getfield 26, 3) := by decide +kernel
theorem dX5_goEachOnce_68 : decode cX5_goEachOnce 68 = .ok (.iload_n 3, 1) := by decide +kernel
theorem dX5_goEachOnce_69 : decode cX5_goEachOnce 69 = .ok (.dup2, 1) := by decide +kernel
theorem dX5_goEachOnce_70 : decode cX5_goEachOnce 70 = .ok (.iaload, 1) := by decide +kernel
theorem dX5_goEachOnce_71 : decode cX5_goEachOnce 71 = .ok (.iconst 1, 1) := by decide +kernel
theorem dX5_goEachOnce_72 : decode cX5_goEachOnce 72 = .ok (.isub, 1) := by decide +kernel
theorem dX5_goEachOnce_73 : decode cX5_goEachOnce 73 = .ok (.iastore, 1) := by decide +kernel
theorem dX5_goEachOnce_74 : decode cX5_goEachOnce 74 = .ok (.aload_n 0, 1) := by decide +kernel
theorem dX5_goEachOnce_75 : decode cX5_goEachOnce 75 = .ok (.getfield 26, 3) := by decide +kernel
theorem dX5_goEachOnce_78 : decode cX5_goEachOnce 78 = .ok (.iload 4, 2) := by decide +kernel
theorem dX5_goEachOnce_80 : decode cX5_goEachOnce 80 = .ok (.dup2, 1) := by decide +kernel
theorem dX5_goEachOnce_81 : decode cX5_goEachOnce 81 = .ok (.iaload, 1) := by decide +kernel
theorem dX5_goEachOnce_82 : decode cX5_goEachOnce 82 = .ok (.iconst 1, 1) := by decide +kernel
theorem dX5_goEachOnce_83 : decode cX5_goEachOnce 83 = .ok (.iadd, 1) := by decide +kernel
theorem dX5_goEachOnce_84 : decode cX5_goEachOnce 84 = .ok (.iastore, 1) := by decide +kernel
theorem dX5_goEachOnce_85 : decode cX5_goEachOnce 85 = .ok (.lload_n 1, 1) := by decide +kernel
theorem dX5_goEachOnce_86 : decode cX5_goEachOnce 86 = .ok (.aload_n 0, 1) := by decide +kernel
theorem dX5_goEachOnce_87 : decode cX5_goEachOnce 87 = .ok (.getfield 9, 3) := by decide +kernel
theorem dX5_goEachOnce_90 : decode cX5_goEachOnce 90 = .ok (.getfield 64, 3) := by decide +kernel
theorem dX5_goEachOnce_93 : decode cX5_goEachOnce 93 = .ok (.iload_n 3, 1) := by decide +kernel
theorem dX5_goEachOnce_94 : decode cX5_goEachOnce 94 = .ok (.aaload, 1) := by decide +kernel
theorem dX5_goEachOnce_95 : decode cX5_goEachOnce 95 = .ok (.iload 4, 2) := by decide +kernel
theorem dX5_goEachOnce_97 : decode cX5_goEachOnce 97 = .ok (.iaload, 1) := by decide +kernel
theorem dX5_goEachOnce_98 : decode cX5_goEachOnce 98 = .ok (.i2l, 1) := by decide +kernel
theorem dX5_goEachOnce_99 : decode cX5_goEachOnce 99 = .ok (.ladd, 1) := by decide +kernel
theorem dX5_goEachOnce_100 : decode cX5_goEachOnce 100 = .ok (.lstore_n 1, 1) := by decide +kernel
theorem dX5_goEachOnce_101 : decode cX5_goEachOnce 101 = .ok (.iinc 4 1, 3) := by decide +kernel
theorem dX5_goEachOnce_104 : decode cX5_goEachOnce 104 = .ok (.goto (-78), 3) := by decide +kernel
theorem dX5_goEachOnce_107 : decode cX5_goEachOnce 107 = .ok (.iinc 3 1, 3) := by decide +kernel
theorem dX5_goEachOnce_110 : decode cX5_goEachOnce 110 = .ok (.goto (-98), 3) := by decide +kernel
theorem dX5_goEachOnce_113 : decode cX5_goEachOnce 113 = .ok (.lload_n 1, 1) := by decide +kernel
theorem dX5_goEachOnce_114 : decode cX5_goEachOnce 114 = .ok (.lreturn, 1) := by decide +kernel
set_option maxRecDepth 20000 in
theorem ggX5_findCosts_X5_lowerCosts : GoodIn wsX5_findCosts wsX5_lowerCosts := goodIn_r _ [10, 1, 2, 4, 5, 11, 12, 13, 9, 14, 15, 16, 17, 18, 19, 20, 21, 22, 23] (by decide +kernel) (by decide +kernel)
set_option maxRecDepth 20000 in
theorem gX5_findCosts_X5_lowerCosts : GoodIn wsX5_findCosts (wsV RX5 69 RX5 yX5_lowerCosts wsX5_lowerCosts) := goodIn_app (goodIn_of _ (by decide +kernel)) ggX5_findCosts_X5_lowerCosts
theorem dX5_findCosts_0 : decode cX5_findCosts 0 = .ok (.iconst 0, 1) := by decide +kernel
theorem dX5_findCosts_1 : decode cX5_findCosts 1 = .ok (.istore_n 1, 1) := by decide +kernel
theorem dX5_findCosts_2 : decode cX5_findCosts 2 = .ok (.iload_n 1, 1) := by decide +kernel
theorem dX5_findCosts_3 : decode cX5_findCosts 3 = .ok (.aload_n 0, 1) := by decide +kernel
theorem dX5_findCosts_4 : decode cX5_findCosts 4 = .ok (.getfield 9, 3) := by decide +kernel
theorem dX5_findCosts_7 : decode cX5_findCosts 7 = .ok (.getfield 15, 3) := by decide +kernel
theorem dX5_findCosts_10 : decode cX5_findCosts 10 = .ok (.if_icmp .ge 38, 3) := by decide +kernel
theorem dX5_findCosts_13 : decode cX5_findCosts 13 = .ok (.aload_n 0, 1) := by decide +kernel
theorem dX5_findCosts_14 : decode cX5_findCosts 14 = .ok (.getfield 30, 3) := by decide +kernel
theorem dX5_findCosts_17 : decode cX5_findCosts 17 = .ok (.iload_n 1, 1) := by decide +kernel
theorem dX5_findCosts_18 : decode cX5_findCosts 18 = .ok (.aload_n 0, 1) := by decide +kernel
theorem dX5_findCosts_19 : decode cX5_findCosts 19 = .ok (.getfield 26, 3) := by decide +kernel
theorem dX5_findCosts_22 : decode cX5_findCosts 22 = .ok (.iload_n 1, 1) := by decide +kernel
theorem dX5_findCosts_23 : decode cX5_findCosts 23 = .ok (.iaload, 1) := by decide +kernel
theorem dX5_findCosts_24 : decode cX5_findCosts 24 = .ok (.ifCond .le 7, 3) := by decide +kernel
theorem dX5_findCosts_27 : decode cX5_findCosts 27 = .ok (.lconst 0, 1) := by decide +kernel
theorem dX5_findCosts_28 : decode cX5_findCosts 28 = .ok (.goto 6, 3) := by decide +kernel
theorem dX5_findCosts_31 : decode cX5_findCosts 31 = .ok (.ldc2_w 67, 3) := by decide +kernel
theorem dX5_findCosts_34 : decode cX5_findCosts 34 = .ok (.lastore, 1) := by decide +kernel
theorem dX5_findCosts_35 : decode cX5_findCosts 35 = .ok (.aload_n 0, 1) := by decide +kernel
theorem dX5_findCosts_36 : decode cX5_findCosts 36 = .ok (.getfield 34, 3) := by decide +kernel
theorem dX5_findCosts_39 : decode cX5_findCosts 39 = .ok (.iload_n 1, 1) := by decide +kernel
theorem dX5_findCosts_40 : decode cX5_findCosts 40 = .ok (.iconst (-1), 1) := by decide +kernel
theorem dX5_findCosts_41 : decode cX5_findCosts 41 = .ok (.iastore, 1) := by decide +kernel
theorem dX5_findCosts_42 : decode cX5_findCosts 42 = .ok (.iinc 1 1, 3) := by decide +kernel
theorem dX5_findCosts_45 : decode cX5_findCosts 45 = .ok (.goto (-43), 3) := by decide +kernel
theorem dX5_findCosts_48 : decode cX5_findCosts 48 = .ok (.iconst 1, 1) := by decide +kernel
theorem dX5_findCosts_49 : decode cX5_findCosts 49 = .ok (.istore_n 1, 1) := by decide +kernel
theorem dX5_findCosts_50 : decode cX5_findCosts 50 = .ok (.iconst 0, 1) := by decide +kernel
theorem dX5_findCosts_51 : decode cX5_findCosts 51 = .ok (.istore_n 2, 1) := by decide +kernel
theorem dX5_findCosts_52 : decode cX5_findCosts 52 = .ok (.iload_n 2, 1) := by decide +kernel
theorem dX5_findCosts_53 : decode cX5_findCosts 53 = .ok (.aload_n 0, 1) := by decide +kernel
theorem dX5_findCosts_54 : decode cX5_findCosts 54 = .ok (.getfield 9, 3) := by decide +kernel
theorem dX5_findCosts_57 : decode cX5_findCosts 57 = .ok (.getfield 15, 3) := by decide +kernel
theorem dX5_findCosts_60 : decode cX5_findCosts 60 = .ok (.if_icmp .ge 18, 3) := by decide +kernel
theorem dX5_findCosts_63 : decode cX5_findCosts 63 = .ok (.iload_n 1, 1) := by decide +kernel
theorem dX5_findCosts_64 : decode cX5_findCosts 64 = .ok (.ifCond .eq 14, 3) := by decide +kernel
theorem dX5_findCosts_67 : decode cX5_findCosts 67 = .ok (.aload_n 0, 1) := by decide +kernel
theorem dX5_findCosts_68 : decode cX5_findCosts 68 = .ok (.invokevirtual 69, 3) := by decide +kernel
theorem dX5_findCosts_71 : decode cX5_findCosts 71 = .ok (.istore_n 1, 1) := by decide +kernel
theorem dX5_findCosts_72 : decode cX5_findCosts 72 = .ok (.iinc 2 1, 3) := by decide +kernel
theorem dX5_findCosts_75 : decode cX5_findCosts 75 = .ok (.goto (-23), 3) := by decide +kernel
theorem dX5_findCosts_78 : decode cX5_findCosts 78 = .ok (.return_, 1) := by decide +kernel
set_option maxRecDepth 20000 in
theorem ggX5_lowerCosts_X5_costOfStep : GoodIn wsX5_lowerCosts wsX5_costOfStep := goodIn_r _ [9, 10, 1, 3, 11, 12, 13, 14, 15, 16, 17, 18] (by decide +kernel) (by decide +kernel)
set_option maxRecDepth 20000 in
theorem gX5_lowerCosts_X5_costOfStep : GoodIn wsX5_lowerCosts (wsV RX5 72 RX5 yX5_costOfStep wsX5_costOfStep) := goodIn_app (goodIn_of _ (by decide +kernel)) ggX5_lowerCosts_X5_costOfStep
theorem dX5_lowerCosts_0 : decode cX5_lowerCosts 0 = .ok (.iconst 0, 1) := by decide +kernel
theorem dX5_lowerCosts_1 : decode cX5_lowerCosts 1 = .ok (.istore_n 1, 1) := by decide +kernel
theorem dX5_lowerCosts_2 : decode cX5_lowerCosts 2 = .ok (.iconst 0, 1) := by decide +kernel
theorem dX5_lowerCosts_3 : decode cX5_lowerCosts 3 = .ok (.istore_n 2, 1) := by decide +kernel
theorem dX5_lowerCosts_4 : decode cX5_lowerCosts 4 = .ok (.iload_n 2, 1) := by decide +kernel
theorem dX5_lowerCosts_5 : decode cX5_lowerCosts 5 = .ok (.aload_n 0, 1) := by decide +kernel
theorem dX5_lowerCosts_6 : decode cX5_lowerCosts 6 = .ok (.getfield 9, 3) := by decide +kernel
theorem dX5_lowerCosts_9 : decode cX5_lowerCosts 9 = .ok (.getfield 15, 3) := by decide +kernel
theorem dX5_lowerCosts_12 : decode cX5_lowerCosts 12 = .ok (.if_icmp .ge 92, 3) := by decide +kernel
theorem dX5_lowerCosts_15 : decode cX5_lowerCosts 15 = .ok (.iconst 0, 1) := by decide +kernel
theorem dX5_lowerCosts_16 : decode cX5_lowerCosts 16 = .ok (.istore_n 3, 1) := by decide +kernel
theorem dX5_lowerCosts_17 : decode cX5_lowerCosts 17 = .ok (.iload_n 3, 1) := by decide +kernel
theorem dX5_lowerCosts_18 : decode cX5_lowerCosts 18 = .ok (.aload_n 0, 1) := by decide +kernel
theorem dX5_lowerCosts_19 : decode cX5_lowerCosts 19 = .ok (.getfield 9, 3) := by decide +kernel
theorem dX5_lowerCosts_22 : decode cX5_lowerCosts 22 = .ok (.getfield 15, 3) := by decide +kernel
theorem dX5_lowerCosts_25 : decode cX5_lowerCosts 25 = .ok (.if_icmp .ge 73, 3) := by decide +kernel
theorem dX5_lowerCosts_28 : decode cX5_lowerCosts 28 = .ok (.aload_n 0, 1) := by decide +kernel
theorem dX5_lowerCosts_29 : decode cX5_lowerCosts 29 = .ok (.getfield 30, 3) := by decide +kernel
theorem dX5_lowerCosts_32 : decode cX5_lowerCosts 32 = .ok (.iload_n 2, 1) := by decide +kernel
theorem dX5_lowerCosts_33 : decode cX5_lowerCosts 33 = .ok (.laload, 1) := by decide +kernel
theorem dX5_lowerCosts_34 : decode cX5_lowerCosts 34 = .ok (.ldc2_w 67, 3) := by decide +kernel
theorem dX5_lowerCosts_37 : decode cX5_lowerCosts 37 = .ok (.lcmp, 1) := by decide +kernel
theorem dX5_lowerCosts_38 : decode cX5_lowerCosts 38 = .ok (.ifCond .ge 54, 3) := by decide +kernel
theorem dX5_lowerCosts_41 : decode cX5_lowerCosts 41 = .ok (.aload_n 0, 1) := by decide +kernel
theorem dX5_lowerCosts_42 : decode cX5_lowerCosts 42 = .ok (.getfield 30, 3) := by decide +kernel
theorem dX5_lowerCosts_45 : decode cX5_lowerCosts 45 = .ok (.iload_n 2, 1) := by decide +kernel
theorem dX5_lowerCosts_46 : decode cX5_lowerCosts 46 = .ok (.laload, 1) := by decide +kernel
theorem dX5_lowerCosts_47 : decode cX5_lowerCosts 47 = .ok (.aload_n 0, 1) := by decide +kernel
theorem dX5_lowerCosts_48 : decode cX5_lowerCosts 48 = .ok (.iload_n 2, 1) := by decide +kernel
theorem dX5_lowerCosts_49 : decode cX5_lowerCosts 49 = .ok (.iload_n 3, 1) := by decide +kernel
theorem dX5_lowerCosts_50 : decode cX5_lowerCosts 50 = .ok (.invokevirtual 72, 3) := by decide +kernel
theorem dX5_lowerCosts_53 : decode cX5_lowerCosts 53 = .ok (.ladd, 1) := by decide +kernel
theorem dX5_lowerCosts_54 : decode cX5_lowerCosts 54 = .ok (.aload_n 0, 1) := by decide +kernel
theorem dX5_lowerCosts_55 : decode cX5_lowerCosts 55 = .ok (.getfield 30, 3) := by decide +kernel
theorem dX5_lowerCosts_58 : decode cX5_lowerCosts 58 = .ok (.iload_n 3, 1) := by decide +kernel
theorem dX5_lowerCosts_59 : decode cX5_lowerCosts 59 = .ok (.laload, 1) := by decide +kernel
theorem dX5_lowerCosts_60 : decode cX5_lowerCosts 60 = .ok (.lcmp, 1) := by decide +kernel
theorem dX5_lowerCosts_61 : decode cX5_lowerCosts 61 = .ok (.ifCond .ge 31, 3) := by decide +kernel
theorem dX5_lowerCosts_64 : decode cX5_lowerCosts 64 = .ok (.aload_n 0, 1) := by decide +kernel
theorem dX5_lowerCosts_65 : decode cX5_lowerCosts 65 = .ok (.getfield 30, 3) := by decide +kernel
theorem dX5_lowerCosts_68 : decode cX5_lowerCosts 68 = .ok (.iload_n 3, 1) := by decide +kernel
theorem dX5_lowerCosts_69 : decode cX5_lowerCosts 69 = .ok (.aload_n 0, 1) := by decide +kernel
theorem dX5_lowerCosts_70 : decode cX5_lowerCosts 70 = .ok (.getfield 30, 3) := by decide +kernel
theorem dX5_lowerCosts_73 : decode cX5_lowerCosts 73 = .ok (.iload_n 2, 1) := by decide +kernel
theorem dX5_lowerCosts_74 : decode cX5_lowerCosts 74 = .ok (.laload, 1) := by decide +kernel
theorem dX5_lowerCosts_75 : decode cX5_lowerCosts 75 = .ok (.aload_n 0, 1) := by decide +kernel
theorem dX5_lowerCosts_76 : decode cX5_lowerCosts 76 = .ok (.iload_n 2, 1) := by decide +kernel
theorem dX5_lowerCosts_77 : decode cX5_lowerCosts 77 = .ok (.iload_n 3, 1) := by decide +kernel
theorem dX5_lowerCosts_78 : decode cX5_lowerCosts 78 = .ok (.invokevirtual 72, 3) := by decide +kernel
theorem dX5_lowerCosts_81 : decode cX5_lowerCosts 81 = .ok (.ladd, 1) := by decide +kernel
theorem dX5_lowerCosts_82 : decode cX5_lowerCosts 82 = .ok (.lastore, 1) := by decide +kernel
theorem dX5_lowerCosts_83 : decode cX5_lowerCosts 83 = .ok (.aload_n 0, 1) := by decide +kernel
theorem dX5_lowerCosts_84 : decode cX5_lowerCosts 84 = .ok (.getfield 34, 3) := by decide +kernel
theorem dX5_lowerCosts_87 : decode cX5_lowerCosts 87 = .ok (.iload_n 3, 1) := by decide +kernel
theorem dX5_lowerCosts_88 : decode cX5_lowerCosts 88 = .ok (.iload_n 2, 1) := by decide +kernel
theorem dX5_lowerCosts_89 : decode cX5_lowerCosts 89 = .ok (.iastore, 1) := by decide +kernel
theorem dX5_lowerCosts_90 : decode cX5_lowerCosts 90 = .ok (.iconst 1, 1) := by decide +kernel
theorem dX5_lowerCosts_91 : decode cX5_lowerCosts 91 = .ok (.istore_n 1, 1) := by decide +kernel
theorem dX5_lowerCosts_92 : decode cX5_lowerCosts 92 = .ok (.iinc 3 1, 3) := by decide +kernel
theorem dX5_lowerCosts_95 : decode cX5_lowerCosts 95 = .ok (.goto (-78), 3) := by decide +kernel
theorem dX5_lowerCosts_98 : decode cX5_lowerCosts 98 = .ok (.iinc 2 1, 3) := by decide +kernel
theorem dX5_lowerCosts_101 : decode cX5_lowerCosts 101 = .ok (.goto (-97), 3) := by decide +kernel
theorem dX5_lowerCosts_104 : decode cX5_lowerCosts 104 = .ok (.iload_n 1, 1) := by decide +kernel
theorem dX5_lowerCosts_105 : decode cX5_lowerCosts 105 = .ok (.ireturn, 1) := by decide +kernel
theorem dX5_costOfStep_0 : decode cX5_costOfStep 0 = .ok (.aload_n 0, 1) := by decide +kernel
theorem dX5_costOfStep_1 : decode cX5_costOfStep 1 = .ok (.getfield 23, 3) := by decide +kernel
theorem dX5_costOfStep_4 : decode cX5_costOfStep 4 = .ok (.iload_n 2, 1) := by decide +kernel
theorem dX5_costOfStep_5 : decode cX5_costOfStep 5 = .ok (.aaload, 1) := by decide +kernel
theorem dX5_costOfStep_6 : decode cX5_costOfStep 6 = .ok (.iload_n 1, 1) := by decide +kernel
theorem dX5_costOfStep_7 : decode cX5_costOfStep 7 = .ok (.iaload, 1) := by decide +kernel
theorem dX5_costOfStep_8 : decode cX5_costOfStep 8 = .ok (.ifCond .le 17, 3) := by decide +kernel
theorem dX5_costOfStep_11 : decode cX5_costOfStep 11 = .ok (.aload_n 0, 1) := by decide +kernel
theorem dX5_costOfStep_12 : decode cX5_costOfStep 12 = .ok (.getfield 9, 3) := by decide +kernel
theorem dX5_costOfStep_15 : decode cX5_costOfStep 15 = .ok (.getfield 64, 3) := by decide +kernel
theorem dX5_costOfStep_18 : decode cX5_costOfStep 18 = .ok (.iload_n 2, 1) := by decide +kernel
theorem dX5_costOfStep_19 : decode cX5_costOfStep 19 = .ok (.aaload, 1) := by decide +kernel
theorem dX5_costOfStep_20 : decode cX5_costOfStep 20 = .ok (.iload_n 1, 1) := by decide +kernel
theorem dX5_costOfStep_21 : decode cX5_costOfStep 21 = .ok (.iaload, 1) := by decide +kernel
theorem dX5_costOfStep_22 : decode cX5_costOfStep 22 = .ok (.ineg, 1) := by decide +kernel
theorem dX5_costOfStep_23 : decode cX5_costOfStep 23 = .ok (.i2l, 1) := by decide +kernel
theorem dX5_costOfStep_24 : decode cX5_costOfStep 24 = .ok (.lreturn, 1) := by decide +kernel
theorem dX5_costOfStep_25 : decode cX5_costOfStep 25 = .ok (.aload_n 0, 1) := by decide +kernel
theorem dX5_costOfStep_26 : decode cX5_costOfStep 26 = .ok (.getfield 9, 3) := by decide +kernel
theorem dX5_costOfStep_29 : decode cX5_costOfStep 29 = .ok (.getfield 64, 3) := by decide +kernel
theorem dX5_costOfStep_32 : decode cX5_costOfStep 32 = .ok (.iload_n 1, 1) := by decide +kernel
theorem dX5_costOfStep_33 : decode cX5_costOfStep 33 = .ok (.aaload, 1) := by decide +kernel
theorem dX5_costOfStep_34 : decode cX5_costOfStep 34 = .ok (.iload_n 2, 1) := by decide +kernel
theorem dX5_costOfStep_35 : decode cX5_costOfStep 35 = .ok (.iaload, 1) := by decide +kernel
theorem dX5_costOfStep_36 : decode cX5_costOfStep 36 = .ok (.iconst (-1), 1) := by decide +kernel
theorem dX5_costOfStep_37 : decode cX5_costOfStep 37 = .ok (.if_icmp .ne 9, 3) := by decide +kernel
theorem dX5_costOfStep_40 : decode cX5_costOfStep 40 = .ok (.ldc2_w 67, 3) := by decide +kernel
theorem dX5_costOfStep_43 : decode cX5_costOfStep 43 = .ok (.goto 15, 3) := by decide +kernel
theorem dX5_costOfStep_46 : decode cX5_costOfStep 46 = .ok (.aload_n 0, 1) := by decide +kernel
theorem dX5_costOfStep_47 : decode cX5_costOfStep 47 = .ok (.getfield 9, 3) := by decide +kernel
theorem dX5_costOfStep_50 : decode cX5_costOfStep 50 = .ok (.getfield 64, 3) := by decide +kernel
theorem dX5_costOfStep_53 : decode cX5_costOfStep 53 = .ok (.iload_n 1, 1) := by decide +kernel
theorem dX5_costOfStep_54 : decode cX5_costOfStep 54 = .ok (.aaload, 1) := by decide +kernel
theorem dX5_costOfStep_55 : decode cX5_costOfStep 55 = .ok (.iload_n 2, 1) := by decide +kernel
theorem dX5_costOfStep_56 : decode cX5_costOfStep 56 = .ok (.iaload, 1) := by decide +kernel
theorem dX5_costOfStep_57 : decode cX5_costOfStep 57 = .ok (.i2l, 1) := by decide +kernel
theorem dX5_costOfStep_58 : decode cX5_costOfStep 58 = .ok (.lreturn, 1) := by decide +kernel
theorem dX5_cheapestEnd_0 : decode cX5_cheapestEnd 0 = .ok (.iconst (-1), 1) := by decide +kernel
theorem dX5_cheapestEnd_1 : decode cX5_cheapestEnd 1 = .ok (.istore_n 1, 1) := by decide +kernel
theorem dX5_cheapestEnd_2 : decode cX5_cheapestEnd 2 = .ok (.iconst 0, 1) := by decide +kernel
theorem dX5_cheapestEnd_3 : decode cX5_cheapestEnd 3 = .ok (.istore_n 2, 1) := by decide +kernel
theorem dX5_cheapestEnd_4 : decode cX5_cheapestEnd 4 = .ok (.iload_n 2, 1) := by decide +kernel
theorem dX5_cheapestEnd_5 : decode cX5_cheapestEnd 5 = .ok (.aload_n 0, 1) := by decide +kernel
theorem dX5_cheapestEnd_6 : decode cX5_cheapestEnd 6 = .ok (.getfield 9, 3) := by decide +kernel
theorem dX5_cheapestEnd_9 : decode cX5_cheapestEnd 9 = .ok (.getfield 15, 3) := by decide +kernel
theorem dX5_cheapestEnd_12 : decode cX5_cheapestEnd 12 = .ok (.if_icmp .ge 54, 3) := by decide +kernel
theorem dX5_cheapestEnd_15 : decode cX5_cheapestEnd 15 = .ok (.aload_n 0, 1) := by decide +kernel
theorem dX5_cheapestEnd_16 : decode cX5_cheapestEnd 16 = .ok (.getfield 26, 3) := by decide +kernel
theorem dX5_cheapestEnd_19 : decode cX5_cheapestEnd 19 = .ok (.iload_n 2, 1) := by decide +kernel
theorem dX5_cheapestEnd_20 : decode cX5_cheapestEnd 20 = .ok (.iaload, 1) := by decide +kernel
theorem dX5_cheapestEnd_21 : decode cX5_cheapestEnd 21 = .ok (.ifCond .ge 39, 3) := by decide +kernel
theorem dX5_cheapestEnd_24 : decode cX5_cheapestEnd 24 = .ok (.aload_n 0, 1) := by decide +kernel
theorem dX5_cheapestEnd_25 : decode cX5_cheapestEnd 25 = .ok (.getfield 30, 3) := by decide +kernel
theorem dX5_cheapestEnd_28 : decode cX5_cheapestEnd 28 = .ok (.iload_n 2, 1) := by decide +kernel
theorem dX5_cheapestEnd_29 : decode cX5_cheapestEnd 29 = .ok (.laload, 1) := by decide +kernel
theorem dX5_cheapestEnd_30 : decode cX5_cheapestEnd 30 = .ok (.ldc2_w 67, 3) := by decide +kernel
theorem dX5_cheapestEnd_33 : decode cX5_cheapestEnd 33 = .ok (.lcmp, 1) := by decide +kernel
theorem dX5_cheapestEnd_34 : decode cX5_cheapestEnd 34 = .ok (.ifCond .ge 26, 3) := by decide +kernel
theorem dX5_cheapestEnd_37 : decode cX5_cheapestEnd 37 = .ok (.iload_n 1, 1) := by decide +kernel
theorem dX5_cheapestEnd_38 : decode cX5_cheapestEnd 38 = .ok (.iconst (-1), 1) := by decide +kernel
theorem dX5_cheapestEnd_39 : decode cX5_cheapestEnd 39 = .ok (.if_icmp .eq 19, 3) := by decide +kernel
theorem dX5_cheapestEnd_42 : decode cX5_cheapestEnd 42 = .ok (.aload_n 0, 1) := by decide +kernel
theorem dX5_cheapestEnd_43 : decode cX5_cheapestEnd 43 = .ok (.getfield 30, 3) := by decide +kernel
theorem dX5_cheapestEnd_46 : decode cX5_cheapestEnd 46 = .ok (.iload_n 2, 1) := by decide +kernel
theorem dX5_cheapestEnd_47 : decode cX5_cheapestEnd 47 = .ok (.laload, 1) := by decide +kernel
theorem dX5_cheapestEnd_48 : decode cX5_cheapestEnd 48 = .ok (.aload_n 0, 1) := by decide +kernel
theorem dX5_cheapestEnd_49 : decode cX5_cheapestEnd 49 = .ok (.getfield 30, 3) := by decide +kernel
theorem dX5_cheapestEnd_52 : decode cX5_cheapestEnd 52 = .ok (.iload_n 1, 1) := by decide +kernel
theorem dX5_cheapestEnd_53 : decode cX5_cheapestEnd 53 = .ok (.laload, 1) := by decide +kernel
theorem dX5_cheapestEnd_54 : decode cX5_cheapestEnd 54 = .ok (.lcmp, 1) := by decide +kernel
theorem dX5_cheapestEnd_55 : decode cX5_cheapestEnd 55 = .ok (.ifCond .ge 5, 3) := by decide +kernel
theorem dX5_cheapestEnd_58 : decode cX5_cheapestEnd 58 = .ok (.iload_n 2, 1) := by decide +kernel
theorem dX5_cheapestEnd_59 : decode cX5_cheapestEnd 59 = .ok (.istore_n 1, 1) := by decide +kernel
theorem dX5_cheapestEnd_60 : decode cX5_cheapestEnd 60 = .ok (.iinc 2 1, 3) := by decide +kernel
theorem dX5_cheapestEnd_63 : decode cX5_cheapestEnd 63 = .ok (.goto (-59), 3) := by decide +kernel
theorem dX5_cheapestEnd_66 : decode cX5_cheapestEnd 66 = .ok (.iload_n 1, 1) := by decide +kernel
theorem dX5_cheapestEnd_67 : decode cX5_cheapestEnd 67 = .ok (.ireturn, 1) := by decide +kernel
theorem dX5_goTo_0 : decode cX5_goTo 0 = .ok (.iload_n 1, 1) := by decide +kernel
theorem dX5_goTo_1 : decode cX5_goTo 1 = .ok (.istore_n 2, 1) := by decide +kernel
theorem dX5_goTo_2 : decode cX5_goTo 2 = .ok (.iconst 0, 1) := by decide +kernel
theorem dX5_goTo_3 : decode cX5_goTo 3 = .ok (.istore_n 3, 1) := by decide +kernel
theorem dX5_goTo_4 : decode cX5_goTo 4 = .ok (.iload_n 3, 1) := by decide +kernel
theorem dX5_goTo_5 : decode cX5_goTo 5 = .ok (.aload_n 0, 1) := by decide +kernel
theorem dX5_goTo_6 : decode cX5_goTo 6 = .ok (.getfield 9, 3) := by decide +kernel
theorem dX5_goTo_9 : decode cX5_goTo 9 = .ok (.getfield 15, 3) := by decide +kernel
theorem dX5_goTo_12 : decode cX5_goTo 12 = .ok (.if_icmp .ge 71, 3) := by decide +kernel
theorem dX5_goTo_15 : decode cX5_goTo 15 = .ok (.aload_n 0, 1) := by decide +kernel
theorem dX5_goTo_16 : decode cX5_goTo 16 = .ok (.getfield 34, 3) := by decide +kernel
theorem dX5_goTo_19 : decode cX5_goTo 19 = .ok (.iload_n 2, 1) := by decide +kernel
theorem dX5_goTo_20 : decode cX5_goTo 20 = .ok (.iaload, 1) := by decide +kernel
theorem dX5_goTo_21 : decode cX5_goTo 21 = .ok (.iconst (-1), 1) := by decide +kernel
theorem dX5_goTo_22 : decode cX5_goTo 22 = .ok (.if_icmp .eq 61, 3) := by decide +kernel
theorem dX5_goTo_25 : decode cX5_goTo 25 = .ok (.aload_n 0, 1) := by decide +kernel
theorem dX5_goTo_26 : decode cX5_goTo 26 = .ok (.getfield 34, 3) := by decide +kernel
theorem dX5_goTo_29 : decode cX5_goTo 29 = .ok (.iload_n 2, 1) := by decide +kernel
theorem dX5_goTo_30 : decode cX5_goTo 30 = .ok (.iaload, 1) := by decide +kernel
theorem dX5_goTo_31 : decode cX5_goTo 31 = .ok (.istore 4, 2) := by decide +kernel
theorem dX5_goTo_33 : decode cX5_goTo 33 = .ok (.aload_n 0, 1) := by decide +kernel
theorem dX5_goTo_34 : decode cX5_goTo 34 = .ok (.getfield 23, 3) := by decide +kernel
theorem dX5_goTo_37 : decode cX5_goTo 37 = .ok (.iload_n 2, 1) := by decide +kernel
theorem dX5_goTo_38 : decode cX5_goTo 38 = .ok (.aaload, 1) := by decide +kernel
theorem dX5_goTo_39 : decode cX5_goTo 39 = .ok (.iload 4, 2) := by decide +kernel
theorem dX5_goTo_41 : decode cX5_goTo 41 = .ok (.iaload, 1) := by decide +kernel
theorem dX5_goTo_42 : decode cX5_goTo 42 = .ok (.ifCond .le 19, 3) := by decide +kernel
theorem dX5_goTo_45 : decode cX5_goTo 45 = .ok (.aload_n 0, 1) := by decide +kernel
theorem dX5_goTo_46 : decode cX5_goTo 46 = .ok (.getfield 23, 3) := by decide +kernel
theorem dX5_goTo_49 : decode cX5_goTo 49 = .ok (.iload_n 2, 1) := by decide +kernel
theorem dX5_goTo_50 : decode cX5_goTo 50 = .ok (.aaload, 1) := by decide +kernel
theorem dX5_goTo_51 : decode cX5_goTo 51 = .ok (.iload 4, 2) := by decide +kernel
theorem dX5_goTo_53 : decode cX5_goTo 53 = .ok (.dup2, 1) := by decide +kernel
theorem dX5_goTo_54 : decode cX5_goTo 54 = .ok (.iaload, 1) := by decide +kernel
theorem dX5_goTo_55 : decode cX5_goTo 55 = .ok (.iconst 1, 1) := by decide +kernel
theorem dX5_goTo_56 : decode cX5_goTo 56 = .ok (.isub, 1) := by decide +kernel
theorem dX5_goTo_57 : decode cX5_goTo 57 = .ok (.iastore, 1) := by decide +kernel
theorem dX5_goTo_58 : decode cX5_goTo 58 = .ok (.goto 16, 3) := by decide +kernel
theorem dX5_goTo_61 : decode cX5_goTo 61 = .ok (.aload_n 0, 1) := by decide +kernel
theorem dX5_goTo_62 : decode cX5_goTo 62 = .ok (.getfield 23, 3) := by decide +kernel
theorem dX5_goTo_65 : decode cX5_goTo 65 = .ok (.iload 4, 2) := by decide +kernel
theorem dX5_goTo_67 : decode cX5_goTo 67 = .ok (.aaload, 1) := by decide +kernel
theorem dX5_goTo_68 : decode cX5_goTo 68 = .ok (.iload_n 2, 1) := by decide +kernel
theorem dX5_goTo_69 : decode cX5_goTo 69 = .ok (.dup2, 1) := by decide +kernel
theorem dX5_goTo_70 : decode cX5_goTo 70 = .ok (.iaload, 1) := by decide +kernel
theorem dX5_goTo_71 : decode cX5_goTo 71 = .ok (.iconst 1, 1) := by decide +kernel
theorem dX5_goTo_72 : decode cX5_goTo 72 = .ok (.iadd, 1) := by decide +kernel
theorem dX5_goTo_73 : decode cX5_goTo 73 = .ok (.iastore, 1) := by decide +kernel
theorem dX5_goTo_74 : decode cX5_goTo 74 = .ok (.iload 4, 2) := by decide +kernel
theorem dX5_goTo_76 : decode cX5_goTo 76 = .ok (.istore_n 2, 1) := by decide +kernel
theorem dX5_goTo_77 : decode cX5_goTo 77 = .ok (.iinc 3 1, 3) := by decide +kernel
theorem dX5_goTo_80 : decode cX5_goTo 80 = .ok (.goto (-76), 3) := by decide +kernel
theorem dX5_goTo_83 : decode cX5_goTo 83 = .ok (.aload_n 0, 1) := by decide +kernel
theorem dX5_goTo_84 : decode cX5_goTo 84 = .ok (.getfield 26, 3) := by decide +kernel
theorem dX5_goTo_87 : decode cX5_goTo 87 = .ok (.iload_n 2, 1) := by decide +kernel
theorem dX5_goTo_88 : decode cX5_goTo 88 = .ok (.dup2, 1) := by decide +kernel
theorem dX5_goTo_89 : decode cX5_goTo 89 = .ok (.iaload, 1) := by decide +kernel
theorem dX5_goTo_90 : decode cX5_goTo 90 = .ok (.iconst 1, 1) := by decide +kernel
theorem dX5_goTo_91 : decode cX5_goTo 91 = .ok (.isub, 1) := by decide +kernel
theorem dX5_goTo_92 : decode cX5_goTo 92 = .ok (.iastore, 1) := by decide +kernel
theorem dX5_goTo_93 : decode cX5_goTo 93 = .ok (.aload_n 0, 1) := by decide +kernel
theorem dX5_goTo_94 : decode cX5_goTo 94 = .ok (.getfield 26, 3) := by decide +kernel
theorem dX5_goTo_97 : decode cX5_goTo 97 = .ok (.iload_n 1, 1) := by decide +kernel
theorem dX5_goTo_98 : decode cX5_goTo 98 = .ok (.dup2, 1) := by decide +kernel
theorem dX5_goTo_99 : decode cX5_goTo 99 = .ok (.iaload, 1) := by decide +kernel
theorem dX5_goTo_100 : decode cX5_goTo 100 = .ok (.iconst 1, 1) := by decide +kernel
theorem dX5_goTo_101 : decode cX5_goTo 101 = .ok (.iadd, 1) := by decide +kernel
theorem dX5_goTo_102 : decode cX5_goTo 102 = .ok (.iastore, 1) := by decide +kernel
theorem dX5_goTo_103 : decode cX5_goTo 103 = .ok (.return_, 1) := by decide +kernel
set_option maxRecDepth 20000 in
theorem ggX6_init_X3_init : GoodIn wsX6_init wsX3_init := goodIn_r _ [40, 41, 2, 3, 42, 43, 35, 44, 45, 46, 47, 48, 49, 104, 105, 106] (by decide +kernel) (by decide +kernel)
set_option maxRecDepth 20000 in
theorem gX6_init_X3_init : GoodIn wsX6_init (wsX3_init) := ggX6_init_X3_init
set_option maxRecDepth 20000 in
theorem ggX6_init_X2_init : GoodIn wsX6_init wsX2_init := goodIn_r _ [52, 53, 2, 3, 54, 35, 55, 56, 57, 58, 59, 115, 116, 117, 118, 119, 120, 104, 105, 106] (by decide +kernel) (by decide +kernel)
set_option maxRecDepth 20000 in
theorem gX6_init_X2_init : GoodIn wsX6_init (wsX2_init) := ggX6_init_X2_init
set_option maxRecDepth 20000 in
theorem ggX6_init_X0_init : GoodIn wsX6_init wsX0_init := goodIn_r _ [62, 63, 2, 3, 64, 65, 66, 67, 68, 35, 69, 70, 71, 72, 121, 122, 123, 124, 125, 126, 127, 104, 105, 106] (by decide +kernel) (by decide +kernel)
set_option maxRecDepth 20000 in
theorem gX6_init_X0_init : GoodIn wsX6_init (wsX0_init) := ggX6_init_X0_init
set_option maxRecDepth 20000 in
theorem ggX6_init_X1_init : GoodIn wsX6_init wsX1_init := goodIn_r _ [75, 76, 2, 3, 77, 78, 35, 79, 80, 81, 128, 129, 130, 131, 104, 105, 106] (by decide +kernel) (by decide +kernel)
set_option maxRecDepth 20000 in
theorem gX6_init_X1_init : GoodIn wsX6_init (wsX1_init) := ggX6_init_X1_init
set_option maxRecDepth 20000 in
theorem ggX6_init_X4_init : GoodIn wsX6_init wsX4_init := goodIn_r _ [84, 85, 2, 3, 86, 87, 35, 88, 89, 90, 91, 92, 93, 132, 133, 134, 135, 136, 137, 138, 104, 105, 106] (by decide +kernel) (by decide +kernel)
set_option maxRecDepth 20000 in
theorem gX6_init_X4_init : GoodIn wsX6_init (wsX4_init) := ggX6_init_X4_init
set_option maxRecDepth 20000 in
theorem ggX6_init_X5_init : GoodIn wsX6_init wsX5_init := goodIn_r _ [96, 97, 2, 3, 98, 99, 35, 100, 101, 65, 102, 103, 139, 140, 141, 142, 143, 104, 105, 106] (by decide +kernel) (by decide +kernel)
set_option maxRecDepth 20000 in
theorem gX6_init_X5_init : GoodIn wsX6_init (wsX5_init) := ggX6_init_X5_init
theorem dX6_init_0 : decode cX6_init 0 = .ok (.aload_n 0, 1) := by decide +kernel
theorem dX6_init_1 : decode cX6_init 1 = .ok (.invokespecial 1, 3) := by decide +kernel
theorem dX6_init_4 : decode cX6_init 4 = .ok (.iconst 3, 1) := by decide +kernel
theorem dX6_init_5 : decode cX6_init 5 = .ok (.bipush 12, 2) := by decide +kernel
theorem dX6_init_7 : decode cX6_init 7 = .ok (.iload_n 1, 1) := by decide +kernel
theorem dX6_init_8 : decode cX6_init 8 = .ok (.invokestatic 9, 3) := by decide +kernel
theorem dX6_init_11 : decode cX6_init 11 = .ok (.invokestatic 15, 3) := by decide +kernel
theorem dX6_init_14 : decode cX6_init 14 = .ok (.istore_n 2, 1) := by decide +kernel
theorem dX6_init_15 : decode cX6_init 15 = .ok (.aload_n 0, 1) := by decide +kernel
theorem dX6_init_16 : decode cX6_init 16 = .ok (.new 18, 3) := by decide +kernel
theorem dX6_init_19 : decode cX6_init 19 = .ok (.dup, 1) := by decide +kernel
theorem dX6_init_20 : decode cX6_init 20 = .ok (.iload_n 2, 1) := by decide +kernel
theorem dX6_init_21 : decode cX6_init 21 = .ok (.invokespecial 20, 3) := by decide +kernel
theorem dX6_init_24 : decode cX6_init 24 = .ok (.putfield 23, 3) := by decide +kernel
theorem dX6_init_27 : decode cX6_init 27 = .ok (.aload_n 0, 1) := by decide +kernel
theorem dX6_init_28 : decode cX6_init 28 = .ok (.new 27, 3) := by decide +kernel
theorem dX6_init_31 : decode cX6_init 31 = .ok (.dup, 1) := by decide +kernel
theorem dX6_init_32 : decode cX6_init 32 = .ok (.aload_n 0, 1) := by decide +kernel
theorem dX6_init_33 : decode cX6_init 33 = .ok (.getfield 23, 3) := by decide +kernel
theorem dX6_init_36 : decode cX6_init 36 = .ok (.invokespecial 29, 3) := by decide +kernel
theorem dX6_init_39 : decode cX6_init 39 = .ok (.putfield 32, 3) := by decide +kernel
theorem dX6_init_42 : decode cX6_init 42 = .ok (.aload_n 0, 1) := by decide +kernel
theorem dX6_init_43 : decode cX6_init 43 = .ok (.new 36, 3) := by decide +kernel
theorem dX6_init_46 : decode cX6_init 46 = .ok (.dup, 1) := by decide +kernel
theorem dX6_init_47 : decode cX6_init 47 = .ok (.aload_n 0, 1) := by decide +kernel
theorem dX6_init_48 : decode cX6_init 48 = .ok (.getfield 23, 3) := by decide +kernel
theorem dX6_init_51 : decode cX6_init 51 = .ok (.invokespecial 38, 3) := by decide +kernel
theorem dX6_init_54 : decode cX6_init 54 = .ok (.putfield 39, 3) := by decide +kernel
theorem dX6_init_57 : decode cX6_init 57 = .ok (.aload_n 0, 1) := by decide +kernel
theorem dX6_init_58 : decode cX6_init 58 = .ok (.new 43, 3) := by decide +kernel
theorem dX6_init_61 : decode cX6_init 61 = .ok (.dup, 1) := by decide +kernel
theorem dX6_init_62 : decode cX6_init 62 = .ok (.aload_n 0, 1) := by decide +kernel
theorem dX6_init_63 : decode cX6_init 63 = .ok (.getfield 23, 3) := by decide +kernel
theorem dX6_init_66 : decode cX6_init 66 = .ok (.invokespecial 45, 3) := by decide +kernel
theorem dX6_init_69 : decode cX6_init 69 = .ok (.putfield 46, 3) := by decide +kernel
theorem dX6_init_72 : decode cX6_init 72 = .ok (.aload_n 0, 1) := by decide +kernel
theorem dX6_init_73 : decode cX6_init 73 = .ok (.new 50, 3) := by decide +kernel
theorem dX6_init_76 : decode cX6_init 76 = .ok (.dup, 1) := by decide +kernel
theorem dX6_init_77 : decode cX6_init 77 = .ok (.aload_n 0, 1) := by decide +kernel
theorem dX6_init_78 : decode cX6_init 78 = .ok (.getfield 23, 3) := by decide +kernel
theorem dX6_init_81 : decode cX6_init 81 = .ok (.invokespecial 52, 3) := by decide +kernel
theorem dX6_init_84 : decode cX6_init 84 = .ok (.putfield 53, 3) := by decide +kernel
theorem dX6_init_87 : decode cX6_init 87 = .ok (.aload_n 0, 1) := by decide +kernel
theorem dX6_init_88 : decode cX6_init 88 = .ok (.new 57, 3) := by decide +kernel
theorem dX6_init_91 : decode cX6_init 91 = .ok (.dup, 1) := by decide +kernel
theorem dX6_init_92 : decode cX6_init 92 = .ok (.aload_n 0, 1) := by decide +kernel
theorem dX6_init_93 : decode cX6_init 93 = .ok (.getfield 23, 3) := by decide +kernel
theorem dX6_init_96 : decode cX6_init 96 = .ok (.invokespecial 59, 3) := by decide +kernel
theorem dX6_init_99 : decode cX6_init 99 = .ok (.putfield 60, 3) := by decide +kernel
theorem dX6_init_102 : decode cX6_init 102 = .ok (.aload_n 0, 1) := by decide +kernel
theorem dX6_init_103 : decode cX6_init 103 = .ok (.iload_n 2, 1) := by decide +kernel
theorem dX6_init_104 : decode cX6_init 104 = .ok (.newarray .int, 2) := by decide +kernel
theorem dX6_init_106 : decode cX6_init 106 = .ok (.putfield 64, 3) := by decide +kernel
theorem dX6_init_109 : decode cX6_init 109 = .ok (.aload_n 0, 1) := by decide +kernel
theorem dX6_init_110 : decode cX6_init 110 = .ok (.iconst 0, 1) := by decide +kernel
theorem dX6_init_111 : decode cX6_init 111 = .ok (.putfield 68, 3) := by decide +kernel
theorem dX6_init_114 : decode cX6_init 114 = .ok (.return_, 1) := by decide +kernel
set_option maxRecDepth 20000 in
theorem ggX6_way_X3_has : GoodIn wsX6_way wsX3_has := goodIn_r _ [10, 11, 42, 43, 44] (by decide +kernel) (by decide +kernel)
set_option maxRecDepth 20000 in
theorem gX6_way_X3_has : GoodIn wsX6_way (wsV RX6 72 RX3 yX3_has wsX3_has) := goodIn_app (goodIn_of _ (by decide +kernel)) ggX6_way_X3_has
set_option maxRecDepth 20000 in
theorem ggX6_way_X3_tell : GoodIn wsX6_way wsX3_tell := goodIn_r _ [15, 16, 17, 18, 19, 9, 20, 21, 22, 23, 24, 25, 26, 27, 42, 43, 44] (by decide +kernel) (by decide +kernel)
set_option maxRecDepth 20000 in
theorem gX6_way_X3_tell : GoodIn wsX6_way (wsV RX6 85 RX3 yX3_tell wsX3_tell) := goodIn_app (goodIn_of _ (by decide +kernel)) ggX6_way_X3_tell
theorem dX6_way_0 : decode cX6_way 0 = .ok (.aload_n 0, 1) := by decide +kernel
theorem dX6_way_1 : decode cX6_way 1 = .ok (.getfield 23, 3) := by decide +kernel
theorem dX6_way_4 : decode cX6_way 4 = .ok (.iload_n 1, 1) := by decide +kernel
theorem dX6_way_5 : decode cX6_way 5 = .ok (.invokevirtual 72, 3) := by decide +kernel
theorem dX6_way_8 : decode cX6_way 8 = .ok (.ifCond .eq 14, 3) := by decide +kernel
theorem dX6_way_11 : decode cX6_way 11 = .ok (.aload_n 0, 1) := by decide +kernel
theorem dX6_way_12 : decode cX6_way 12 = .ok (.getfield 23, 3) := by decide +kernel
theorem dX6_way_15 : decode cX6_way 15 = .ok (.iload_n 2, 1) := by decide +kernel
theorem dX6_way_16 : decode cX6_way 16 = .ok (.invokevirtual 72, 3) := by decide +kernel
theorem dX6_way_19 : decode cX6_way 19 = .ok (.ifCond .ne 13, 3) := by decide +kernel
theorem dX6_way_22 : decode cX6_way 22 = .ok (.new 76, 3) := by decide +kernel
theorem dX6_way_25 : decode cX6_way 25 = .ok (.dup, 1) := by decide +kernel
theorem dX6_way_26 : decode cX6_way 26 = .ok (.ldc 78, 2) := by decide +kernel
theorem dX6_way_28 : decode cX6_way 28 = .ok (.invokespecial 80, 3) := by decide +kernel
theorem dX6_way_31 : decode cX6_way 31 = .ok (.athrow, 1) := by decide +kernel
theorem dX6_way_32 : decode cX6_way 32 = .ok (.iload_n 1, 1) := by decide +kernel
theorem dX6_way_33 : decode cX6_way 33 = .ok (.iload_n 2, 1) := by decide +kernel
theorem dX6_way_34 : decode cX6_way 34 = .ok (.if_icmp .eq 32, 3) := by decide +kernel
theorem dX6_way_37 : decode cX6_way 37 = .ok (.aload_n 0, 1) := by decide +kernel
theorem dX6_way_38 : decode cX6_way 38 = .ok (.getfield 23, 3) := by decide +kernel
theorem dX6_way_41 : decode cX6_way 41 = .ok (.iload_n 1, 1) := by decide +kernel
theorem dX6_way_42 : decode cX6_way 42 = .ok (.iload_n 2, 1) := by decide +kernel
theorem dX6_way_43 : decode cX6_way 43 = .ok (.lload_n 3, 1) := by decide +kernel
theorem dX6_way_44 : decode cX6_way 44 = .ok (.lconst 0, 1) := by decide +kernel
theorem dX6_way_45 : decode cX6_way 45 = .ok (.lcmp, 1) := by decide +kernel
theorem dX6_way_46 : decode cX6_way 46 = .ok (.ifCond .lt 11, 3) := by decide +kernel
theorem dX6_way_49 : decode cX6_way 49 = .ok (.lload_n 3, 1) := by decide +kernel
theorem dX6_way_50 : decode cX6_way 50 = .ok (.ldc2_w 83, 3) := by decide +kernel
theorem dX6_way_53 : decode cX6_way 53 = .ok (.lcmp, 1) := by decide +kernel
theorem dX6_way_54 : decode cX6_way 54 = .ok (.ifCond .le 7, 3) := by decide +kernel
theorem dX6_way_57 : decode cX6_way 57 = .ok (.iconst (-1), 1) := by decide +kernel
theorem dX6_way_58 : decode cX6_way 58 = .ok (.goto 5, 3) := by decide +kernel
theorem dX6_way_61 : decode cX6_way 61 = .ok (.lload_n 3, 1) := by decide +kernel
theorem dX6_way_62 : decode cX6_way 62 = .ok (.l2i, 1) := by decide +kernel
theorem dX6_way_63 : decode cX6_way 63 = .ok (.invokevirtual 85, 3) := by decide +kernel
theorem dX6_way_66 : decode cX6_way 66 = .ok (.return_, 1) := by decide +kernel
set_option maxRecDepth 20000 in
theorem ggX6_tree_X2_bound : GoodIn wsX6_tree wsX2_bound := goodIn_r _ [14, 15, 16, 17, 18, 19, 20, 21, 22, 23, 24, 25, 26, 13, 27, 28, 29, 30, 31, 32, 33, 34, 35, 36, 37, 38, 39, 40, 41, 42, 43, 44, 45, 46, 47, 48, 49, 50, 51, 52, 53, 54, 55, 56, 57, 66, 67, 68, 69, 70, 71, 72, 73, 74] (by decide +kernel) (by decide +kernel)
set_option maxRecDepth 20000 in
theorem gX6_tree_X2_bound : GoodIn wsX6_tree (wsV RX6 89 RX2 yX2_bound wsX2_bound) := goodIn_app (goodIn_of _ (by decide +kernel)) ggX6_tree_X2_bound
theorem dX6_tree_0 : decode cX6_tree 0 = .ok (.aload_n 0, 1) := by decide +kernel
theorem dX6_tree_1 : decode cX6_tree 1 = .ok (.getfield 32, 3) := by decide +kernel
theorem dX6_tree_4 : decode cX6_tree 4 = .ok (.iconst 1, 1) := by decide +kernel
theorem dX6_tree_5 : decode cX6_tree 5 = .ok (.bipush 50, 2) := by decide +kernel
theorem dX6_tree_7 : decode cX6_tree 7 = .ok (.iload_n 1, 1) := by decide +kernel
theorem dX6_tree_8 : decode cX6_tree 8 = .ok (.invokestatic 9, 3) := by decide +kernel
theorem dX6_tree_11 : decode cX6_tree 11 = .ok (.invokestatic 15, 3) := by decide +kernel
theorem dX6_tree_14 : decode cX6_tree 14 = .ok (.invokevirtual 89, 3) := by decide +kernel
theorem dX6_tree_17 : decode cX6_tree 17 = .ok (.lstore_n 2, 1) := by decide +kernel
theorem dX6_tree_18 : decode cX6_tree 18 = .ok (.aload_n 0, 1) := by decide +kernel
theorem dX6_tree_19 : decode cX6_tree 19 = .ok (.aload_n 0, 1) := by decide +kernel
theorem dX6_tree_20 : decode cX6_tree 20 = .ok (.getfield 32, 3) := by decide +kernel
theorem dX6_tree_23 : decode cX6_tree 23 = .ok (.getfield 93, 3) := by decide +kernel
theorem dX6_tree_26 : decode cX6_tree 26 = .ok (.putfield 68, 3) := by decide +kernel
theorem dX6_tree_29 : decode cX6_tree 29 = .ok (.lload_n 2, 1) := by decide +kernel
theorem dX6_tree_30 : decode cX6_tree 30 = .ok (.lreturn, 1) := by decide +kernel
theorem dX6_rounds_0 : decode cX6_rounds 0 = .ok (.aload_n 0, 1) := by decide +kernel
theorem dX6_rounds_1 : decode cX6_rounds 1 = .ok (.getfield 68, 3) := by decide +kernel
theorem dX6_rounds_4 : decode cX6_rounds 4 = .ok (.ireturn, 1) := by decide +kernel
set_option maxRecDepth 20000 in
theorem ggX6_assign_X0_leastSum : GoodIn wsX6_assign wsX0_leastSum := goodIn_r _ [6, 7, 8, 9, 10, 11, 12, 13, 14, 15, 16, 17, 18, 19, 20, 5, 21, 22, 23, 24, 25, 26, 27, 28, 29, 30, 31, 32, 33, 34, 35, 36, 37, 38, 39, 40, 41, 42, 43, 44, 45, 46, 47, 48, 49, 50, 51, 60, 61, 62, 63, 64, 65, 66, 67, 68, 69] (by decide +kernel) (by decide +kernel)
set_option maxRecDepth 20000 in
theorem gX6_assign_X0_leastSum : GoodIn wsX6_assign (wsV RX6 96 RX0 yX0_leastSum wsX0_leastSum) := goodIn_app (goodIn_of _ (by decide +kernel)) ggX6_assign_X0_leastSum
theorem dX6_assign_0 : decode cX6_assign 0 = .ok (.aload_n 0, 1) := by decide +kernel
theorem dX6_assign_1 : decode cX6_assign 1 = .ok (.getfield 39, 3) := by decide +kernel
theorem dX6_assign_4 : decode cX6_assign 4 = .ok (.invokevirtual 96, 3) := by decide +kernel
theorem dX6_assign_7 : decode cX6_assign 7 = .ok (.lreturn, 1) := by decide +kernel
set_option maxRecDepth 20000 in
theorem ggX6_cut_X3_has : GoodIn wsX6_cut wsX3_has := goodIn_r _ [8, 9, 48, 49, 50] (by decide +kernel) (by decide +kernel)
set_option maxRecDepth 20000 in
theorem gX6_cut_X3_has : GoodIn wsX6_cut (wsV RX6 72 RX3 yX3_has wsX3_has) := goodIn_app (goodIn_of _ (by decide +kernel)) ggX6_cut_X3_has
set_option maxRecDepth 20000 in
theorem ggX6_cut_X1_width : GoodIn wsX6_cut wsX1_width := goodIn_r _ [14, 15, 16, 17, 18, 19, 20, 21, 22, 23, 24, 13, 25, 26, 27, 28, 29, 30, 31, 32, 33, 34, 35, 36, 37, 38, 39, 51, 52, 53, 54, 48, 49, 50] (by decide +kernel) (by decide +kernel)
set_option maxRecDepth 20000 in
theorem gX6_cut_X1_width : GoodIn wsX6_cut (wsV RX6 102 RX1 yX1_width wsX1_width) := goodIn_app (goodIn_of _ (by decide +kernel)) ggX6_cut_X1_width
theorem dX6_cut_0 : decode cX6_cut 0 = .ok (.aload_n 0, 1) := by decide +kernel
theorem dX6_cut_1 : decode cX6_cut 1 = .ok (.getfield 23, 3) := by decide +kernel
theorem dX6_cut_4 : decode cX6_cut 4 = .ok (.iload_n 1, 1) := by decide +kernel
theorem dX6_cut_5 : decode cX6_cut 5 = .ok (.invokevirtual 72, 3) := by decide +kernel
theorem dX6_cut_8 : decode cX6_cut 8 = .ok (.ifCond .eq 19, 3) := by decide +kernel
theorem dX6_cut_11 : decode cX6_cut 11 = .ok (.aload_n 0, 1) := by decide +kernel
theorem dX6_cut_12 : decode cX6_cut 12 = .ok (.getfield 23, 3) := by decide +kernel
theorem dX6_cut_15 : decode cX6_cut 15 = .ok (.iload_n 2, 1) := by decide +kernel
theorem dX6_cut_16 : decode cX6_cut 16 = .ok (.invokevirtual 72, 3) := by decide +kernel
theorem dX6_cut_19 : decode cX6_cut 19 = .ok (.ifCond .eq 8, 3) := by decide +kernel
theorem dX6_cut_22 : decode cX6_cut 22 = .ok (.iload_n 1, 1) := by decide +kernel
theorem dX6_cut_23 : decode cX6_cut 23 = .ok (.iload_n 2, 1) := by decide +kernel
theorem dX6_cut_24 : decode cX6_cut 24 = .ok (.if_icmp .ne 7, 3) := by decide +kernel
theorem dX6_cut_27 : decode cX6_cut 27 = .ok (.ldc2_w 100, 3) := by decide +kernel
theorem dX6_cut_30 : decode cX6_cut 30 = .ok (.lreturn, 1) := by decide +kernel
theorem dX6_cut_31 : decode cX6_cut 31 = .ok (.aload_n 0, 1) := by decide +kernel
theorem dX6_cut_32 : decode cX6_cut 32 = .ok (.getfield 46, 3) := by decide +kernel
theorem dX6_cut_35 : decode cX6_cut 35 = .ok (.iload_n 1, 1) := by decide +kernel
theorem dX6_cut_36 : decode cX6_cut 36 = .ok (.iload_n 2, 1) := by decide +kernel
theorem dX6_cut_37 : decode cX6_cut 37 = .ok (.invokevirtual 102, 3) := by decide +kernel
theorem dX6_cut_40 : decode cX6_cut 40 = .ok (.lreturn, 1) := by decide +kernel
set_option maxRecDepth 20000 in
theorem ggX6_postman_X5_leastWay : GoodIn wsX6_postman wsX5_leastWay := goodIn_r _ [7, 8, 9, 10, 11, 12, 13, 14, 15, 16, 17, 18, 19, 20, 21, 22, 23, 24, 25, 26, 27, 28, 29, 30, 31, 32, 33, 6, 34, 35, 36, 37, 38, 39, 40, 41, 42, 43, 44, 45, 46, 47, 48, 49, 50, 51, 52, 53, 54, 55, 56, 57, 58, 59, 60, 61, 62, 146, 147, 148, 149, 150, 151, 152, 153] (by decide +kernel) (by decide +kernel)
set_option maxRecDepth 20000 in
theorem gX6_postman_X5_leastWay : GoodIn wsX6_postman (wsV RX6 106 RX5 yX5_leastWay wsX5_leastWay) := goodIn_app (goodIn_of _ (by decide +kernel)) ggX6_postman_X5_leastWay
set_option maxRecDepth 20000 in
theorem ggX6_postman_X4_leastWay : GoodIn wsX6_postman wsX4_leastWay := goodIn_r _ [67, 68, 69, 70, 71, 72, 73, 14, 74, 22, 17, 18, 19, 20, 21, 23, 24, 25, 26, 27, 28, 29, 30, 75, 76, 77, 66, 78, 79, 80, 81, 82, 83, 84, 85, 86, 87, 88, 89, 90, 91, 92, 93, 94, 95, 96, 97, 98, 99, 100, 101, 102, 103, 104, 105, 106, 107, 108, 109, 110, 111, 112, 113, 114, 115, 116, 117, 118, 119, 120, 121, 122, 123, 124, 125, 126, 127, 128, 129, 130, 131, 132, 133, 134, 135, 136, 137, 154, 155, 156, 157, 158, 159, 160, 151, 152, 153] (by decide +kernel) (by decide +kernel)
set_option maxRecDepth 20000 in
theorem gX6_postman_X4_leastWay : GoodIn wsX6_postman (wsV RX6 109 RX4 yX4_leastWay wsX4_leastWay) := goodIn_app (goodIn_of _ (by decide +kernel)) ggX6_postman_X4_leastWay
theorem dX6_postman_0 : decode cX6_postman 0 = .ok (.iload_n 1, 1) := by decide +kernel
theorem dX6_postman_1 : decode cX6_postman 1 = .ok (.ifCond .eq 13, 3) := by decide +kernel
theorem dX6_postman_4 : decode cX6_postman 4 = .ok (.aload_n 0, 1) := by decide +kernel
theorem dX6_postman_5 : decode cX6_postman 5 = .ok (.getfield 60, 3) := by decide +kernel
theorem dX6_postman_8 : decode cX6_postman 8 = .ok (.invokevirtual 106, 3) := by decide +kernel
theorem dX6_postman_11 : decode cX6_postman 11 = .ok (.goto 10, 3) := by decide +kernel
theorem dX6_postman_14 : decode cX6_postman 14 = .ok (.aload_n 0, 1) := by decide +kernel
theorem dX6_postman_15 : decode cX6_postman 15 = .ok (.getfield 53, 3) := by decide +kernel
theorem dX6_postman_18 : decode cX6_postman 18 = .ok (.invokevirtual 109, 3) := by decide +kernel
theorem dX6_postman_21 : decode cX6_postman 21 = .ok (.lreturn, 1) := by decide +kernel
set_option maxRecDepth 20000 in
theorem ggX6_pair_X4_member : GoodIn wsX6_pair wsX4_member := goodIn_r _ [6, 7, 8, 17, 18, 19, 20, 21, 22, 23] (by decide +kernel) (by decide +kernel)
set_option maxRecDepth 20000 in
theorem gX6_pair_X4_member : GoodIn wsX6_pair (wsV RX6 110 RX4 yX4_member wsX4_member) := goodIn_app (goodIn_of _ (by decide +kernel)) ggX6_pair_X4_member
theorem dX6_pair_0 : decode cX6_pair 0 = .ok (.aload_n 0, 1) := by decide +kernel
theorem dX6_pair_1 : decode cX6_pair 1 = .ok (.getfield 53, 3) := by decide +kernel
theorem dX6_pair_4 : decode cX6_pair 4 = .ok (.iload_n 1, 1) := by decide +kernel
theorem dX6_pair_5 : decode cX6_pair 5 = .ok (.iload_n 2, 1) := by decide +kernel
theorem dX6_pair_6 : decode cX6_pair 6 = .ok (.invokevirtual 110, 3) := by decide +kernel
theorem dX6_pair_9 : decode cX6_pair 9 = .ok (.ireturn, 1) := by decide +kernel
set_option maxRecDepth 20000 in
theorem ggX6_greatest_X2_bound : GoodIn wsX6_greatest wsX2_bound := goodIn_r _ [12, 13, 14, 15, 16, 17, 18, 19, 20, 21, 22, 23, 24, 11, 25, 26, 27, 28, 29, 30, 31, 32, 33, 34, 35, 36, 37, 38, 39, 40, 41, 42, 43, 44, 45, 46, 47, 48, 49, 50, 51, 52, 53, 54, 55, 111, 112, 113, 114, 115, 116, 117, 118, 119] (by decide +kernel) (by decide +kernel)
set_option maxRecDepth 20000 in
theorem gX6_greatest_X2_bound : GoodIn wsX6_greatest (wsV RX6 89 RX2 yX2_bound wsX2_bound) := goodIn_app (goodIn_of _ (by decide +kernel)) ggX6_greatest_X2_bound
set_option maxRecDepth 20000 in
theorem ggX6_greatest_X0_leastSum : GoodIn wsX6_greatest wsX0_leastSum := goodIn_r _ [60, 61, 62, 63, 64, 65, 66, 20, 67, 68, 19, 21, 69, 70, 71, 59, 72, 73, 74, 75, 76, 77, 78, 79, 80, 81, 82, 83, 84, 85, 86, 87, 88, 89, 90, 91, 92, 93, 94, 95, 96, 97, 98, 99, 100, 101, 102, 120, 121, 122, 123, 124, 125, 126, 117, 118, 119] (by decide +kernel) (by decide +kernel)
set_option maxRecDepth 20000 in
theorem gX6_greatest_X0_leastSum : GoodIn wsX6_greatest (wsV RX6 96 RX0 yX0_leastSum wsX0_leastSum) := goodIn_app (goodIn_of _ (by decide +kernel)) ggX6_greatest_X0_leastSum
theorem dX6_greatest_0 : decode cX6_greatest 0 = .ok (.aload_n 0, 1) := by decide +kernel
theorem dX6_greatest_1 : decode cX6_greatest 1 = .ok (.getfield 32, 3) := by decide +kernel
theorem dX6_greatest_4 : decode cX6_greatest 4 = .ok (.bipush 50, 2) := by decide +kernel
theorem dX6_greatest_6 : decode cX6_greatest 6 = .ok (.invokevirtual 89, 3) := by decide +kernel
theorem dX6_greatest_9 : decode cX6_greatest 9 = .ok (.lstore_n 1, 1) := by decide +kernel
theorem dX6_greatest_10 : decode cX6_greatest 10 = .ok (.aload_n 0, 1) := by decide +kernel
theorem dX6_greatest_11 : decode cX6_greatest 11 = .ok (.getfield 39, 3) := by decide +kernel
theorem dX6_greatest_14 : decode cX6_greatest 14 = .ok (.invokevirtual 96, 3) := by decide +kernel
theorem dX6_greatest_17 : decode cX6_greatest 17 = .ok (.lstore_n 3, 1) := by decide +kernel
theorem dX6_greatest_18 : decode cX6_greatest 18 = .ok (.lload_n 1, 1) := by decide +kernel
theorem dX6_greatest_19 : decode cX6_greatest 19 = .ok (.ldc2_w 100, 3) := by decide +kernel
theorem dX6_greatest_22 : decode cX6_greatest 22 = .ok (.lcmp, 1) := by decide +kernel
theorem dX6_greatest_23 : decode cX6_greatest 23 = .ok (.ifCond .eq 11, 3) := by decide +kernel
theorem dX6_greatest_26 : decode cX6_greatest 26 = .ok (.lload_n 3, 1) := by decide +kernel
theorem dX6_greatest_27 : decode cX6_greatest 27 = .ok (.ldc2_w 100, 3) := by decide +kernel
theorem dX6_greatest_30 : decode cX6_greatest 30 = .ok (.lcmp, 1) := by decide +kernel
theorem dX6_greatest_31 : decode cX6_greatest 31 = .ok (.ifCond .ne 7, 3) := by decide +kernel
theorem dX6_greatest_34 : decode cX6_greatest 34 = .ok (.ldc2_w 100, 3) := by decide +kernel
theorem dX6_greatest_37 : decode cX6_greatest 37 = .ok (.lreturn, 1) := by decide +kernel
theorem dX6_greatest_38 : decode cX6_greatest 38 = .ok (.lload_n 1, 1) := by decide +kernel
theorem dX6_greatest_39 : decode cX6_greatest 39 = .ok (.lload_n 3, 1) := by decide +kernel
theorem dX6_greatest_40 : decode cX6_greatest 40 = .ok (.invokestatic 113, 3) := by decide +kernel
theorem dX6_greatest_43 : decode cX6_greatest 43 = .ok (.lreturn, 1) := by decide +kernel
theorem dX6_linear_0 : decode cX6_linear 0 = .ok (.aload_n 0, 1) := by decide +kernel
theorem dX6_linear_1 : decode cX6_linear 1 = .ok (.invokevirtual 116, 3) := by decide +kernel
theorem dX6_linear_4 : decode cX6_linear 4 = .ok (.lstore_n 2, 1) := by decide +kernel
theorem dX6_linear_5 : decode cX6_linear 5 = .ok (.lload_n 2, 1) := by decide +kernel
theorem dX6_linear_6 : decode cX6_linear 6 = .ok (.ldc2_w 100, 3) := by decide +kernel
theorem dX6_linear_9 : decode cX6_linear 9 = .ok (.lcmp, 1) := by decide +kernel
theorem dX6_linear_10 : decode cX6_linear 10 = .ok (.ifCond .ne 7, 3) := by decide +kernel
theorem dX6_linear_13 : decode cX6_linear 13 = .ok (.ldc2_w 100, 3) := by decide +kernel
theorem dX6_linear_16 : decode cX6_linear 16 = .ok (.lreturn, 1) := by decide +kernel
theorem dX6_linear_17 : decode cX6_linear 17 = .ok (.iload_n 1, 1) := by decide +kernel
theorem dX6_linear_18 : decode cX6_linear 18 = .ok (.ifCond .ne 13, 3) := by decide +kernel
theorem dX6_linear_21 : decode cX6_linear 21 = .ok (.new 119, 3) := by decide +kernel
theorem dX6_linear_24 : decode cX6_linear 24 = .ok (.dup, 1) := by decide +kernel
theorem dX6_linear_25 : decode cX6_linear 25 = .ok (.ldc 121, 2) := by decide +kernel
theorem dX6_linear_27 : decode cX6_linear 27 = .ok (.invokespecial 123, 3) := by decide +kernel
theorem dX6_linear_30 : decode cX6_linear 30 = .ok (.athrow, 1) := by decide +kernel
theorem dX6_linear_31 : decode cX6_linear 31 = .ok (.ldc2_w 124, 3) := by decide +kernel
theorem dX6_linear_34 : decode cX6_linear 34 = .ok (.lload_n 2, 1) := by decide +kernel
theorem dX6_linear_35 : decode cX6_linear 35 = .ok (.lmul, 1) := by decide +kernel
theorem dX6_linear_36 : decode cX6_linear 36 = .ok (.iload_n 1, 1) := by decide +kernel
theorem dX6_linear_37 : decode cX6_linear 37 = .ok (.i2l, 1) := by decide +kernel
theorem dX6_linear_38 : decode cX6_linear 38 = .ok (.ldiv, 1) := by decide +kernel
theorem dX6_linear_39 : decode cX6_linear 39 = .ok (.lreturn, 1) := by decide +kernel
set_option maxRecDepth 20000 in
theorem ggX6_certificate_X6_pickRow : GoodIn wsX6_certificate wsX6_pickRow := goodIn_r _ [9, 10, 111, 112, 113, 114, 115, 116, 117, 118] (by decide +kernel) (by decide +kernel)
set_option maxRecDepth 20000 in
theorem gX6_certificate_X6_pickRow : GoodIn wsX6_certificate (wsV RX6 127 RX6 yX6_pickRow wsX6_pickRow) := goodIn_app (goodIn_of _ (by decide +kernel)) ggX6_certificate_X6_pickRow
set_option maxRecDepth 20000 in
theorem ggX6_certificate_X6_lengthOfRow : GoodIn wsX6_certificate wsX6_lengthOfRow := goodIn_r _ [14, 10, 15, 2, 111, 112, 113, 114, 115, 116, 117, 118, 119, 120, 121] (by decide +kernel) (by decide +kernel)
set_option maxRecDepth 20000 in
theorem gX6_certificate_X6_lengthOfRow : GoodIn wsX6_certificate (wsV RX6 130 RX6 yX6_lengthOfRow wsX6_lengthOfRow) := goodIn_app (goodIn_of _ (by decide +kernel)) ggX6_certificate_X6_lengthOfRow
set_option maxRecDepth 20000 in
theorem ggX6_certificate_X2_bound : GoodIn wsX6_certificate wsX2_bound := goodIn_r _ [20, 21, 22, 23, 24, 25, 26, 27, 28, 29, 30, 31, 32, 19, 33, 34, 35, 36, 37, 38, 39, 40, 41, 42, 43, 44, 45, 46, 47, 48, 49, 50, 51, 52, 53, 54, 55, 56, 57, 58, 59, 60, 61, 62, 63, 122, 123, 124, 125, 126, 127, 119, 120, 121] (by decide +kernel) (by decide +kernel)
set_option maxRecDepth 20000 in
theorem gX6_certificate_X2_bound : GoodIn wsX6_certificate (wsV RX6 89 RX2 yX2_bound wsX2_bound) := goodIn_app (goodIn_of _ (by decide +kernel)) ggX6_certificate_X2_bound
set_option maxRecDepth 20000 in
theorem ggX6_certificate_X0_leastSum : GoodIn wsX6_certificate wsX0_leastSum := goodIn_r _ [68, 69, 70, 71, 72, 73, 74, 28, 75, 76, 27, 29, 77, 78, 79, 67, 80, 81, 82, 83, 84, 85, 86, 87, 88, 89, 90, 91, 92, 93, 94, 95, 96, 97, 98, 99, 100, 101, 102, 103, 104, 105, 106, 107, 108, 109, 110, 128, 129, 130, 131, 132, 133, 134, 119, 120, 121] (by decide +kernel) (by decide +kernel)
set_option maxRecDepth 20000 in
theorem gX6_certificate_X0_leastSum : GoodIn wsX6_certificate (wsV RX6 96 RX0 yX0_leastSum wsX0_leastSum) := goodIn_app (goodIn_of _ (by decide +kernel)) ggX6_certificate_X0_leastSum
theorem dX6_certificate_0 : decode cX6_certificate 0 = .ok (.aload_n 0, 1) := by decide +kernel
theorem dX6_certificate_1 : decode cX6_certificate 1 = .ok (.iload_n 1, 1) := by decide +kernel
theorem dX6_certificate_2 : decode cX6_certificate 2 = .ok (.ldc 126, 2) := by decide +kernel
theorem dX6_certificate_4 : decode cX6_certificate 4 = .ok (.iand, 1) := by decide +kernel
theorem dX6_certificate_5 : decode cX6_certificate 5 = .ok (.invokevirtual 127, 3) := by decide +kernel
theorem dX6_certificate_8 : decode cX6_certificate 8 = .ok (.aload_n 0, 1) := by decide +kernel
theorem dX6_certificate_9 : decode cX6_certificate 9 = .ok (.invokevirtual 130, 3) := by decide +kernel
theorem dX6_certificate_12 : decode cX6_certificate 12 = .ok (.lstore_n 2, 1) := by decide +kernel
theorem dX6_certificate_13 : decode cX6_certificate 13 = .ok (.lload_n 2, 1) := by decide +kernel
theorem dX6_certificate_14 : decode cX6_certificate 14 = .ok (.ldc2_w 100, 3) := by decide +kernel
theorem dX6_certificate_17 : decode cX6_certificate 17 = .ok (.lcmp, 1) := by decide +kernel
theorem dX6_certificate_18 : decode cX6_certificate 18 = .ok (.ifCond .eq 33, 3) := by decide +kernel
theorem dX6_certificate_21 : decode cX6_certificate 21 = .ok (.lload_n 2, 1) := by decide +kernel
theorem dX6_certificate_22 : decode cX6_certificate 22 = .ok (.aload_n 0, 1) := by decide +kernel
theorem dX6_certificate_23 : decode cX6_certificate 23 = .ok (.getfield 32, 3) := by decide +kernel
end
section
theorem dX6_certificate_26 : decode cX6_certificate 26 = .ok (.bipush 50, 2) := by decide +kernel
theorem dX6_certificate_28 : decode cX6_certificate 28 = .ok (.invokevirtual 89, 3) := by decide +kernel
theorem dX6_certificate_31 : decode cX6_certificate 31 = .ok (.lcmp, 1) := by decide +kernel
theorem dX6_certificate_32 : decode cX6_certificate 32 = .ok (.ifCond .lt 19, 3) := by decide +kernel
theorem dX6_certificate_35 : decode cX6_certificate 35 = .ok (.lload_n 2, 1) := by decide +kernel
theorem dX6_certificate_36 : decode cX6_certificate 36 = .ok (.aload_n 0, 1) := by decide +kernel
theorem dX6_certificate_37 : decode cX6_certificate 37 = .ok (.getfield 39, 3) := by decide +kernel
theorem dX6_certificate_40 : decode cX6_certificate 40 = .ok (.invokevirtual 96, 3) := by decide +kernel
theorem dX6_certificate_43 : decode cX6_certificate 43 = .ok (.lcmp, 1) := by decide +kernel
theorem dX6_certificate_44 : decode cX6_certificate 44 = .ok (.ifCond .lt 7, 3) := by decide +kernel
theorem dX6_certificate_47 : decode cX6_certificate 47 = .ok (.iconst 1, 1) := by decide +kernel
theorem dX6_certificate_48 : decode cX6_certificate 48 = .ok (.goto 4, 3) := by decide +kernel
theorem dX6_certificate_51 : decode cX6_certificate 51 = .ok (.iconst 0, 1) := by decide +kernel
theorem dX6_certificate_52 : decode cX6_certificate 52 = .ok (.ireturn, 1) := by decide +kernel
theorem dX6_pickRow_0 : decode cX6_pickRow 0 = .ok (.aload_n 0, 1) := by decide +kernel
theorem dX6_pickRow_1 : decode cX6_pickRow 1 = .ok (.getfield 64, 3) := by decide +kernel
theorem dX6_pickRow_4 : decode cX6_pickRow 4 = .ok (.arraylength, 1) := by decide +kernel
theorem dX6_pickRow_5 : decode cX6_pickRow 5 = .ok (.istore_n 2, 1) := by decide +kernel
theorem dX6_pickRow_6 : decode cX6_pickRow 6 = .ok (.iload_n 1, 1) := by decide +kernel
theorem dX6_pickRow_7 : decode cX6_pickRow 7 = .ok (.istore_n 3, 1) := by decide +kernel
theorem dX6_pickRow_8 : decode cX6_pickRow 8 = .ok (.iload_n 2, 1) := by decide +kernel
theorem dX6_pickRow_9 : decode cX6_pickRow 9 = .ok (.iconst 1, 1) := by decide +kernel
theorem dX6_pickRow_10 : decode cX6_pickRow 10 = .ok (.isub, 1) := by decide +kernel
theorem dX6_pickRow_11 : decode cX6_pickRow 11 = .ok (.istore 4, 2) := by decide +kernel
theorem dX6_pickRow_13 : decode cX6_pickRow 13 = .ok (.iload 4, 2) := by decide +kernel
theorem dX6_pickRow_15 : decode cX6_pickRow 15 = .ok (.iconst 1, 1) := by decide +kernel
theorem dX6_pickRow_16 : decode cX6_pickRow 16 = .ok (.if_icmp .lt 79, 3) := by decide +kernel
theorem dX6_pickRow_19 : decode cX6_pickRow 19 = .ok (.iload_n 2, 1) := by decide +kernel
theorem dX6_pickRow_20 : decode cX6_pickRow 20 = .ok (.iload 4, 2) := by decide +kernel
theorem dX6_pickRow_22 : decode cX6_pickRow 22 = .ok (.isub, 1) := by decide +kernel
theorem dX6_pickRow_23 : decode cX6_pickRow 23 = .ok (.istore 5, 2) := by decide +kernel
theorem dX6_pickRow_25 : decode cX6_pickRow 25 = .ok (.aload_n 0, 1) := by decide +kernel
theorem dX6_pickRow_26 : decode cX6_pickRow 26 = .ok (.getfield 64, 3) := by decide +kernel
theorem dX6_pickRow_29 : decode cX6_pickRow 29 = .ok (.iload 4, 2) := by decide +kernel
theorem dX6_pickRow_31 : decode cX6_pickRow 31 = .ok (.iconst 1, 1) := by decide +kernel
theorem dX6_pickRow_32 : decode cX6_pickRow 32 = .ok (.iload_n 3, 1) := by decide +kernel
theorem dX6_pickRow_33 : decode cX6_pickRow 33 = .ok (.iload 5, 2) := by decide +kernel
theorem dX6_pickRow_35 : decode cX6_pickRow 35 = .ok (.irem, 1) := by decide +kernel
theorem dX6_pickRow_36 : decode cX6_pickRow 36 = .ok (.iadd, 1) := by decide +kernel
theorem dX6_pickRow_37 : decode cX6_pickRow 37 = .ok (.iastore, 1) := by decide +kernel
theorem dX6_pickRow_38 : decode cX6_pickRow 38 = .ok (.iload_n 3, 1) := by decide +kernel
theorem dX6_pickRow_39 : decode cX6_pickRow 39 = .ok (.iload 5, 2) := by decide +kernel
theorem dX6_pickRow_41 : decode cX6_pickRow 41 = .ok (.idiv, 1) := by decide +kernel
theorem dX6_pickRow_42 : decode cX6_pickRow 42 = .ok (.istore_n 3, 1) := by decide +kernel
theorem dX6_pickRow_43 : decode cX6_pickRow 43 = .ok (.iload 4, 2) := by decide +kernel
theorem dX6_pickRow_45 : decode cX6_pickRow 45 = .ok (.iconst 1, 1) := by decide +kernel
theorem dX6_pickRow_46 : decode cX6_pickRow 46 = .ok (.iadd, 1) := by decide +kernel
theorem dX6_pickRow_47 : decode cX6_pickRow 47 = .ok (.istore 6, 2) := by decide +kernel
theorem dX6_pickRow_49 : decode cX6_pickRow 49 = .ok (.iload 6, 2) := by decide +kernel
theorem dX6_pickRow_51 : decode cX6_pickRow 51 = .ok (.iload_n 2, 1) := by decide +kernel
theorem dX6_pickRow_52 : decode cX6_pickRow 52 = .ok (.if_icmp .ge 37, 3) := by decide +kernel
theorem dX6_pickRow_55 : decode cX6_pickRow 55 = .ok (.aload_n 0, 1) := by decide +kernel
theorem dX6_pickRow_56 : decode cX6_pickRow 56 = .ok (.getfield 64, 3) := by decide +kernel
theorem dX6_pickRow_59 : decode cX6_pickRow 59 = .ok (.iload 6, 2) := by decide +kernel
theorem dX6_pickRow_61 : decode cX6_pickRow 61 = .ok (.iaload, 1) := by decide +kernel
theorem dX6_pickRow_62 : decode cX6_pickRow 62 = .ok (.aload_n 0, 1) := by decide +kernel
theorem dX6_pickRow_63 : decode cX6_pickRow 63 = .ok (.getfield 64, 3) := by decide +kernel
theorem dX6_pickRow_66 : decode cX6_pickRow 66 = .ok (.iload 4, 2) := by decide +kernel
theorem dX6_pickRow_68 : decode cX6_pickRow 68 = .ok (.iaload, 1) := by decide +kernel
theorem dX6_pickRow_69 : decode cX6_pickRow 69 = .ok (.if_icmp .lt 14, 3) := by decide +kernel
theorem dX6_pickRow_72 : decode cX6_pickRow 72 = .ok (.aload_n 0, 1) := by decide +kernel
theorem dX6_pickRow_73 : decode cX6_pickRow 73 = .ok (.getfield 64, 3) := by decide +kernel
theorem dX6_pickRow_76 : decode cX6_pickRow 76 = .ok (.iload 6, 2) := by decide +kernel
theorem dX6_pickRow_78 : decode cX6_pickRow 78 = .ok (.dup2, 1) := by decide +kernel
theorem dX6_pickRow_79 : decode cX6_pickRow 79 = .ok (.iaload, 1) := by decide +kernel
theorem dX6_pickRow_80 : decode cX6_pickRow 80 = .ok (.iconst 1, 1) := by decide +kernel
theorem dX6_pickRow_81 : decode cX6_pickRow 81 = .ok (.iadd, 1) := by decide +kernel
theorem dX6_pickRow_82 : decode cX6_pickRow 82 = .ok (.iastore, 1) := by decide +kernel
theorem dX6_pickRow_83 : decode cX6_pickRow 83 = .ok (.iinc 6 1, 3) := by decide +kernel
theorem dX6_pickRow_86 : decode cX6_pickRow 86 = .ok (.goto (-37), 3) := by decide +kernel
theorem dX6_pickRow_89 : decode cX6_pickRow 89 = .ok (.iinc 4 (-1), 3) := by decide +kernel
theorem dX6_pickRow_92 : decode cX6_pickRow 92 = .ok (.goto (-79), 3) := by decide +kernel
theorem dX6_pickRow_95 : decode cX6_pickRow 95 = .ok (.aload_n 0, 1) := by decide +kernel
theorem dX6_pickRow_96 : decode cX6_pickRow 96 = .ok (.getfield 64, 3) := by decide +kernel
theorem dX6_pickRow_99 : decode cX6_pickRow 99 = .ok (.iconst 0, 1) := by decide +kernel
theorem dX6_pickRow_100 : decode cX6_pickRow 100 = .ok (.iconst 0, 1) := by decide +kernel
theorem dX6_pickRow_101 : decode cX6_pickRow 101 = .ok (.iastore, 1) := by decide +kernel
theorem dX6_pickRow_102 : decode cX6_pickRow 102 = .ok (.return_, 1) := by decide +kernel
theorem dX6_lengthOfRow_0 : decode cX6_lengthOfRow 0 = .ok (.aload_n 0, 1) := by decide +kernel
theorem dX6_lengthOfRow_1 : decode cX6_lengthOfRow 1 = .ok (.getfield 64, 3) := by decide +kernel
theorem dX6_lengthOfRow_4 : decode cX6_lengthOfRow 4 = .ok (.arraylength, 1) := by decide +kernel
theorem dX6_lengthOfRow_5 : decode cX6_lengthOfRow 5 = .ok (.istore_n 1, 1) := by decide +kernel
theorem dX6_lengthOfRow_6 : decode cX6_lengthOfRow 6 = .ok (.lconst 0, 1) := by decide +kernel
theorem dX6_lengthOfRow_7 : decode cX6_lengthOfRow 7 = .ok (.lstore_n 2, 1) := by decide +kernel
theorem dX6_lengthOfRow_8 : decode cX6_lengthOfRow 8 = .ok (.iconst 0, 1) := by decide +kernel
theorem dX6_lengthOfRow_9 : decode cX6_lengthOfRow 9 = .ok (.istore 4, 2) := by decide +kernel
theorem dX6_lengthOfRow_11 : decode cX6_lengthOfRow 11 = .ok (.iload 4, 2) := by decide +kernel
theorem dX6_lengthOfRow_13 : decode cX6_lengthOfRow 13 = .ok (.iload_n 1, 1) := by decide +kernel
theorem dX6_lengthOfRow_14 : decode cX6_lengthOfRow 14 = .ok (.if_icmp .ge 73, 3) := by decide +kernel
theorem dX6_lengthOfRow_17 : decode cX6_lengthOfRow 17 = .ok (.iload 4, 2) := by decide +kernel
theorem dX6_lengthOfRow_19 : decode cX6_lengthOfRow 19 = .ok (.iconst 1, 1) := by decide +kernel
theorem dX6_lengthOfRow_20 : decode cX6_lengthOfRow 20 = .ok (.iadd, 1) := by decide +kernel
theorem dX6_lengthOfRow_21 : decode cX6_lengthOfRow 21 = .ok (.iload_n 1, 1) := by decide +kernel
theorem dX6_lengthOfRow_22 : decode cX6_lengthOfRow 22 = .ok (.if_icmp .ge 15, 3) := by decide +kernel
theorem dX6_lengthOfRow_25 : decode cX6_lengthOfRow 25 = .ok (.aload_n 0, 1) := by decide +kernel
theorem dX6_lengthOfRow_26 : decode cX6_lengthOfRow 26 = .ok (.getfield 64, 3) := by decide +kernel
theorem dX6_lengthOfRow_29 : decode cX6_lengthOfRow 29 = .ok (.iload 4, 2) := by decide +kernel
theorem dX6_lengthOfRow_31 : decode cX6_lengthOfRow 31 = .ok (.iconst 1, 1) := by decide +kernel
theorem dX6_lengthOfRow_32 : decode cX6_lengthOfRow 32 = .ok (.iadd, 1) := by decide +kernel
theorem dX6_lengthOfRow_33 : decode cX6_lengthOfRow 33 = .ok (.iaload, 1) := by decide +kernel
theorem dX6_lengthOfRow_34 : decode cX6_lengthOfRow 34 = .ok (.goto 9, 3) := by decide +kernel
theorem dX6_lengthOfRow_37 : decode cX6_lengthOfRow 37 = .ok (.aload_n 0, 1) := by decide +kernel
theorem dX6_lengthOfRow_38 : decode cX6_lengthOfRow 38 = .ok (.getfield 64, 3) := by decide +kernel
theorem dX6_lengthOfRow_41 : decode cX6_lengthOfRow 41 = .ok (.iconst 0, 1) := by decide +kernel
theorem dX6_lengthOfRow_42 : decode cX6_lengthOfRow 42 = .ok (.iaload, 1) := by decide +kernel
theorem dX6_lengthOfRow_43 : decode cX6_lengthOfRow 43 = .ok (.istore 5, 2) := by decide +kernel
theorem dX6_lengthOfRow_45 : decode cX6_lengthOfRow 45 = .ok (.aload_n 0, 1) := by decide +kernel
theorem dX6_lengthOfRow_46 : decode cX6_lengthOfRow 46 = .ok (.getfield 23, 3) := by decide +kernel
theorem dX6_lengthOfRow_49 : decode cX6_lengthOfRow 49 = .ok (.getfield 133, 3) := by decide +kernel
theorem dX6_lengthOfRow_52 : decode cX6_lengthOfRow 52 = .ok (.aload_n 0, 1) := by decide +kernel
theorem dX6_lengthOfRow_53 : decode cX6_lengthOfRow 53 = .ok (.getfield 64, 3) := by decide +kernel
theorem dX6_lengthOfRow_56 : decode cX6_lengthOfRow 56 = .ok (.iload 4, 2) := by decide +kernel
theorem dX6_lengthOfRow_58 : decode cX6_lengthOfRow 58 = .ok (.iaload, 1) := by decide +kernel
theorem dX6_lengthOfRow_59 : decode cX6_lengthOfRow 59 = .ok (.aaload, 1) := by decide +kernel
theorem dX6_lengthOfRow_60 : decode cX6_lengthOfRow 60 = .ok (.iload 5, 2) := by decide +kernel
theorem dX6_lengthOfRow_62 : decode cX6_lengthOfRow 62 = .ok (.iaload, 1) := by decide +kernel
theorem dX6_lengthOfRow_63 : decode cX6_lengthOfRow 63 = .ok (.istore 6, 2) := by decide +kernel
theorem dX6_lengthOfRow_65 : decode cX6_lengthOfRow 65 = .ok (.iload 6, 2) := by decide +kernel
theorem dX6_lengthOfRow_67 : decode cX6_lengthOfRow 67 = .ok (.iconst (-1), 1) := by decide +kernel
theorem dX6_lengthOfRow_68 : decode cX6_lengthOfRow 68 = .ok (.if_icmp .ne 7, 3) := by decide +kernel
theorem dX6_lengthOfRow_71 : decode cX6_lengthOfRow 71 = .ok (.ldc2_w 100, 3) := by decide +kernel
theorem dX6_lengthOfRow_74 : decode cX6_lengthOfRow 74 = .ok (.lreturn, 1) := by decide +kernel
theorem dX6_lengthOfRow_75 : decode cX6_lengthOfRow 75 = .ok (.lload_n 2, 1) := by decide +kernel
theorem dX6_lengthOfRow_76 : decode cX6_lengthOfRow 76 = .ok (.iload 6, 2) := by decide +kernel
theorem dX6_lengthOfRow_78 : decode cX6_lengthOfRow 78 = .ok (.i2l, 1) := by decide +kernel
theorem dX6_lengthOfRow_79 : decode cX6_lengthOfRow 79 = .ok (.ladd, 1) := by decide +kernel
theorem dX6_lengthOfRow_80 : decode cX6_lengthOfRow 80 = .ok (.lstore_n 2, 1) := by decide +kernel
theorem dX6_lengthOfRow_81 : decode cX6_lengthOfRow 81 = .ok (.iinc 4 1, 3) := by decide +kernel
theorem dX6_lengthOfRow_84 : decode cX6_lengthOfRow 84 = .ok (.goto (-73), 3) := by decide +kernel
theorem dX6_lengthOfRow_87 : decode cX6_lengthOfRow 87 = .ok (.lload_n 2, 1) := by decide +kernel
theorem dX6_lengthOfRow_88 : decode cX6_lengthOfRow 88 = .ok (.lreturn, 1) := by decide +kernel
theorem dX7_init_0 : decode cX7_init 0 = .ok (.aload_n 0, 1) := by decide +kernel
theorem dX7_init_1 : decode cX7_init 1 = .ok (.invokespecial 1, 3) := by decide +kernel
theorem dX7_init_4 : decode cX7_init 4 = .ok (.aload_n 0, 1) := by decide +kernel
theorem dX7_init_5 : decode cX7_init 5 = .ok (.sipush 144, 3) := by decide +kernel
theorem dX7_init_8 : decode cX7_init 8 = .ok (.newarray .long, 2) := by decide +kernel
theorem dX7_init_10 : decode cX7_init 10 = .ok (.putfield 7, 3) := by decide +kernel
theorem dX7_init_13 : decode cX7_init 13 = .ok (.aload_n 0, 1) := by decide +kernel
theorem dX7_init_14 : decode cX7_init 14 = .ok (.bipush 12, 2) := by decide +kernel
theorem dX7_init_16 : decode cX7_init 16 = .ok (.newarray .int, 2) := by decide +kernel
theorem dX7_init_18 : decode cX7_init 18 = .ok (.putfield 13, 3) := by decide +kernel
theorem dX7_init_21 : decode cX7_init 21 = .ok (.aload_n 0, 1) := by decide +kernel
theorem dX7_init_22 : decode cX7_init 22 = .ok (.bipush 12, 2) := by decide +kernel
theorem dX7_init_24 : decode cX7_init 24 = .ok (.newarray .long, 2) := by decide +kernel
theorem dX7_init_26 : decode cX7_init 26 = .ok (.putfield 17, 3) := by decide +kernel
theorem dX7_init_29 : decode cX7_init 29 = .ok (.aload_n 0, 1) := by decide +kernel
theorem dX7_init_30 : decode cX7_init 30 = .ok (.bipush 12, 2) := by decide +kernel
theorem dX7_init_32 : decode cX7_init 32 = .ok (.newarray .int, 2) := by decide +kernel
theorem dX7_init_34 : decode cX7_init 34 = .ok (.putfield 20, 3) := by decide +kernel
theorem dX7_init_37 : decode cX7_init 37 = .ok (.aload_n 0, 1) := by decide +kernel
theorem dX7_init_38 : decode cX7_init 38 = .ok (.bipush 12, 2) := by decide +kernel
theorem dX7_init_40 : decode cX7_init 40 = .ok (.newarray .boolean, 2) := by decide +kernel
theorem dX7_init_42 : decode cX7_init 42 = .ok (.putfield 23, 3) := by decide +kernel
theorem dX7_init_45 : decode cX7_init 45 = .ok (.aload_n 0, 1) := by decide +kernel
theorem dX7_init_46 : decode cX7_init 46 = .ok (.sipush 4096, 3) := by decide +kernel
theorem dX7_init_49 : decode cX7_init 49 = .ok (.newarray .long, 2) := by decide +kernel
theorem dX7_init_51 : decode cX7_init 51 = .ok (.putfield 27, 3) := by decide +kernel
theorem dX7_init_54 : decode cX7_init 54 = .ok (.aload_n 0, 1) := by decide +kernel
theorem dX7_init_55 : decode cX7_init 55 = .ok (.sipush 144, 3) := by decide +kernel
theorem dX7_init_58 : decode cX7_init 58 = .ok (.newarray .long, 2) := by decide +kernel
theorem dX7_init_60 : decode cX7_init 60 = .ok (.putfield 30, 3) := by decide +kernel
theorem dX7_init_63 : decode cX7_init 63 = .ok (.aload_n 0, 1) := by decide +kernel
theorem dX7_init_64 : decode cX7_init 64 = .ok (.sipush 144, 3) := by decide +kernel
theorem dX7_init_67 : decode cX7_init 67 = .ok (.newarray .int, 2) := by decide +kernel
theorem dX7_init_69 : decode cX7_init 69 = .ok (.putfield 33, 3) := by decide +kernel
theorem dX7_init_72 : decode cX7_init 72 = .ok (.aload_n 0, 1) := by decide +kernel
theorem dX7_init_73 : decode cX7_init 73 = .ok (.bipush 12, 2) := by decide +kernel
theorem dX7_init_75 : decode cX7_init 75 = .ok (.newarray .int, 2) := by decide +kernel
theorem dX7_init_77 : decode cX7_init 77 = .ok (.putfield 36, 3) := by decide +kernel
theorem dX7_init_80 : decode cX7_init 80 = .ok (.aload_n 0, 1) := by decide +kernel
theorem dX7_init_81 : decode cX7_init 81 = .ok (.bipush 12, 2) := by decide +kernel
theorem dX7_init_83 : decode cX7_init 83 = .ok (.newarray .int, 2) := by decide +kernel
theorem dX7_init_85 : decode cX7_init 85 = .ok (.putfield 39, 3) := by decide +kernel
theorem dX7_init_88 : decode cX7_init 88 = .ok (.aload_n 0, 1) := by decide +kernel
theorem dX7_init_89 : decode cX7_init 89 = .ok (.bipush 24, 2) := by decide +kernel
theorem dX7_init_91 : decode cX7_init 91 = .ok (.newarray .long, 2) := by decide +kernel
theorem dX7_init_93 : decode cX7_init 93 = .ok (.putfield 42, 3) := by decide +kernel
theorem dX7_init_96 : decode cX7_init 96 = .ok (.aload_n 0, 1) := by decide +kernel
theorem dX7_init_97 : decode cX7_init 97 = .ok (.bipush 24, 2) := by decide +kernel
theorem dX7_init_99 : decode cX7_init 99 = .ok (.newarray .int, 2) := by decide +kernel
theorem dX7_init_101 : decode cX7_init 101 = .ok (.putfield 45, 3) := by decide +kernel
theorem dX7_init_104 : decode cX7_init 104 = .ok (.aload_n 0, 1) := by decide +kernel
theorem dX7_init_105 : decode cX7_init 105 = .ok (.iload_n 1, 1) := by decide +kernel
theorem dX7_init_106 : decode cX7_init 106 = .ok (.iconst 3, 1) := by decide +kernel
theorem dX7_init_107 : decode cX7_init 107 = .ok (.if_icmp .ge 7, 3) := by decide +kernel
theorem dX7_init_110 : decode cX7_init 110 = .ok (.iconst 3, 1) := by decide +kernel
theorem dX7_init_111 : decode cX7_init 111 = .ok (.goto 15, 3) := by decide +kernel
theorem dX7_init_114 : decode cX7_init 114 = .ok (.iload_n 1, 1) := by decide +kernel
theorem dX7_init_115 : decode cX7_init 115 = .ok (.bipush 12, 2) := by decide +kernel
theorem dX7_init_117 : decode cX7_init 117 = .ok (.if_icmp .le 8, 3) := by decide +kernel
theorem dX7_init_120 : decode cX7_init 120 = .ok (.bipush 12, 2) := by decide +kernel
theorem dX7_init_122 : decode cX7_init 122 = .ok (.goto 4, 3) := by decide +kernel
theorem dX7_init_125 : decode cX7_init 125 = .ok (.iload_n 1, 1) := by decide +kernel
theorem dX7_init_126 : decode cX7_init 126 = .ok (.putfield 48, 3) := by decide +kernel
theorem dX7_init_129 : decode cX7_init 129 = .ok (.iconst 0, 1) := by decide +kernel
theorem dX7_init_130 : decode cX7_init 130 = .ok (.istore_n 2, 1) := by decide +kernel
theorem dX7_init_131 : decode cX7_init 131 = .ok (.iload_n 2, 1) := by decide +kernel
theorem dX7_init_132 : decode cX7_init 132 = .ok (.sipush 144, 3) := by decide +kernel
theorem dX7_init_135 : decode cX7_init 135 = .ok (.if_icmp .ge 18, 3) := by decide +kernel
theorem dX7_init_138 : decode cX7_init 138 = .ok (.aload_n 0, 1) := by decide +kernel
theorem dX7_init_139 : decode cX7_init 139 = .ok (.getfield 7, 3) := by decide +kernel
theorem dX7_init_142 : decode cX7_init 142 = .ok (.iload_n 2, 1) := by decide +kernel
theorem dX7_init_143 : decode cX7_init 143 = .ok (.ldc2_w 52, 3) := by decide +kernel
theorem dX7_init_146 : decode cX7_init 146 = .ok (.lastore, 1) := by decide +kernel
theorem dX7_init_147 : decode cX7_init 147 = .ok (.iinc 2 1, 3) := by decide +kernel
theorem dX7_init_150 : decode cX7_init 150 = .ok (.goto (-19), 3) := by decide +kernel
theorem dX7_init_153 : decode cX7_init 153 = .ok (.return_, 1) := by decide +kernel
theorem dX7_thrown_0 : decode cX7_thrown 0 = .ok (.aload_n 0, 1) := by decide +kernel
theorem dX7_thrown_1 : decode cX7_thrown 1 = .ok (.getfield 54, 3) := by decide +kernel
theorem dX7_thrown_4 : decode cX7_thrown 4 = .ok (.ireturn, 1) := by decide +kernel
theorem dX7_isPlace_0 : decode cX7_isPlace 0 = .ok (.iload_n 1, 1) := by decide +kernel
theorem dX7_isPlace_1 : decode cX7_isPlace 1 = .ok (.ifCond .lt 15, 3) := by decide +kernel
theorem dX7_isPlace_4 : decode cX7_isPlace 4 = .ok (.iload_n 1, 1) := by decide +kernel
theorem dX7_isPlace_5 : decode cX7_isPlace 5 = .ok (.aload_n 0, 1) := by decide +kernel
theorem dX7_isPlace_6 : decode cX7_isPlace 6 = .ok (.getfield 48, 3) := by decide +kernel
theorem dX7_isPlace_9 : decode cX7_isPlace 9 = .ok (.if_icmp .ge 7, 3) := by decide +kernel
theorem dX7_isPlace_12 : decode cX7_isPlace 12 = .ok (.iconst 1, 1) := by decide +kernel
theorem dX7_isPlace_13 : decode cX7_isPlace 13 = .ok (.goto 4, 3) := by decide +kernel
theorem dX7_isPlace_16 : decode cX7_isPlace 16 = .ok (.iconst 0, 1) := by decide +kernel
theorem dX7_isPlace_17 : decode cX7_isPlace 17 = .ok (.ireturn, 1) := by decide +kernel
set_option maxRecDepth 20000 in
theorem ggX7_way_X7_isPlace : GoodIn wsX7_way wsX7_isPlace := goodIn_r _ [9, 10, 11, 12, 13, 14, 15, 16, 17, 18, 19, 20, 21, 22, 23, 24, 25, 26, 27] (by decide +kernel) (by decide +kernel)
set_option maxRecDepth 20000 in
theorem gX7_way_X7_isPlace : GoodIn wsX7_way (wsV RX7 57 RX7 yX7_isPlace wsX7_isPlace) := goodIn_app (goodIn_of _ (by decide +kernel)) ggX7_way_X7_isPlace
theorem dX7_way_0 : decode cX7_way 0 = .ok (.aload_n 0, 1) := by decide +kernel
theorem dX7_way_1 : decode cX7_way 1 = .ok (.aload_n 0, 1) := by decide +kernel
theorem dX7_way_2 : decode cX7_way 2 = .ok (.iload_n 1, 1) := by decide +kernel
theorem dX7_way_3 : decode cX7_way 3 = .ok (.invokevirtual 57, 3) := by decide +kernel
theorem dX7_way_6 : decode cX7_way 6 = .ok (.ifCond .eq 15, 3) := by decide +kernel
theorem dX7_way_9 : decode cX7_way 9 = .ok (.aload_n 0, 1) := by decide +kernel
theorem dX7_way_10 : decode cX7_way 10 = .ok (.iload_n 2, 1) := by decide +kernel
theorem dX7_way_11 : decode cX7_way 11 = .ok (.invokevirtual 57, 3) := by decide +kernel
theorem dX7_way_14 : decode cX7_way 14 = .ok (.ifCond .eq 7, 3) := by decide +kernel
theorem dX7_way_17 : decode cX7_way 17 = .ok (.iconst 0, 1) := by decide +kernel
theorem dX7_way_18 : decode cX7_way 18 = .ok (.goto 4, 3) := by decide +kernel
theorem dX7_way_21 : decode cX7_way 21 = .ok (.iconst 1, 1) := by decide +kernel
theorem dX7_way_22 : decode cX7_way 22 = .ok (.putfield 54, 3) := by decide +kernel
theorem dX7_way_25 : decode cX7_way 25 = .ok (.aload_n 0, 1) := by decide +kernel
theorem dX7_way_26 : decode cX7_way 26 = .ok (.getfield 54, 3) := by decide +kernel
theorem dX7_way_29 : decode cX7_way 29 = .ok (.ifCond .ne 40, 3) := by decide +kernel
theorem dX7_way_32 : decode cX7_way 32 = .ok (.iload_n 1, 1) := by decide +kernel
theorem dX7_way_33 : decode cX7_way 33 = .ok (.iload_n 2, 1) := by decide +kernel
theorem dX7_way_34 : decode cX7_way 34 = .ok (.if_icmp .eq 35, 3) := by decide +kernel
theorem dX7_way_37 : decode cX7_way 37 = .ok (.aload_n 0, 1) := by decide +kernel
theorem dX7_way_38 : decode cX7_way 38 = .ok (.getfield 7, 3) := by decide +kernel
theorem dX7_way_41 : decode cX7_way 41 = .ok (.bipush 12, 2) := by decide +kernel
theorem dX7_way_43 : decode cX7_way 43 = .ok (.iload_n 1, 1) := by decide +kernel
theorem dX7_way_44 : decode cX7_way 44 = .ok (.imul, 1) := by decide +kernel
theorem dX7_way_45 : decode cX7_way 45 = .ok (.iload_n 2, 1) := by decide +kernel
theorem dX7_way_46 : decode cX7_way 46 = .ok (.iadd, 1) := by decide +kernel
theorem dX7_way_47 : decode cX7_way 47 = .ok (.lload_n 3, 1) := by decide +kernel
theorem dX7_way_48 : decode cX7_way 48 = .ok (.lconst 0, 1) := by decide +kernel
theorem dX7_way_49 : decode cX7_way 49 = .ok (.lcmp, 1) := by decide +kernel
theorem dX7_way_50 : decode cX7_way 50 = .ok (.ifCond .lt 11, 3) := by decide +kernel
theorem dX7_way_53 : decode cX7_way 53 = .ok (.lload_n 3, 1) := by decide +kernel
theorem dX7_way_54 : decode cX7_way 54 = .ok (.ldc2_w 61, 3) := by decide +kernel
theorem dX7_way_57 : decode cX7_way 57 = .ok (.lcmp, 1) := by decide +kernel
theorem dX7_way_58 : decode cX7_way 58 = .ok (.ifCond .le 9, 3) := by decide +kernel
theorem dX7_way_61 : decode cX7_way 61 = .ok (.ldc2_w 52, 3) := by decide +kernel
theorem dX7_way_64 : decode cX7_way 64 = .ok (.goto 4, 3) := by decide +kernel
theorem dX7_way_67 : decode cX7_way 67 = .ok (.lload_n 3, 1) := by decide +kernel
theorem dX7_way_68 : decode cX7_way 68 = .ok (.lastore, 1) := by decide +kernel
theorem dX7_way_69 : decode cX7_way 69 = .ok (.return_, 1) := by decide +kernel
theorem dX7_way__0 : decode cX7_way_ 0 = .ok (.aload_n 0, 1) := by decide +kernel
theorem dX7_way__1 : decode cX7_way_ 1 = .ok (.getfield 7, 3) := by decide +kernel
theorem dX7_way__4 : decode cX7_way_ 4 = .ok (.bipush 12, 2) := by decide +kernel
theorem dX7_way__6 : decode cX7_way_ 6 = .ok (.iload_n 1, 1) := by decide +kernel
theorem dX7_way__7 : decode cX7_way_ 7 = .ok (.imul, 1) := by decide +kernel
theorem dX7_way__8 : decode cX7_way_ 8 = .ok (.iload_n 2, 1) := by decide +kernel
theorem dX7_way__9 : decode cX7_way_ 9 = .ok (.iadd, 1) := by decide +kernel
theorem dX7_way__10 : decode cX7_way_ 10 = .ok (.laload, 1) := by decide +kernel
theorem dX7_way__11 : decode cX7_way_ 11 = .ok (.lreturn, 1) := by decide +kernel
set_option maxRecDepth 20000 in
theorem ggX7_length_X7_way_ : GoodIn wsX7_length wsX7_way_ := goodIn_r _ [5, 6, 7, 8, 9, 10, 11, 12, 13, 14, 15, 16, 17, 18, 19, 20, 21, 22, 23] (by decide +kernel) (by decide +kernel)
set_option maxRecDepth 20000 in
theorem gX7_length_X7_way_ : GoodIn wsX7_length (wsV RX7 63 RX7 yX7_way_ wsX7_way_) := goodIn_app (goodIn_of _ (by decide +kernel)) ggX7_length_X7_way_
theorem dX7_length_0 : decode cX7_length 0 = .ok (.aload_n 0, 1) := by decide +kernel
theorem dX7_length_1 : decode cX7_length 1 = .ok (.iload_n 1, 1) := by decide +kernel
theorem dX7_length_2 : decode cX7_length 2 = .ok (.iload_n 2, 1) := by decide +kernel
theorem dX7_length_3 : decode cX7_length 3 = .ok (.invokevirtual 63, 3) := by decide +kernel
theorem dX7_length_6 : decode cX7_length 6 = .ok (.aload_n 0, 1) := by decide +kernel
theorem dX7_length_7 : decode cX7_length 7 = .ok (.iload_n 2, 1) := by decide +kernel
theorem dX7_length_8 : decode cX7_length 8 = .ok (.iload_n 1, 1) := by decide +kernel
theorem dX7_length_9 : decode cX7_length 9 = .ok (.invokevirtual 63, 3) := by decide +kernel
theorem dX7_length_12 : decode cX7_length 12 = .ok (.lcmp, 1) := by decide +kernel
theorem dX7_length_13 : decode cX7_length 13 = .ok (.ifCond .ge 12, 3) := by decide +kernel
theorem dX7_length_16 : decode cX7_length 16 = .ok (.aload_n 0, 1) := by decide +kernel
theorem dX7_length_17 : decode cX7_length 17 = .ok (.iload_n 1, 1) := by decide +kernel
theorem dX7_length_18 : decode cX7_length 18 = .ok (.iload_n 2, 1) := by decide +kernel
theorem dX7_length_19 : decode cX7_length 19 = .ok (.invokevirtual 63, 3) := by decide +kernel
theorem dX7_length_22 : decode cX7_length 22 = .ok (.goto 9, 3) := by decide +kernel
theorem dX7_length_25 : decode cX7_length 25 = .ok (.aload_n 0, 1) := by decide +kernel
theorem dX7_length_26 : decode cX7_length 26 = .ok (.iload_n 2, 1) := by decide +kernel
theorem dX7_length_27 : decode cX7_length 27 = .ok (.iload_n 1, 1) := by decide +kernel
theorem dX7_length_28 : decode cX7_length 28 = .ok (.invokevirtual 63, 3) := by decide +kernel
theorem dX7_length_31 : decode cX7_length 31 = .ok (.lreturn, 1) := by decide +kernel
set_option maxRecDepth 20000 in
theorem ggX7_price_X7_length : GoodIn wsX7_price wsX7_length := goodIn_r _ [8, 9, 10, 11, 7, 12, 13, 14, 15, 16, 17, 18, 19, 20, 21, 22, 23, 24, 25, 26, 27, 28, 29, 30] (by decide +kernel) (by decide +kernel)
set_option maxRecDepth 20000 in
theorem gX7_price_X7_length : GoodIn wsX7_price (wsV RX7 67 RX7 yX7_length wsX7_length) := goodIn_app (goodIn_of _ (by decide +kernel)) ggX7_price_X7_length
theorem dX7_price_0 : decode cX7_price 0 = .ok (.aload_n 0, 1) := by decide +kernel
theorem dX7_price_1 : decode cX7_price 1 = .ok (.iload_n 1, 1) := by decide +kernel
theorem dX7_price_2 : decode cX7_price 2 = .ok (.iload_n 2, 1) := by decide +kernel
theorem dX7_price_3 : decode cX7_price 3 = .ok (.invokevirtual 67, 3) := by decide +kernel
theorem dX7_price_6 : decode cX7_price 6 = .ok (.ldc2_w 52, 3) := by decide +kernel
theorem dX7_price_9 : decode cX7_price 9 = .ok (.lcmp, 1) := by decide +kernel
theorem dX7_price_10 : decode cX7_price 10 = .ok (.ifCond .ne 9, 3) := by decide +kernel
theorem dX7_price_13 : decode cX7_price 13 = .ok (.ldc2_w 52, 3) := by decide +kernel
theorem dX7_price_16 : decode cX7_price 16 = .ok (.goto 27, 3) := by decide +kernel
theorem dX7_price_19 : decode cX7_price 19 = .ok (.ldc2_w 70, 3) := by decide +kernel
theorem dX7_price_22 : decode cX7_price 22 = .ok (.aload_n 0, 1) := by decide +kernel
theorem dX7_price_23 : decode cX7_price 23 = .ok (.iload_n 1, 1) := by decide +kernel
theorem dX7_price_24 : decode cX7_price 24 = .ok (.iload_n 2, 1) := by decide +kernel
theorem dX7_price_25 : decode cX7_price 25 = .ok (.invokevirtual 67, 3) := by decide +kernel
theorem dX7_price_28 : decode cX7_price 28 = .ok (.lmul, 1) := by decide +kernel
theorem dX7_price_29 : decode cX7_price 29 = .ok (.aload_n 0, 1) := by decide +kernel
theorem dX7_price_30 : decode cX7_price 30 = .ok (.getfield 17, 3) := by decide +kernel
theorem dX7_price_33 : decode cX7_price 33 = .ok (.iload_n 1, 1) := by decide +kernel
theorem dX7_price_34 : decode cX7_price 34 = .ok (.laload, 1) := by decide +kernel
theorem dX7_price_35 : decode cX7_price 35 = .ok (.ladd, 1) := by decide +kernel
theorem dX7_price_36 : decode cX7_price 36 = .ok (.aload_n 0, 1) := by decide +kernel
theorem dX7_price_37 : decode cX7_price 37 = .ok (.getfield 17, 3) := by decide +kernel
theorem dX7_price_40 : decode cX7_price 40 = .ok (.iload_n 2, 1) := by decide +kernel
theorem dX7_price_41 : decode cX7_price 41 = .ok (.laload, 1) := by decide +kernel
theorem dX7_price_42 : decode cX7_price 42 = .ok (.ladd, 1) := by decide +kernel
theorem dX7_price_43 : decode cX7_price 43 = .ok (.lreturn, 1) := by decide +kernel
set_option maxRecDepth 20000 in
theorem ggX7_isBefore_X7_price : GoodIn wsX7_isBefore wsX7_price := goodIn_r _ [5, 6, 7, 8, 9, 10, 11, 4, 12, 13, 14, 15, 16, 17, 18, 19, 20, 21, 22, 23, 24, 25, 26, 27, 28, 29, 30, 31, 32, 33, 34] (by decide +kernel) (by decide +kernel)
set_option maxRecDepth 20000 in
theorem gX7_isBefore_X7_price : GoodIn wsX7_isBefore (wsV RX7 72 RX7 yX7_price wsX7_price) := goodIn_app (goodIn_of _ (by decide +kernel)) ggX7_isBefore_X7_price
theorem dX7_isBefore_0 : decode cX7_isBefore 0 = .ok (.aload_n 0, 1) := by decide +kernel
theorem dX7_isBefore_1 : decode cX7_isBefore 1 = .ok (.iload_n 1, 1) := by decide +kernel
theorem dX7_isBefore_2 : decode cX7_isBefore 2 = .ok (.iload_n 2, 1) := by decide +kernel
theorem dX7_isBefore_3 : decode cX7_isBefore 3 = .ok (.invokevirtual 72, 3) := by decide +kernel
theorem dX7_isBefore_6 : decode cX7_isBefore 6 = .ok (.aload_n 0, 1) := by decide +kernel
theorem dX7_isBefore_7 : decode cX7_isBefore 7 = .ok (.iload_n 3, 1) := by decide +kernel
theorem dX7_isBefore_8 : decode cX7_isBefore 8 = .ok (.iload 4, 2) := by decide +kernel
theorem dX7_isBefore_10 : decode cX7_isBefore 10 = .ok (.invokevirtual 72, 3) := by decide +kernel
theorem dX7_isBefore_13 : decode cX7_isBefore 13 = .ok (.lcmp, 1) := by decide +kernel
theorem dX7_isBefore_14 : decode cX7_isBefore 14 = .ok (.ifCond .eq 26, 3) := by decide +kernel
theorem dX7_isBefore_17 : decode cX7_isBefore 17 = .ok (.aload_n 0, 1) := by decide +kernel
theorem dX7_isBefore_18 : decode cX7_isBefore 18 = .ok (.iload_n 1, 1) := by decide +kernel
theorem dX7_isBefore_19 : decode cX7_isBefore 19 = .ok (.iload_n 2, 1) := by decide +kernel
theorem dX7_isBefore_20 : decode cX7_isBefore 20 = .ok (.invokevirtual 72, 3) := by decide +kernel
theorem dX7_isBefore_23 : decode cX7_isBefore 23 = .ok (.aload_n 0, 1) := by decide +kernel
theorem dX7_isBefore_24 : decode cX7_isBefore 24 = .ok (.iload_n 3, 1) := by decide +kernel
theorem dX7_isBefore_25 : decode cX7_isBefore 25 = .ok (.iload 4, 2) := by decide +kernel
theorem dX7_isBefore_27 : decode cX7_isBefore 27 = .ok (.invokevirtual 72, 3) := by decide +kernel
theorem dX7_isBefore_30 : decode cX7_isBefore 30 = .ok (.lcmp, 1) := by decide +kernel
theorem dX7_isBefore_31 : decode cX7_isBefore 31 = .ok (.ifCond .ge 7, 3) := by decide +kernel
theorem dX7_isBefore_34 : decode cX7_isBefore 34 = .ok (.iconst 1, 1) := by decide +kernel
theorem dX7_isBefore_35 : decode cX7_isBefore 35 = .ok (.goto 4, 3) := by decide +kernel
theorem dX7_isBefore_38 : decode cX7_isBefore 38 = .ok (.iconst 0, 1) := by decide +kernel
theorem dX7_isBefore_39 : decode cX7_isBefore 39 = .ok (.ireturn, 1) := by decide +kernel
theorem dX7_isBefore_40 : decode cX7_isBefore 40 = .ok (.iload_n 1, 1) := by decide +kernel
theorem dX7_isBefore_41 : decode cX7_isBefore 41 = .ok (.iload_n 2, 1) := by decide +kernel
theorem dX7_isBefore_42 : decode cX7_isBefore 42 = .ok (.if_icmp .ge 7, 3) := by decide +kernel
theorem dX7_isBefore_45 : decode cX7_isBefore 45 = .ok (.iload_n 1, 1) := by decide +kernel
theorem dX7_isBefore_46 : decode cX7_isBefore 46 = .ok (.goto 4, 3) := by decide +kernel
theorem dX7_isBefore_49 : decode cX7_isBefore 49 = .ok (.iload_n 2, 1) := by decide +kernel
theorem dX7_isBefore_50 : decode cX7_isBefore 50 = .ok (.istore 5, 2) := by decide +kernel
theorem dX7_isBefore_52 : decode cX7_isBefore 52 = .ok (.iload_n 3, 1) := by decide +kernel
theorem dX7_isBefore_53 : decode cX7_isBefore 53 = .ok (.iload 4, 2) := by decide +kernel
theorem dX7_isBefore_55 : decode cX7_isBefore 55 = .ok (.if_icmp .ge 7, 3) := by decide +kernel
theorem dX7_isBefore_58 : decode cX7_isBefore 58 = .ok (.iload_n 3, 1) := by decide +kernel
theorem dX7_isBefore_59 : decode cX7_isBefore 59 = .ok (.goto 5, 3) := by decide +kernel
theorem dX7_isBefore_62 : decode cX7_isBefore 62 = .ok (.iload 4, 2) := by decide +kernel
theorem dX7_isBefore_64 : decode cX7_isBefore 64 = .ok (.istore 6, 2) := by decide +kernel
theorem dX7_isBefore_66 : decode cX7_isBefore 66 = .ok (.iload 5, 2) := by decide +kernel
theorem dX7_isBefore_68 : decode cX7_isBefore 68 = .ok (.iload 6, 2) := by decide +kernel
theorem dX7_isBefore_70 : decode cX7_isBefore 70 = .ok (.if_icmp .eq 18, 3) := by decide +kernel
theorem dX7_isBefore_73 : decode cX7_isBefore 73 = .ok (.iload 5, 2) := by decide +kernel
theorem dX7_isBefore_75 : decode cX7_isBefore 75 = .ok (.iload 6, 2) := by decide +kernel
theorem dX7_isBefore_77 : decode cX7_isBefore 77 = .ok (.if_icmp .ge 7, 3) := by decide +kernel
theorem dX7_isBefore_80 : decode cX7_isBefore 80 = .ok (.iconst 1, 1) := by decide +kernel
theorem dX7_isBefore_81 : decode cX7_isBefore 81 = .ok (.goto 37, 3) := by decide +kernel
theorem dX7_isBefore_84 : decode cX7_isBefore 84 = .ok (.iconst 0, 1) := by decide +kernel
theorem dX7_isBefore_85 : decode cX7_isBefore 85 = .ok (.goto 33, 3) := by decide +kernel
theorem dX7_isBefore_88 : decode cX7_isBefore 88 = .ok (.iload_n 1, 1) := by decide +kernel
theorem dX7_isBefore_89 : decode cX7_isBefore 89 = .ok (.iload_n 2, 1) := by decide +kernel
theorem dX7_isBefore_90 : decode cX7_isBefore 90 = .ok (.if_icmp .ge 7, 3) := by decide +kernel
theorem dX7_isBefore_93 : decode cX7_isBefore 93 = .ok (.iload_n 2, 1) := by decide +kernel
theorem dX7_isBefore_94 : decode cX7_isBefore 94 = .ok (.goto 4, 3) := by decide +kernel
theorem dX7_isBefore_97 : decode cX7_isBefore 97 = .ok (.iload_n 1, 1) := by decide +kernel
theorem dX7_isBefore_98 : decode cX7_isBefore 98 = .ok (.iload_n 3, 1) := by decide +kernel
theorem dX7_isBefore_99 : decode cX7_isBefore 99 = .ok (.iload 4, 2) := by decide +kernel
theorem dX7_isBefore_101 : decode cX7_isBefore 101 = .ok (.if_icmp .ge 8, 3) := by decide +kernel
theorem dX7_isBefore_104 : decode cX7_isBefore 104 = .ok (.iload 4, 2) := by decide +kernel
theorem dX7_isBefore_106 : decode cX7_isBefore 106 = .ok (.goto 4, 3) := by decide +kernel
theorem dX7_isBefore_109 : decode cX7_isBefore 109 = .ok (.iload_n 3, 1) := by decide +kernel
theorem dX7_isBefore_110 : decode cX7_isBefore 110 = .ok (.if_icmp .ge 7, 3) := by decide +kernel
theorem dX7_isBefore_113 : decode cX7_isBefore 113 = .ok (.iconst 1, 1) := by decide +kernel
theorem dX7_isBefore_114 : decode cX7_isBefore 114 = .ok (.goto 4, 3) := by decide +kernel
theorem dX7_isBefore_117 : decode cX7_isBefore 117 = .ok (.iconst 0, 1) := by decide +kernel
theorem dX7_isBefore_118 : decode cX7_isBefore 118 = .ok (.ireturn, 1) := by decide +kernel
set_option maxRecDepth 20000 in
theorem ggX7_take_X7_price : GoodIn wsX7_take wsX7_price := goodIn_r _ [7, 8, 9, 10, 11, 12, 13, 6, 14, 15, 16, 17, 18, 19, 20, 21, 22, 23, 24, 25, 26, 27, 28, 29, 30, 31, 32, 33, 34, 35, 36] (by decide +kernel) (by decide +kernel)
set_option maxRecDepth 20000 in
theorem gX7_take_X7_price : GoodIn wsX7_take (wsV RX7 72 RX7 yX7_price wsX7_price) := goodIn_app (goodIn_of _ (by decide +kernel)) ggX7_take_X7_price
theorem dX7_take_0 : decode cX7_take 0 = .ok (.aload_n 0, 1) := by decide +kernel
theorem dX7_take_1 : decode cX7_take 1 = .ok (.getfield 20, 3) := by decide +kernel
theorem dX7_take_4 : decode cX7_take 4 = .ok (.iload_n 1, 1) := by decide +kernel
theorem dX7_take_5 : decode cX7_take 5 = .ok (.dup2, 1) := by decide +kernel
theorem dX7_take_6 : decode cX7_take 6 = .ok (.iaload, 1) := by decide +kernel
theorem dX7_take_7 : decode cX7_take 7 = .ok (.iconst 1, 1) := by decide +kernel
theorem dX7_take_8 : decode cX7_take 8 = .ok (.iadd, 1) := by decide +kernel
theorem dX7_take_9 : decode cX7_take 9 = .ok (.iastore, 1) := by decide +kernel
theorem dX7_take_10 : decode cX7_take 10 = .ok (.aload_n 0, 1) := by decide +kernel
theorem dX7_take_11 : decode cX7_take 11 = .ok (.getfield 20, 3) := by decide +kernel
theorem dX7_take_14 : decode cX7_take 14 = .ok (.iload_n 2, 1) := by decide +kernel
theorem dX7_take_15 : decode cX7_take 15 = .ok (.dup2, 1) := by decide +kernel
theorem dX7_take_16 : decode cX7_take 16 = .ok (.iaload, 1) := by decide +kernel
theorem dX7_take_17 : decode cX7_take 17 = .ok (.iconst 1, 1) := by decide +kernel
theorem dX7_take_18 : decode cX7_take 18 = .ok (.iadd, 1) := by decide +kernel
theorem dX7_take_19 : decode cX7_take 19 = .ok (.iastore, 1) := by decide +kernel
theorem dX7_take_20 : decode cX7_take 20 = .ok (.aload_n 0, 1) := by decide +kernel
theorem dX7_take_21 : decode cX7_take 21 = .ok (.aload_n 0, 1) := by decide +kernel
theorem dX7_take_22 : decode cX7_take 22 = .ok (.getfield 75, 3) := by decide +kernel
theorem dX7_take_25 : decode cX7_take 25 = .ok (.aload_n 0, 1) := by decide +kernel
theorem dX7_take_26 : decode cX7_take 26 = .ok (.iload_n 1, 1) := by decide +kernel
theorem dX7_take_27 : decode cX7_take 27 = .ok (.iload_n 2, 1) := by decide +kernel
theorem dX7_take_28 : decode cX7_take 28 = .ok (.invokevirtual 72, 3) := by decide +kernel
theorem dX7_take_31 : decode cX7_take 31 = .ok (.ladd, 1) := by decide +kernel
theorem dX7_take_32 : decode cX7_take 32 = .ok (.putfield 75, 3) := by decide +kernel
theorem dX7_take_35 : decode cX7_take 35 = .ok (.return_, 1) := by decide +kernel
set_option maxRecDepth 20000 in
theorem ggX7_link_X7_length : GoodIn wsX7_link wsX7_length := goodIn_r _ [12, 13, 14, 15, 11, 16, 17, 30, 31, 32, 33, 34, 35, 36, 37, 38, 39, 40, 41, 42, 43, 44, 45, 46] (by decide +kernel) (by decide +kernel)
set_option maxRecDepth 20000 in
theorem gX7_link_X7_length : GoodIn wsX7_link (wsV RX7 67 RX7 yX7_length wsX7_length) := goodIn_app (goodIn_of _ (by decide +kernel)) ggX7_link_X7_length
set_option maxRecDepth 20000 in
theorem ggX7_link_X7_isBefore : GoodIn wsX7_link wsX7_isBefore := goodIn_r _ [21, 22, 23, 24, 11, 25, 5, 6, 7, 8, 9, 10, 12, 13, 14, 15, 16, 17, 30, 31, 32, 33, 34, 35, 36, 37, 38, 39, 40, 41, 42, 43, 44, 45, 46] (by decide +kernel) (by decide +kernel)
set_option maxRecDepth 20000 in
theorem gX7_link_X7_isBefore : GoodIn wsX7_link (wsV RX7 79 RX7 yX7_isBefore wsX7_isBefore) := goodIn_app (goodIn_of _ (by decide +kernel)) ggX7_link_X7_isBefore
set_option maxRecDepth 20000 in
theorem ggX7_link_X7_take : GoodIn wsX7_link wsX7_take := goodIn_r _ [29, 3, 1, 22, 23, 24, 11, 25, 5, 6, 7, 8, 9, 10, 12, 13, 14, 15, 16, 17, 30, 31, 32, 33, 34, 35, 36, 37, 38, 39, 40, 41, 42, 43, 44, 45, 46] (by decide +kernel) (by decide +kernel)
set_option maxRecDepth 20000 in
theorem gX7_link_X7_take : GoodIn wsX7_link (wsV RX7 83 RX7 yX7_take wsX7_take) := goodIn_app (goodIn_of _ (by decide +kernel)) ggX7_link_X7_take
theorem dX7_link_0 : decode cX7_link 0 = .ok (.aload_n 0, 1) := by decide +kernel
theorem dX7_link_1 : decode cX7_link 1 = .ok (.lconst 0, 1) := by decide +kernel
theorem dX7_link_2 : decode cX7_link 2 = .ok (.putfield 75, 3) := by decide +kernel
theorem dX7_link_5 : decode cX7_link 5 = .ok (.iconst 0, 1) := by decide +kernel
theorem dX7_link_6 : decode cX7_link 6 = .ok (.istore_n 1, 1) := by decide +kernel
theorem dX7_link_7 : decode cX7_link 7 = .ok (.iload_n 1, 1) := by decide +kernel
theorem dX7_link_8 : decode cX7_link 8 = .ok (.aload_n 0, 1) := by decide +kernel
theorem dX7_link_9 : decode cX7_link 9 = .ok (.getfield 48, 3) := by decide +kernel
theorem dX7_link_12 : decode cX7_link 12 = .ok (.if_icmp .ge 32, 3) := by decide +kernel
theorem dX7_link_15 : decode cX7_link 15 = .ok (.aload_n 0, 1) := by decide +kernel
theorem dX7_link_16 : decode cX7_link 16 = .ok (.getfield 20, 3) := by decide +kernel
theorem dX7_link_19 : decode cX7_link 19 = .ok (.iload_n 1, 1) := by decide +kernel
theorem dX7_link_20 : decode cX7_link 20 = .ok (.iconst 0, 1) := by decide +kernel
theorem dX7_link_21 : decode cX7_link 21 = .ok (.iastore, 1) := by decide +kernel
theorem dX7_link_22 : decode cX7_link 22 = .ok (.aload_n 0, 1) := by decide +kernel
theorem dX7_link_23 : decode cX7_link 23 = .ok (.getfield 23, 3) := by decide +kernel
theorem dX7_link_26 : decode cX7_link 26 = .ok (.iload_n 1, 1) := by decide +kernel
theorem dX7_link_27 : decode cX7_link 27 = .ok (.iload_n 1, 1) := by decide +kernel
theorem dX7_link_28 : decode cX7_link 28 = .ok (.iconst 1, 1) := by decide +kernel
theorem dX7_link_29 : decode cX7_link 29 = .ok (.if_icmp .ne 7, 3) := by decide +kernel
theorem dX7_link_32 : decode cX7_link 32 = .ok (.iconst 1, 1) := by decide +kernel
theorem dX7_link_33 : decode cX7_link 33 = .ok (.goto 4, 3) := by decide +kernel
theorem dX7_link_36 : decode cX7_link 36 = .ok (.iconst 0, 1) := by decide +kernel
theorem dX7_link_37 : decode cX7_link 37 = .ok (.bastore, 1) := by decide +kernel
theorem dX7_link_38 : decode cX7_link 38 = .ok (.iinc 1 1, 3) := by decide +kernel
theorem dX7_link_41 : decode cX7_link 41 = .ok (.goto (-34), 3) := by decide +kernel
theorem dX7_link_44 : decode cX7_link 44 = .ok (.iconst 2, 1) := by decide +kernel
theorem dX7_link_45 : decode cX7_link 45 = .ok (.istore_n 1, 1) := by decide +kernel
theorem dX7_link_46 : decode cX7_link 46 = .ok (.iload_n 1, 1) := by decide +kernel
theorem dX7_link_47 : decode cX7_link 47 = .ok (.aload_n 0, 1) := by decide +kernel
theorem dX7_link_48 : decode cX7_link 48 = .ok (.getfield 48, 3) := by decide +kernel
theorem dX7_link_51 : decode cX7_link 51 = .ok (.if_icmp .ge 126, 3) := by decide +kernel
theorem dX7_link_54 : decode cX7_link 54 = .ok (.iconst 0, 1) := by decide +kernel
theorem dX7_link_55 : decode cX7_link 55 = .ok (.istore_n 2, 1) := by decide +kernel
theorem dX7_link_56 : decode cX7_link 56 = .ok (.iconst 0, 1) := by decide +kernel
theorem dX7_link_57 : decode cX7_link 57 = .ok (.istore_n 3, 1) := by decide +kernel
theorem dX7_link_58 : decode cX7_link 58 = .ok (.iconst 1, 1) := by decide +kernel
theorem dX7_link_59 : decode cX7_link 59 = .ok (.istore 4, 2) := by decide +kernel
theorem dX7_link_61 : decode cX7_link 61 = .ok (.iload 4, 2) := by decide +kernel
theorem dX7_link_63 : decode cX7_link 63 = .ok (.aload_n 0, 1) := by decide +kernel
theorem dX7_link_64 : decode cX7_link 64 = .ok (.getfield 48, 3) := by decide +kernel
theorem dX7_link_67 : decode cX7_link 67 = .ok (.if_icmp .ge 85, 3) := by decide +kernel
theorem dX7_link_70 : decode cX7_link 70 = .ok (.iconst 1, 1) := by decide +kernel
theorem dX7_link_71 : decode cX7_link 71 = .ok (.istore 5, 2) := by decide +kernel
theorem dX7_link_73 : decode cX7_link 73 = .ok (.iload 5, 2) := by decide +kernel
theorem dX7_link_75 : decode cX7_link 75 = .ok (.aload_n 0, 1) := by decide +kernel
theorem dX7_link_76 : decode cX7_link 76 = .ok (.getfield 48, 3) := by decide +kernel
theorem dX7_link_79 : decode cX7_link 79 = .ok (.if_icmp .ge 67, 3) := by decide +kernel
theorem dX7_link_82 : decode cX7_link 82 = .ok (.aload_n 0, 1) := by decide +kernel
theorem dX7_link_83 : decode cX7_link 83 = .ok (.getfield 23, 3) := by decide +kernel
theorem dX7_link_86 : decode cX7_link 86 = .ok (.iload 4, 2) := by decide +kernel
theorem dX7_link_88 : decode cX7_link 88 = .ok (.baload, 1) := by decide +kernel
theorem dX7_link_89 : decode cX7_link 89 = .ok (.ifCond .eq 51, 3) := by decide +kernel
theorem dX7_link_92 : decode cX7_link 92 = .ok (.aload_n 0, 1) := by decide +kernel
theorem dX7_link_93 : decode cX7_link 93 = .ok (.getfield 23, 3) := by decide +kernel
theorem dX7_link_96 : decode cX7_link 96 = .ok (.iload 5, 2) := by decide +kernel
theorem dX7_link_98 : decode cX7_link 98 = .ok (.baload, 1) := by decide +kernel
theorem dX7_link_99 : decode cX7_link 99 = .ok (.ifCond .ne 41, 3) := by decide +kernel
theorem dX7_link_102 : decode cX7_link 102 = .ok (.aload_n 0, 1) := by decide +kernel
theorem dX7_link_103 : decode cX7_link 103 = .ok (.iload 4, 2) := by decide +kernel
theorem dX7_link_105 : decode cX7_link 105 = .ok (.iload 5, 2) := by decide +kernel
theorem dX7_link_107 : decode cX7_link 107 = .ok (.invokevirtual 67, 3) := by decide +kernel
theorem dX7_link_110 : decode cX7_link 110 = .ok (.ldc2_w 52, 3) := by decide +kernel
theorem dX7_link_113 : decode cX7_link 113 = .ok (.lcmp, 1) := by decide +kernel
theorem dX7_link_114 : decode cX7_link 114 = .ok (.ifCond .ge 26, 3) := by decide +kernel
theorem dX7_link_117 : decode cX7_link 117 = .ok (.iload_n 3, 1) := by decide +kernel
theorem dX7_link_118 : decode cX7_link 118 = .ok (.ifCond .eq 16, 3) := by decide +kernel
theorem dX7_link_121 : decode cX7_link 121 = .ok (.aload_n 0, 1) := by decide +kernel
theorem dX7_link_122 : decode cX7_link 122 = .ok (.iload 4, 2) := by decide +kernel
theorem dX7_link_124 : decode cX7_link 124 = .ok (.iload 5, 2) := by decide +kernel
theorem dX7_link_126 : decode cX7_link 126 = .ok (.iload_n 2, 1) := by decide +kernel
theorem dX7_link_127 : decode cX7_link 127 = .ok (.iload_n 3, 1) := by decide +kernel
theorem dX7_link_128 : decode cX7_link 128 = .ok (.invokevirtual 79, 3) := by decide +kernel
theorem dX7_link_131 : decode cX7_link 131 = .ok (.ifCond .eq 9, 3) := by decide +kernel
theorem dX7_link_134 : decode cX7_link 134 = .ok (.iload 4, 2) := by decide +kernel
theorem dX7_link_136 : decode cX7_link 136 = .ok (.istore_n 2, 1) := by decide +kernel
theorem dX7_link_137 : decode cX7_link 137 = .ok (.iload 5, 2) := by decide +kernel
theorem dX7_link_139 : decode cX7_link 139 = .ok (.istore_n 3, 1) := by decide +kernel
theorem dX7_link_140 : decode cX7_link 140 = .ok (.iinc 5 1, 3) := by decide +kernel
theorem dX7_link_143 : decode cX7_link 143 = .ok (.goto (-70), 3) := by decide +kernel
theorem dX7_link_146 : decode cX7_link 146 = .ok (.iinc 4 1, 3) := by decide +kernel
theorem dX7_link_149 : decode cX7_link 149 = .ok (.goto (-88), 3) := by decide +kernel
theorem dX7_link_152 : decode cX7_link 152 = .ok (.iload_n 3, 1) := by decide +kernel
theorem dX7_link_153 : decode cX7_link 153 = .ok (.ifCond .ne 5, 3) := by decide +kernel
theorem dX7_link_156 : decode cX7_link 156 = .ok (.iconst 0, 1) := by decide +kernel
theorem dX7_link_157 : decode cX7_link 157 = .ok (.ireturn, 1) := by decide +kernel
theorem dX7_link_158 : decode cX7_link 158 = .ok (.aload_n 0, 1) := by decide +kernel
theorem dX7_link_159 : decode cX7_link 159 = .ok (.getfield 23, 3) := by decide +kernel
theorem dX7_link_162 : decode cX7_link 162 = .ok (.iload_n 3, 1) := by decide +kernel
theorem dX7_link_163 : decode cX7_link 163 = .ok (.iconst 1, 1) := by decide +kernel
theorem dX7_link_164 : decode cX7_link 164 = .ok (.bastore, 1) := by decide +kernel
theorem dX7_link_165 : decode cX7_link 165 = .ok (.aload_n 0, 1) := by decide +kernel
theorem dX7_link_166 : decode cX7_link 166 = .ok (.iload_n 2, 1) := by decide +kernel
theorem dX7_link_167 : decode cX7_link 167 = .ok (.iload_n 3, 1) := by decide +kernel
theorem dX7_link_168 : decode cX7_link 168 = .ok (.invokevirtual 83, 3) := by decide +kernel
theorem dX7_link_171 : decode cX7_link 171 = .ok (.iinc 1 1, 3) := by decide +kernel
theorem dX7_link_174 : decode cX7_link 174 = .ok (.goto (-128), 3) := by decide +kernel
theorem dX7_link_177 : decode cX7_link 177 = .ok (.iconst 0, 1) := by decide +kernel
theorem dX7_link_178 : decode cX7_link 178 = .ok (.istore_n 1, 1) := by decide +kernel
theorem dX7_link_179 : decode cX7_link 179 = .ok (.iconst 0, 1) := by decide +kernel
theorem dX7_link_180 : decode cX7_link 180 = .ok (.istore_n 2, 1) := by decide +kernel
theorem dX7_link_181 : decode cX7_link 181 = .ok (.iload_n 2, 1) := by decide +kernel
theorem dX7_link_182 : decode cX7_link 182 = .ok (.iconst 2, 1) := by decide +kernel
theorem dX7_link_183 : decode cX7_link 183 = .ok (.if_icmp .ge 82, 3) := by decide +kernel
theorem dX7_link_186 : decode cX7_link 186 = .ok (.iconst 0, 1) := by decide +kernel
theorem dX7_link_187 : decode cX7_link 187 = .ok (.istore_n 3, 1) := by decide +kernel
theorem dX7_link_188 : decode cX7_link 188 = .ok (.iconst 1, 1) := by decide +kernel
theorem dX7_link_189 : decode cX7_link 189 = .ok (.istore 4, 2) := by decide +kernel
theorem dX7_link_191 : decode cX7_link 191 = .ok (.iload 4, 2) := by decide +kernel
theorem dX7_link_193 : decode cX7_link 193 = .ok (.aload_n 0, 1) := by decide +kernel
theorem dX7_link_194 : decode cX7_link 194 = .ok (.getfield 48, 3) := by decide +kernel
theorem dX7_link_197 : decode cX7_link 197 = .ok (.if_icmp .ge 48, 3) := by decide +kernel
theorem dX7_link_200 : decode cX7_link 200 = .ok (.aload_n 0, 1) := by decide +kernel
theorem dX7_link_201 : decode cX7_link 201 = .ok (.iconst 0, 1) := by decide +kernel
theorem dX7_link_202 : decode cX7_link 202 = .ok (.iload 4, 2) := by decide +kernel
theorem dX7_link_204 : decode cX7_link 204 = .ok (.invokevirtual 67, 3) := by decide +kernel
theorem dX7_link_207 : decode cX7_link 207 = .ok (.ldc2_w 52, 3) := by decide +kernel
theorem dX7_link_210 : decode cX7_link 210 = .ok (.lcmp, 1) := by decide +kernel
theorem dX7_link_211 : decode cX7_link 211 = .ok (.ifCond .ge 28, 3) := by decide +kernel
theorem dX7_link_214 : decode cX7_link 214 = .ok (.iload 4, 2) := by decide +kernel
theorem dX7_link_216 : decode cX7_link 216 = .ok (.iload_n 1, 1) := by decide +kernel
theorem dX7_link_217 : decode cX7_link 217 = .ok (.if_icmp .eq 22, 3) := by decide +kernel
theorem dX7_link_220 : decode cX7_link 220 = .ok (.iload_n 3, 1) := by decide +kernel
theorem dX7_link_221 : decode cX7_link 221 = .ok (.ifCond .eq 15, 3) := by decide +kernel
theorem dX7_link_224 : decode cX7_link 224 = .ok (.aload_n 0, 1) := by decide +kernel
theorem dX7_link_225 : decode cX7_link 225 = .ok (.iconst 0, 1) := by decide +kernel
theorem dX7_link_226 : decode cX7_link 226 = .ok (.iload 4, 2) := by decide +kernel
theorem dX7_link_228 : decode cX7_link 228 = .ok (.iconst 0, 1) := by decide +kernel
theorem dX7_link_229 : decode cX7_link 229 = .ok (.iload_n 3, 1) := by decide +kernel
theorem dX7_link_230 : decode cX7_link 230 = .ok (.invokevirtual 79, 3) := by decide +kernel
theorem dX7_link_233 : decode cX7_link 233 = .ok (.ifCond .eq 6, 3) := by decide +kernel
theorem dX7_link_236 : decode cX7_link 236 = .ok (.iload 4, 2) := by decide +kernel
theorem dX7_link_238 : decode cX7_link 238 = .ok (.istore_n 3, 1) := by decide +kernel
theorem dX7_link_239 : decode cX7_link 239 = .ok (.iinc 4 1, 3) := by decide +kernel
theorem dX7_link_242 : decode cX7_link 242 = .ok (.goto (-51), 3) := by decide +kernel
theorem dX7_link_245 : decode cX7_link 245 = .ok (.iload_n 3, 1) := by decide +kernel
theorem dX7_link_246 : decode cX7_link 246 = .ok (.ifCond .ne 5, 3) := by decide +kernel
theorem dX7_link_249 : decode cX7_link 249 = .ok (.iconst 0, 1) := by decide +kernel
theorem dX7_link_250 : decode cX7_link 250 = .ok (.ireturn, 1) := by decide +kernel
theorem dX7_link_251 : decode cX7_link 251 = .ok (.aload_n 0, 1) := by decide +kernel
theorem dX7_link_252 : decode cX7_link 252 = .ok (.iconst 0, 1) := by decide +kernel
theorem dX7_link_253 : decode cX7_link 253 = .ok (.iload_n 3, 1) := by decide +kernel
theorem dX7_link_254 : decode cX7_link 254 = .ok (.invokevirtual 83, 3) := by decide +kernel
theorem dX7_link_257 : decode cX7_link 257 = .ok (.iload_n 3, 1) := by decide +kernel
theorem dX7_link_258 : decode cX7_link 258 = .ok (.istore_n 1, 1) := by decide +kernel
theorem dX7_link_259 : decode cX7_link 259 = .ok (.iinc 2 1, 3) := by decide +kernel
theorem dX7_link_262 : decode cX7_link 262 = .ok (.goto (-81), 3) := by decide +kernel
theorem dX7_link_265 : decode cX7_link 265 = .ok (.iconst 0, 1) := by decide +kernel
theorem dX7_link_266 : decode cX7_link 266 = .ok (.istore_n 2, 1) := by decide +kernel
theorem dX7_link_267 : decode cX7_link 267 = .ok (.iload_n 2, 1) := by decide +kernel
theorem dX7_link_268 : decode cX7_link 268 = .ok (.aload_n 0, 1) := by decide +kernel
theorem dX7_link_269 : decode cX7_link 269 = .ok (.getfield 48, 3) := by decide +kernel
theorem dX7_link_272 : decode cX7_link 272 = .ok (.if_icmp .ge 28, 3) := by decide +kernel
theorem dX7_link_275 : decode cX7_link 275 = .ok (.aload_n 0, 1) := by decide +kernel
theorem dX7_link_276 : decode cX7_link 276 = .ok (.aload_n 0, 1) := by decide +kernel
theorem dX7_link_277 : decode cX7_link 277 = .ok (.getfield 75, 3) := by decide +kernel
theorem dX7_link_280 : decode cX7_link 280 = .ok (.ldc2_w 70, 3) := by decide +kernel
theorem dX7_link_283 : decode cX7_link 283 = .ok (.aload_n 0, 1) := by decide +kernel
theorem dX7_link_284 : decode cX7_link 284 = .ok (.getfield 17, 3) := by decide +kernel
theorem dX7_link_287 : decode cX7_link 287 = .ok (.iload_n 2, 1) := by decide +kernel
theorem dX7_link_288 : decode cX7_link 288 = .ok (.laload, 1) := by decide +kernel
theorem dX7_link_289 : decode cX7_link 289 = .ok (.lmul, 1) := by decide +kernel
theorem dX7_link_290 : decode cX7_link 290 = .ok (.lsub, 1) := by decide +kernel
theorem dX7_link_291 : decode cX7_link 291 = .ok (.putfield 75, 3) := by decide +kernel
theorem dX7_link_294 : decode cX7_link 294 = .ok (.iinc 2 1, 3) := by decide +kernel
theorem dX7_link_297 : decode cX7_link 297 = .ok (.goto (-30), 3) := by decide +kernel
theorem dX7_link_300 : decode cX7_link 300 = .ok (.iconst 1, 1) := by decide +kernel
theorem dX7_link_301 : decode cX7_link 301 = .ok (.ireturn, 1) := by decide +kernel
set_option maxRecDepth 20000 in
theorem ggX7_grow_X7_link : GoodIn wsX7_grow wsX7_link := goodIn_r _ [12, 6, 1, 7, 13, 5, 14, 2, 15, 16, 17, 11, 18, 19, 20, 21, 22, 23, 24, 25, 26, 27, 28, 29, 30, 31, 32, 33, 34, 35, 36, 37, 38, 39, 40, 41, 42, 43, 44, 45, 46, 47, 48, 49, 50, 51, 52] (by decide +kernel) (by decide +kernel)
set_option maxRecDepth 20000 in
theorem gX7_grow_X7_link : GoodIn wsX7_grow (wsV RX7 92 RX7 yX7_link wsX7_link) := goodIn_app (goodIn_of _ (by decide +kernel)) ggX7_grow_X7_link
theorem dX7_grow_0 : decode cX7_grow 0 = .ok (.iconst 0, 1) := by decide +kernel
theorem dX7_grow_1 : decode cX7_grow 1 = .ok (.istore_n 2, 1) := by decide +kernel
theorem dX7_grow_2 : decode cX7_grow 2 = .ok (.iload_n 2, 1) := by decide +kernel
theorem dX7_grow_3 : decode cX7_grow 3 = .ok (.aload_n 0, 1) := by decide +kernel
theorem dX7_grow_4 : decode cX7_grow 4 = .ok (.getfield 48, 3) := by decide +kernel
theorem dX7_grow_7 : decode cX7_grow 7 = .ok (.if_icmp .ge 16, 3) := by decide +kernel
theorem dX7_grow_10 : decode cX7_grow 10 = .ok (.aload_n 0, 1) := by decide +kernel
theorem dX7_grow_11 : decode cX7_grow 11 = .ok (.getfield 17, 3) := by decide +kernel
theorem dX7_grow_14 : decode cX7_grow 14 = .ok (.iload_n 2, 1) := by decide +kernel
theorem dX7_grow_15 : decode cX7_grow 15 = .ok (.lconst 0, 1) := by decide +kernel
theorem dX7_grow_16 : decode cX7_grow 16 = .ok (.lastore, 1) := by decide +kernel
theorem dX7_grow_17 : decode cX7_grow 17 = .ok (.iinc 2 1, 3) := by decide +kernel
theorem dX7_grow_20 : decode cX7_grow 20 = .ok (.goto (-18), 3) := by decide +kernel
theorem dX7_grow_23 : decode cX7_grow 23 = .ok (.ldc2_w 87, 3) := by decide +kernel
theorem dX7_grow_26 : decode cX7_grow 26 = .ok (.lstore_n 2, 1) := by decide +kernel
theorem dX7_grow_27 : decode cX7_grow 27 = .ok (.aload_n 0, 1) := by decide +kernel
theorem dX7_grow_28 : decode cX7_grow 28 = .ok (.iconst 0, 1) := by decide +kernel
theorem dX7_grow_29 : decode cX7_grow 29 = .ok (.putfield 89, 3) := by decide +kernel
theorem dX7_grow_32 : decode cX7_grow 32 = .ok (.iconst 1, 1) := by decide +kernel
theorem dX7_grow_33 : decode cX7_grow 33 = .ok (.istore 4, 2) := by decide +kernel
theorem dX7_grow_35 : decode cX7_grow 35 = .ok (.iload 4, 2) := by decide +kernel
theorem dX7_grow_37 : decode cX7_grow 37 = .ok (.iload_n 1, 1) := by decide +kernel
theorem dX7_grow_38 : decode cX7_grow 38 = .ok (.if_icmp .gt 134, 3) := by decide +kernel
theorem dX7_grow_41 : decode cX7_grow 41 = .ok (.aload_n 0, 1) := by decide +kernel
theorem dX7_grow_42 : decode cX7_grow 42 = .ok (.invokevirtual 92, 3) := by decide +kernel
theorem dX7_grow_45 : decode cX7_grow 45 = .ok (.ifCond .ne 7, 3) := by decide +kernel
theorem dX7_grow_48 : decode cX7_grow 48 = .ok (.ldc2_w 52, 3) := by decide +kernel
theorem dX7_grow_51 : decode cX7_grow 51 = .ok (.lreturn, 1) := by decide +kernel
theorem dX7_grow_52 : decode cX7_grow 52 = .ok (.aload_n 0, 1) := by decide +kernel
theorem dX7_grow_53 : decode cX7_grow 53 = .ok (.getfield 75, 3) := by decide +kernel
theorem dX7_grow_56 : decode cX7_grow 56 = .ok (.lload_n 2, 1) := by decide +kernel
theorem dX7_grow_57 : decode cX7_grow 57 = .ok (.lcmp, 1) := by decide +kernel
theorem dX7_grow_58 : decode cX7_grow 58 = .ok (.ifCond .le 14, 3) := by decide +kernel
theorem dX7_grow_61 : decode cX7_grow 61 = .ok (.aload_n 0, 1) := by decide +kernel
theorem dX7_grow_62 : decode cX7_grow 62 = .ok (.getfield 75, 3) := by decide +kernel
theorem dX7_grow_65 : decode cX7_grow 65 = .ok (.lstore_n 2, 1) := by decide +kernel
theorem dX7_grow_66 : decode cX7_grow 66 = .ok (.aload_n 0, 1) := by decide +kernel
theorem dX7_grow_67 : decode cX7_grow 67 = .ok (.iload 4, 2) := by decide +kernel
theorem dX7_grow_69 : decode cX7_grow 69 = .ok (.putfield 89, 3) := by decide +kernel
theorem dX7_grow_72 : decode cX7_grow 72 = .ok (.iload 4, 2) := by decide +kernel
theorem dX7_grow_74 : decode cX7_grow 74 = .ok (.iconst 5, 1) := by decide +kernel
theorem dX7_grow_75 : decode cX7_grow 75 = .ok (.if_icmp .ge 8, 3) := by decide +kernel
theorem dX7_grow_78 : decode cX7_grow 78 = .ok (.bipush 16, 2) := by decide +kernel
theorem dX7_grow_80 : decode cX7_grow 80 = .ok (.goto 38, 3) := by decide +kernel
theorem dX7_grow_83 : decode cX7_grow 83 = .ok (.iload 4, 2) := by decide +kernel
theorem dX7_grow_85 : decode cX7_grow 85 = .ok (.bipush 9, 2) := by decide +kernel
theorem dX7_grow_87 : decode cX7_grow 87 = .ok (.if_icmp .ge 8, 3) := by decide +kernel
theorem dX7_grow_90 : decode cX7_grow 90 = .ok (.bipush 8, 2) := by decide +kernel
theorem dX7_grow_92 : decode cX7_grow 92 = .ok (.goto 26, 3) := by decide +kernel
theorem dX7_grow_95 : decode cX7_grow 95 = .ok (.iload 4, 2) := by decide +kernel
theorem dX7_grow_97 : decode cX7_grow 97 = .ok (.bipush 13, 2) := by decide +kernel
theorem dX7_grow_99 : decode cX7_grow 99 = .ok (.if_icmp .ge 7, 3) := by decide +kernel
theorem dX7_grow_102 : decode cX7_grow 102 = .ok (.iconst 4, 1) := by decide +kernel
theorem dX7_grow_103 : decode cX7_grow 103 = .ok (.goto 15, 3) := by decide +kernel
theorem dX7_grow_106 : decode cX7_grow 106 = .ok (.iload 4, 2) := by decide +kernel
theorem dX7_grow_108 : decode cX7_grow 108 = .ok (.bipush 17, 2) := by decide +kernel
theorem dX7_grow_110 : decode cX7_grow 110 = .ok (.if_icmp .ge 7, 3) := by decide +kernel
theorem dX7_grow_113 : decode cX7_grow 113 = .ok (.iconst 2, 1) := by decide +kernel
theorem dX7_grow_114 : decode cX7_grow 114 = .ok (.goto 4, 3) := by decide +kernel
theorem dX7_grow_117 : decode cX7_grow 117 = .ok (.iconst 1, 1) := by decide +kernel
theorem dX7_grow_118 : decode cX7_grow 118 = .ok (.istore 5, 2) := by decide +kernel
theorem dX7_grow_120 : decode cX7_grow 120 = .ok (.iconst 0, 1) := by decide +kernel
theorem dX7_grow_121 : decode cX7_grow 121 = .ok (.istore 6, 2) := by decide +kernel
theorem dX7_grow_123 : decode cX7_grow 123 = .ok (.iload 6, 2) := by decide +kernel
theorem dX7_grow_125 : decode cX7_grow 125 = .ok (.aload_n 0, 1) := by decide +kernel
theorem dX7_grow_126 : decode cX7_grow 126 = .ok (.getfield 48, 3) := by decide +kernel
theorem dX7_grow_129 : decode cX7_grow 129 = .ok (.if_icmp .ge 37, 3) := by decide +kernel
theorem dX7_grow_132 : decode cX7_grow 132 = .ok (.aload_n 0, 1) := by decide +kernel
theorem dX7_grow_133 : decode cX7_grow 133 = .ok (.getfield 17, 3) := by decide +kernel
theorem dX7_grow_136 : decode cX7_grow 136 = .ok (.iload 6, 2) := by decide +kernel
theorem dX7_grow_138 : decode cX7_grow 138 = .ok (.aload_n 0, 1) := by decide +kernel
theorem dX7_grow_139 : decode cX7_grow 139 = .ok (.getfield 17, 3) := by decide +kernel
theorem dX7_grow_142 : decode cX7_grow 142 = .ok (.iload 6, 2) := by decide +kernel
theorem dX7_grow_144 : decode cX7_grow 144 = .ok (.laload, 1) := by decide +kernel
theorem dX7_grow_145 : decode cX7_grow 145 = .ok (.aload_n 0, 1) := by decide +kernel
theorem dX7_grow_146 : decode cX7_grow 146 = .ok (.getfield 20, 3) := by decide +kernel
theorem dX7_grow_149 : decode cX7_grow 149 = .ok (.iload 6, 2) := by decide +kernel
theorem dX7_grow_151 : decode cX7_grow 151 = .ok (.iaload, 1) := by decide +kernel
theorem dX7_grow_152 : decode cX7_grow 152 = .ok (.iconst 2, 1) := by decide +kernel
theorem dX7_grow_153 : decode cX7_grow 153 = .ok (.isub, 1) := by decide +kernel
theorem dX7_grow_154 : decode cX7_grow 154 = .ok (.iload 5, 2) := by decide +kernel
theorem dX7_grow_156 : decode cX7_grow 156 = .ok (.imul, 1) := by decide +kernel
theorem dX7_grow_157 : decode cX7_grow 157 = .ok (.i2l, 1) := by decide +kernel
theorem dX7_grow_158 : decode cX7_grow 158 = .ok (.ladd, 1) := by decide +kernel
theorem dX7_grow_159 : decode cX7_grow 159 = .ok (.lastore, 1) := by decide +kernel
theorem dX7_grow_160 : decode cX7_grow 160 = .ok (.iinc 6 1, 3) := by decide +kernel
theorem dX7_grow_163 : decode cX7_grow 163 = .ok (.goto (-40), 3) := by decide +kernel
theorem dX7_grow_166 : decode cX7_grow 166 = .ok (.iinc 4 1, 3) := by decide +kernel
theorem dX7_grow_169 : decode cX7_grow 169 = .ok (.goto (-134), 3) := by decide +kernel
theorem dX7_grow_172 : decode cX7_grow 172 = .ok (.lload_n 2, 1) := by decide +kernel
theorem dX7_grow_173 : decode cX7_grow 173 = .ok (.lreturn, 1) := by decide +kernel
theorem dX7_half_0 : decode cX7_half 0 = .ok (.lload_n 0, 1) := by decide +kernel
theorem dX7_half_1 : decode cX7_half 1 = .ok (.ldc2_w 52, 3) := by decide +kernel
theorem dX7_half_4 : decode cX7_half 4 = .ok (.lcmp, 1) := by decide +kernel
theorem dX7_half_5 : decode cX7_half 5 = .ok (.ifCond .ne 9, 3) := by decide +kernel
theorem dX7_half_8 : decode cX7_half 8 = .ok (.ldc2_w 96, 3) := by decide +kernel
theorem dX7_half_11 : decode cX7_half 11 = .ok (.goto 20, 3) := by decide +kernel
theorem dX7_half_14 : decode cX7_half 14 = .ok (.lload_n 0, 1) := by decide +kernel
theorem dX7_half_15 : decode cX7_half 15 = .ok (.lconst 0, 1) := by decide +kernel
theorem dX7_half_16 : decode cX7_half 16 = .ok (.lcmp, 1) := by decide +kernel
theorem dX7_half_17 : decode cX7_half 17 = .ok (.ifCond .ge 7, 3) := by decide +kernel
theorem dX7_half_20 : decode cX7_half 20 = .ok (.lconst 0, 1) := by decide +kernel
theorem dX7_half_21 : decode cX7_half 21 = .ok (.goto 10, 3) := by decide +kernel
theorem dX7_half_24 : decode cX7_half 24 = .ok (.lload_n 0, 1) := by decide +kernel
theorem dX7_half_25 : decode cX7_half 25 = .ok (.lconst 1, 1) := by decide +kernel
theorem dX7_half_26 : decode cX7_half 26 = .ok (.ladd, 1) := by decide +kernel
theorem dX7_half_27 : decode cX7_half 27 = .ok (.ldc2_w 70, 3) := by decide +kernel
theorem dX7_half_30 : decode cX7_half 30 = .ok (.ldiv, 1) := by decide +kernel
theorem dX7_half_31 : decode cX7_half 31 = .ok (.lreturn, 1) := by decide +kernel
set_option maxRecDepth 20000 in
theorem ggX7_tree_X7_grow : GoodIn wsX7_tree wsX7_grow := goodIn_r _ [6, 7, 8, 9, 10, 11, 12, 13, 14, 15, 16, 5, 17, 18, 19, 20, 21, 22, 23, 24, 25, 26, 27, 28, 29, 30, 31, 32, 33, 34, 35, 36, 37, 38, 39, 40, 45, 46, 47, 48, 49, 50, 51, 52, 53, 54, 55, 56, 57, 58, 59, 60, 61] (by decide +kernel) (by decide +kernel)
set_option maxRecDepth 20000 in
theorem gX7_tree_X7_grow : GoodIn wsX7_tree (wsV RX7 98 RX7 yX7_grow wsX7_grow) := goodIn_app (goodIn_of _ (by decide +kernel)) ggX7_tree_X7_grow
set_option maxRecDepth 20000 in
theorem ggX7_tree_X7_half : GoodIn wsX7_tree wsX7_half := goodIn_r _ [43, 11, 44, 19] (by decide +kernel) (by decide +kernel)
set_option maxRecDepth 20000 in
theorem gX7_tree_X7_half : GoodIn wsX7_tree (va_wsS RX7 102 yX7_half wsX7_half) := goodIn_app (goodIn_of _ (by decide +kernel)) ggX7_tree_X7_half
theorem dX7_tree_0 : decode cX7_tree 0 = .ok (.aload_n 0, 1) := by decide +kernel
theorem dX7_tree_1 : decode cX7_tree 1 = .ok (.iconst 0, 1) := by decide +kernel
theorem dX7_tree_2 : decode cX7_tree 2 = .ok (.putfield 54, 3) := by decide +kernel
theorem dX7_tree_5 : decode cX7_tree 5 = .ok (.aload_n 0, 1) := by decide +kernel
theorem dX7_tree_6 : decode cX7_tree 6 = .ok (.iload_n 1, 1) := by decide +kernel
theorem dX7_tree_7 : decode cX7_tree 7 = .ok (.iconst 1, 1) := by decide +kernel
theorem dX7_tree_8 : decode cX7_tree 8 = .ok (.if_icmp .ge 7, 3) := by decide +kernel
theorem dX7_tree_11 : decode cX7_tree 11 = .ok (.iconst 1, 1) := by decide +kernel
theorem dX7_tree_12 : decode cX7_tree 12 = .ok (.goto 15, 3) := by decide +kernel
theorem dX7_tree_15 : decode cX7_tree 15 = .ok (.iload_n 1, 1) := by decide +kernel
theorem dX7_tree_16 : decode cX7_tree 16 = .ok (.bipush 50, 2) := by decide +kernel
theorem dX7_tree_18 : decode cX7_tree 18 = .ok (.if_icmp .le 8, 3) := by decide +kernel
theorem dX7_tree_21 : decode cX7_tree 21 = .ok (.bipush 50, 2) := by decide +kernel
theorem dX7_tree_23 : decode cX7_tree 23 = .ok (.goto 4, 3) := by decide +kernel
theorem dX7_tree_26 : decode cX7_tree 26 = .ok (.iload_n 1, 1) := by decide +kernel
theorem dX7_tree_27 : decode cX7_tree 27 = .ok (.invokevirtual 98, 3) := by decide +kernel
theorem dX7_tree_30 : decode cX7_tree 30 = .ok (.invokestatic 102, 3) := by decide +kernel
theorem dX7_tree_33 : decode cX7_tree 33 = .ok (.lreturn, 1) := by decide +kernel
theorem dX7_rounds_0 : decode cX7_rounds 0 = .ok (.aload_n 0, 1) := by decide +kernel
theorem dX7_rounds_1 : decode cX7_rounds 1 = .ok (.iconst 0, 1) := by decide +kernel
theorem dX7_rounds_2 : decode cX7_rounds 2 = .ok (.putfield 54, 3) := by decide +kernel
theorem dX7_rounds_5 : decode cX7_rounds 5 = .ok (.aload_n 0, 1) := by decide +kernel
theorem dX7_rounds_6 : decode cX7_rounds 6 = .ok (.getfield 89, 3) := by decide +kernel
theorem dX7_rounds_9 : decode cX7_rounds 9 = .ok (.ireturn, 1) := by decide +kernel
set_option maxRecDepth 20000 in
theorem ggX7_assignNow_X7_way_ : GoodIn wsX7_assignNow wsX7_way_ := goodIn_r _ [9, 10, 11, 12, 13, 14, 15, 16, 17, 18, 19, 20, 21, 22, 23, 24, 25, 26, 27] (by decide +kernel) (by decide +kernel)
set_option maxRecDepth 20000 in
theorem gX7_assignNow_X7_way_ : GoodIn wsX7_assignNow (wsV RX7 63 RX7 yX7_way_ wsX7_way_) := goodIn_app (goodIn_of _ (by decide +kernel)) ggX7_assignNow_X7_way_
theorem dX7_assignNow_0 : decode cX7_assignNow 0 = .ok (.iconst 1, 1) := by decide +kernel
theorem dX7_assignNow_1 : decode cX7_assignNow 1 = .ok (.aload_n 0, 1) := by decide +kernel
theorem dX7_assignNow_2 : decode cX7_assignNow 2 = .ok (.getfield 48, 3) := by decide +kernel
theorem dX7_assignNow_5 : decode cX7_assignNow 5 = .ok (.ishl, 1) := by decide +kernel
theorem dX7_assignNow_6 : decode cX7_assignNow 6 = .ok (.istore_n 1, 1) := by decide +kernel
theorem dX7_assignNow_7 : decode cX7_assignNow 7 = .ok (.iconst 0, 1) := by decide +kernel
theorem dX7_assignNow_8 : decode cX7_assignNow 8 = .ok (.istore_n 2, 1) := by decide +kernel
theorem dX7_assignNow_9 : decode cX7_assignNow 9 = .ok (.iload_n 2, 1) := by decide +kernel
theorem dX7_assignNow_10 : decode cX7_assignNow 10 = .ok (.iload_n 1, 1) := by decide +kernel
theorem dX7_assignNow_11 : decode cX7_assignNow 11 = .ok (.if_icmp .ge 26, 3) := by decide +kernel
theorem dX7_assignNow_14 : decode cX7_assignNow 14 = .ok (.aload_n 0, 1) := by decide +kernel
theorem dX7_assignNow_15 : decode cX7_assignNow 15 = .ok (.getfield 27, 3) := by decide +kernel
theorem dX7_assignNow_18 : decode cX7_assignNow 18 = .ok (.iload_n 2, 1) := by decide +kernel
theorem dX7_assignNow_19 : decode cX7_assignNow 19 = .ok (.iload_n 2, 1) := by decide +kernel
theorem dX7_assignNow_20 : decode cX7_assignNow 20 = .ok (.ifCond .ne 7, 3) := by decide +kernel
theorem dX7_assignNow_23 : decode cX7_assignNow 23 = .ok (.lconst 0, 1) := by decide +kernel
theorem dX7_assignNow_24 : decode cX7_assignNow 24 = .ok (.goto 6, 3) := by decide +kernel
theorem dX7_assignNow_27 : decode cX7_assignNow 27 = .ok (.ldc2_w 52, 3) := by decide +kernel
theorem dX7_assignNow_30 : decode cX7_assignNow 30 = .ok (.lastore, 1) := by decide +kernel
theorem dX7_assignNow_31 : decode cX7_assignNow 31 = .ok (.iinc 2 1, 3) := by decide +kernel
theorem dX7_assignNow_34 : decode cX7_assignNow 34 = .ok (.goto (-25), 3) := by decide +kernel
theorem dX7_assignNow_37 : decode cX7_assignNow 37 = .ok (.iconst 0, 1) := by decide +kernel
theorem dX7_assignNow_38 : decode cX7_assignNow 38 = .ok (.istore_n 2, 1) := by decide +kernel
theorem dX7_assignNow_39 : decode cX7_assignNow 39 = .ok (.iload_n 2, 1) := by decide +kernel
theorem dX7_assignNow_40 : decode cX7_assignNow 40 = .ok (.iload_n 1, 1) := by decide +kernel
theorem dX7_assignNow_41 : decode cX7_assignNow 41 = .ok (.if_icmp .ge 147, 3) := by decide +kernel
theorem dX7_assignNow_44 : decode cX7_assignNow 44 = .ok (.iconst 0, 1) := by decide +kernel
theorem dX7_assignNow_45 : decode cX7_assignNow 45 = .ok (.istore_n 3, 1) := by decide +kernel
theorem dX7_assignNow_46 : decode cX7_assignNow 46 = .ok (.iconst 0, 1) := by decide +kernel
theorem dX7_assignNow_47 : decode cX7_assignNow 47 = .ok (.istore 4, 2) := by decide +kernel
theorem dX7_assignNow_49 : decode cX7_assignNow 49 = .ok (.iload 4, 2) := by decide +kernel
theorem dX7_assignNow_51 : decode cX7_assignNow 51 = .ok (.aload_n 0, 1) := by decide +kernel
theorem dX7_assignNow_52 : decode cX7_assignNow 52 = .ok (.getfield 48, 3) := by decide +kernel
theorem dX7_assignNow_55 : decode cX7_assignNow 55 = .ok (.if_icmp .ge 18, 3) := by decide +kernel
theorem dX7_assignNow_58 : decode cX7_assignNow 58 = .ok (.iload_n 3, 1) := by decide +kernel
theorem dX7_assignNow_59 : decode cX7_assignNow 59 = .ok (.iload_n 2, 1) := by decide +kernel
theorem dX7_assignNow_60 : decode cX7_assignNow 60 = .ok (.iload 4, 2) := by decide +kernel
theorem dX7_assignNow_62 : decode cX7_assignNow 62 = .ok (.ishr, 1) := by decide +kernel
theorem dX7_assignNow_63 : decode cX7_assignNow 63 = .ok (.iconst 1, 1) := by decide +kernel
theorem dX7_assignNow_64 : decode cX7_assignNow 64 = .ok (.iand, 1) := by decide +kernel
theorem dX7_assignNow_65 : decode cX7_assignNow 65 = .ok (.iadd, 1) := by decide +kernel
theorem dX7_assignNow_66 : decode cX7_assignNow 66 = .ok (.istore_n 3, 1) := by decide +kernel
theorem dX7_assignNow_67 : decode cX7_assignNow 67 = .ok (.iinc 4 1, 3) := by decide +kernel
theorem dX7_assignNow_70 : decode cX7_assignNow 70 = .ok (.goto (-21), 3) := by decide +kernel
theorem dX7_assignNow_73 : decode cX7_assignNow 73 = .ok (.iconst 0, 1) := by decide +kernel
theorem dX7_assignNow_74 : decode cX7_assignNow 74 = .ok (.istore 4, 2) := by decide +kernel
theorem dX7_assignNow_76 : decode cX7_assignNow 76 = .ok (.iload 4, 2) := by decide +kernel
theorem dX7_assignNow_78 : decode cX7_assignNow 78 = .ok (.aload_n 0, 1) := by decide +kernel
theorem dX7_assignNow_79 : decode cX7_assignNow 79 = .ok (.getfield 48, 3) := by decide +kernel
theorem dX7_assignNow_82 : decode cX7_assignNow 82 = .ok (.if_icmp .ge 100, 3) := by decide +kernel
theorem dX7_assignNow_85 : decode cX7_assignNow 85 = .ok (.iload_n 3, 1) := by decide +kernel
theorem dX7_assignNow_86 : decode cX7_assignNow 86 = .ok (.aload_n 0, 1) := by decide +kernel
theorem dX7_assignNow_87 : decode cX7_assignNow 87 = .ok (.getfield 48, 3) := by decide +kernel
theorem dX7_assignNow_90 : decode cX7_assignNow 90 = .ok (.if_icmp .ge 92, 3) := by decide +kernel
theorem dX7_assignNow_93 : decode cX7_assignNow 93 = .ok (.iload_n 2, 1) := by decide +kernel
theorem dX7_assignNow_94 : decode cX7_assignNow 94 = .ok (.iload 4, 2) := by decide +kernel
theorem dX7_assignNow_96 : decode cX7_assignNow 96 = .ok (.ishr, 1) := by decide +kernel
theorem dX7_assignNow_97 : decode cX7_assignNow 97 = .ok (.iconst 1, 1) := by decide +kernel
theorem dX7_assignNow_98 : decode cX7_assignNow 98 = .ok (.iand, 1) := by decide +kernel
theorem dX7_assignNow_99 : decode cX7_assignNow 99 = .ok (.ifCond .ne 77, 3) := by decide +kernel
theorem dX7_assignNow_102 : decode cX7_assignNow 102 = .ok (.iload 4, 2) := by decide +kernel
theorem dX7_assignNow_104 : decode cX7_assignNow 104 = .ok (.iload_n 3, 1) := by decide +kernel
theorem dX7_assignNow_105 : decode cX7_assignNow 105 = .ok (.if_icmp .eq 71, 3) := by decide +kernel
theorem dX7_assignNow_108 : decode cX7_assignNow 108 = .ok (.aload_n 0, 1) := by decide +kernel
theorem dX7_assignNow_109 : decode cX7_assignNow 109 = .ok (.iload_n 3, 1) := by decide +kernel
theorem dX7_assignNow_110 : decode cX7_assignNow 110 = .ok (.iload 4, 2) := by decide +kernel
theorem dX7_assignNow_112 : decode cX7_assignNow 112 = .ok (.invokevirtual 63, 3) := by decide +kernel
theorem dX7_assignNow_115 : decode cX7_assignNow 115 = .ok (.ldc2_w 52, 3) := by decide +kernel
theorem dX7_assignNow_118 : decode cX7_assignNow 118 = .ok (.lcmp, 1) := by decide +kernel
theorem dX7_assignNow_119 : decode cX7_assignNow 119 = .ok (.ifCond .ge 57, 3) := by decide +kernel
theorem dX7_assignNow_122 : decode cX7_assignNow 122 = .ok (.aload_n 0, 1) := by decide +kernel
theorem dX7_assignNow_123 : decode cX7_assignNow 123 = .ok (.getfield 27, 3) := by decide +kernel
theorem dX7_assignNow_126 : decode cX7_assignNow 126 = .ok (.iload_n 2, 1) := by decide +kernel
theorem dX7_assignNow_127 : decode cX7_assignNow 127 = .ok (.laload, 1) := by decide +kernel
theorem dX7_assignNow_128 : decode cX7_assignNow 128 = .ok (.aload_n 0, 1) := by decide +kernel
theorem dX7_assignNow_129 : decode cX7_assignNow 129 = .ok (.iload_n 3, 1) := by decide +kernel
theorem dX7_assignNow_130 : decode cX7_assignNow 130 = .ok (.iload 4, 2) := by decide +kernel
theorem dX7_assignNow_132 : decode cX7_assignNow 132 = .ok (.invokevirtual 63, 3) := by decide +kernel
theorem dX7_assignNow_135 : decode cX7_assignNow 135 = .ok (.ladd, 1) := by decide +kernel
theorem dX7_assignNow_136 : decode cX7_assignNow 136 = .ok (.aload_n 0, 1) := by decide +kernel
theorem dX7_assignNow_137 : decode cX7_assignNow 137 = .ok (.getfield 27, 3) := by decide +kernel
theorem dX7_assignNow_140 : decode cX7_assignNow 140 = .ok (.iload_n 2, 1) := by decide +kernel
theorem dX7_assignNow_141 : decode cX7_assignNow 141 = .ok (.iconst 1, 1) := by decide +kernel
theorem dX7_assignNow_142 : decode cX7_assignNow 142 = .ok (.iload 4, 2) := by decide +kernel
theorem dX7_assignNow_144 : decode cX7_assignNow 144 = .ok (.ishl, 1) := by decide +kernel
theorem dX7_assignNow_145 : decode cX7_assignNow 145 = .ok (.ior, 1) := by decide +kernel
theorem dX7_assignNow_146 : decode cX7_assignNow 146 = .ok (.laload, 1) := by decide +kernel
theorem dX7_assignNow_147 : decode cX7_assignNow 147 = .ok (.lcmp, 1) := by decide +kernel
theorem dX7_assignNow_148 : decode cX7_assignNow 148 = .ok (.ifCond .ge 28, 3) := by decide +kernel
theorem dX7_assignNow_151 : decode cX7_assignNow 151 = .ok (.aload_n 0, 1) := by decide +kernel
theorem dX7_assignNow_152 : decode cX7_assignNow 152 = .ok (.getfield 27, 3) := by decide +kernel
theorem dX7_assignNow_155 : decode cX7_assignNow 155 = .ok (.iload_n 2, 1) := by decide +kernel
theorem dX7_assignNow_156 : decode cX7_assignNow 156 = .ok (.iconst 1, 1) := by decide +kernel
theorem dX7_assignNow_157 : decode cX7_assignNow 157 = .ok (.iload 4, 2) := by decide +kernel
theorem dX7_assignNow_159 : decode cX7_assignNow 159 = .ok (.ishl, 1) := by decide +kernel
theorem dX7_assignNow_160 : decode cX7_assignNow 160 = .ok (.ior, 1) := by decide +kernel
theorem dX7_assignNow_161 : decode cX7_assignNow 161 = .ok (.aload_n 0, 1) := by decide +kernel
theorem dX7_assignNow_162 : decode cX7_assignNow 162 = .ok (.getfield 27, 3) := by decide +kernel
theorem dX7_assignNow_165 : decode cX7_assignNow 165 = .ok (.iload_n 2, 1) := by decide +kernel
theorem dX7_assignNow_166 : decode cX7_assignNow 166 = .ok (.laload, 1) := by decide +kernel
theorem dX7_assignNow_167 : decode cX7_assignNow 167 = .ok (.aload_n 0, 1) := by decide +kernel
theorem dX7_assignNow_168 : decode cX7_assignNow 168 = .ok (.iload_n 3, 1) := by decide +kernel
theorem dX7_assignNow_169 : decode cX7_assignNow 169 = .ok (.iload 4, 2) := by decide +kernel
theorem dX7_assignNow_171 : decode cX7_assignNow 171 = .ok (.invokevirtual 63, 3) := by decide +kernel
theorem dX7_assignNow_174 : decode cX7_assignNow 174 = .ok (.ladd, 1) := by decide +kernel
theorem dX7_assignNow_175 : decode cX7_assignNow 175 = .ok (.lastore, 1) := by decide +kernel
theorem dX7_assignNow_176 : decode cX7_assignNow 176 = .ok (.iinc 4 1, 3) := by decide +kernel
theorem dX7_assignNow_179 : decode cX7_assignNow 179 = .ok (.goto (-103), 3) := by decide +kernel
theorem dX7_assignNow_182 : decode cX7_assignNow 182 = .ok (.iinc 2 1, 3) := by decide +kernel
theorem dX7_assignNow_185 : decode cX7_assignNow 185 = .ok (.goto (-146), 3) := by decide +kernel
theorem dX7_assignNow_188 : decode cX7_assignNow 188 = .ok (.aload_n 0, 1) := by decide +kernel
theorem dX7_assignNow_189 : decode cX7_assignNow 189 = .ok (.getfield 27, 3) := by decide +kernel
theorem dX7_assignNow_192 : decode cX7_assignNow 192 = .ok (.iload_n 1, 1) := by decide +kernel
theorem dX7_assignNow_193 : decode cX7_assignNow 193 = .ok (.iconst 1, 1) := by decide +kernel
theorem dX7_assignNow_194 : decode cX7_assignNow 194 = .ok (.isub, 1) := by decide +kernel
theorem dX7_assignNow_195 : decode cX7_assignNow 195 = .ok (.laload, 1) := by decide +kernel
theorem dX7_assignNow_196 : decode cX7_assignNow 196 = .ok (.ldc2_w 52, 3) := by decide +kernel
theorem dX7_assignNow_199 : decode cX7_assignNow 199 = .ok (.lcmp, 1) := by decide +kernel
theorem dX7_assignNow_200 : decode cX7_assignNow 200 = .ok (.ifCond .ne 9, 3) := by decide +kernel
theorem dX7_assignNow_203 : decode cX7_assignNow 203 = .ok (.ldc2_w 96, 3) := by decide +kernel
theorem dX7_assignNow_206 : decode cX7_assignNow 206 = .ok (.goto 11, 3) := by decide +kernel
theorem dX7_assignNow_209 : decode cX7_assignNow 209 = .ok (.aload_n 0, 1) := by decide +kernel
theorem dX7_assignNow_210 : decode cX7_assignNow 210 = .ok (.getfield 27, 3) := by decide +kernel
theorem dX7_assignNow_213 : decode cX7_assignNow 213 = .ok (.iload_n 1, 1) := by decide +kernel
theorem dX7_assignNow_214 : decode cX7_assignNow 214 = .ok (.iconst 1, 1) := by decide +kernel
theorem dX7_assignNow_215 : decode cX7_assignNow 215 = .ok (.isub, 1) := by decide +kernel
theorem dX7_assignNow_216 : decode cX7_assignNow 216 = .ok (.laload, 1) := by decide +kernel
theorem dX7_assignNow_217 : decode cX7_assignNow 217 = .ok (.lreturn, 1) := by decide +kernel
set_option maxRecDepth 20000 in
theorem ggX7_assign_X7_assignNow : GoodIn wsX7_assign wsX7_assignNow := goodIn_r _ [6, 7, 8, 9, 10, 11, 12, 13, 5, 14, 15, 16, 17, 18, 19, 20, 21, 22, 23, 24, 25, 26, 27, 28, 29, 30, 31, 32] (by decide +kernel) (by decide +kernel)
set_option maxRecDepth 20000 in
theorem gX7_assign_X7_assignNow : GoodIn wsX7_assign (wsV RX7 106 RX7 yX7_assignNow wsX7_assignNow) := goodIn_app (goodIn_of _ (by decide +kernel)) ggX7_assign_X7_assignNow
theorem dX7_assign_0 : decode cX7_assign 0 = .ok (.aload_n 0, 1) := by decide +kernel
theorem dX7_assign_1 : decode cX7_assign 1 = .ok (.iconst 0, 1) := by decide +kernel
theorem dX7_assign_2 : decode cX7_assign 2 = .ok (.putfield 54, 3) := by decide +kernel
theorem dX7_assign_5 : decode cX7_assign 5 = .ok (.aload_n 0, 1) := by decide +kernel
theorem dX7_assign_6 : decode cX7_assign 6 = .ok (.invokevirtual 106, 3) := by decide +kernel
theorem dX7_assign_9 : decode cX7_assign 9 = .ok (.lreturn, 1) := by decide +kernel
set_option maxRecDepth 20000 in
theorem ggX7_cut_X7_isPlace : GoodIn wsX7_cut wsX7_isPlace := goodIn_r _ [9, 4, 19, 20, 21, 22, 23, 24, 25, 26, 27, 28, 29, 30, 31, 32, 33, 34, 35] (by decide +kernel) (by decide +kernel)
set_option maxRecDepth 20000 in
theorem gX7_cut_X7_isPlace : GoodIn wsX7_cut (wsV RX7 57 RX7 yX7_isPlace wsX7_isPlace) := goodIn_app (goodIn_of _ (by decide +kernel)) ggX7_cut_X7_isPlace
set_option maxRecDepth 20000 in
theorem ggX7_cut_X7_length : GoodIn wsX7_cut wsX7_length := goodIn_r _ [13, 14, 15, 16, 8, 17, 18, 19, 20, 21, 22, 23, 24, 25, 26, 27, 28, 29, 30, 31, 32, 33, 34, 35] (by decide +kernel) (by decide +kernel)
set_option maxRecDepth 20000 in
theorem gX7_cut_X7_length : GoodIn wsX7_cut (wsV RX7 67 RX7 yX7_length wsX7_length) := goodIn_app (goodIn_of _ (by decide +kernel)) ggX7_cut_X7_length
theorem dX7_cut_0 : decode cX7_cut 0 = .ok (.aload_n 0, 1) := by decide +kernel
theorem dX7_cut_1 : decode cX7_cut 1 = .ok (.iconst 0, 1) := by decide +kernel
theorem dX7_cut_2 : decode cX7_cut 2 = .ok (.putfield 54, 3) := by decide +kernel
theorem dX7_cut_5 : decode cX7_cut 5 = .ok (.aload_n 0, 1) := by decide +kernel
theorem dX7_cut_6 : decode cX7_cut 6 = .ok (.iload_n 1, 1) := by decide +kernel
theorem dX7_cut_7 : decode cX7_cut 7 = .ok (.invokevirtual 57, 3) := by decide +kernel
theorem dX7_cut_10 : decode cX7_cut 10 = .ok (.ifCond .eq 16, 3) := by decide +kernel
theorem dX7_cut_13 : decode cX7_cut 13 = .ok (.aload_n 0, 1) := by decide +kernel
theorem dX7_cut_14 : decode cX7_cut 14 = .ok (.iload_n 2, 1) := by decide +kernel
theorem dX7_cut_15 : decode cX7_cut 15 = .ok (.invokevirtual 57, 3) := by decide +kernel
theorem dX7_cut_18 : decode cX7_cut 18 = .ok (.ifCond .eq 8, 3) := by decide +kernel
theorem dX7_cut_21 : decode cX7_cut 21 = .ok (.iload_n 1, 1) := by decide +kernel
theorem dX7_cut_22 : decode cX7_cut 22 = .ok (.iload_n 2, 1) := by decide +kernel
theorem dX7_cut_23 : decode cX7_cut 23 = .ok (.if_icmp .ne 7, 3) := by decide +kernel
theorem dX7_cut_26 : decode cX7_cut 26 = .ok (.ldc2_w 96, 3) := by decide +kernel
theorem dX7_cut_29 : decode cX7_cut 29 = .ok (.lreturn, 1) := by decide +kernel
theorem dX7_cut_30 : decode cX7_cut 30 = .ok (.ldc2_w 52, 3) := by decide +kernel
theorem dX7_cut_33 : decode cX7_cut 33 = .ok (.lstore_n 3, 1) := by decide +kernel
theorem dX7_cut_34 : decode cX7_cut 34 = .ok (.iconst 0, 1) := by decide +kernel
theorem dX7_cut_35 : decode cX7_cut 35 = .ok (.istore 5, 2) := by decide +kernel
theorem dX7_cut_37 : decode cX7_cut 37 = .ok (.iload 5, 2) := by decide +kernel
theorem dX7_cut_39 : decode cX7_cut 39 = .ok (.iconst 1, 1) := by decide +kernel
theorem dX7_cut_40 : decode cX7_cut 40 = .ok (.aload_n 0, 1) := by decide +kernel
theorem dX7_cut_41 : decode cX7_cut 41 = .ok (.getfield 48, 3) := by decide +kernel
theorem dX7_cut_44 : decode cX7_cut 44 = .ok (.ishl, 1) := by decide +kernel
theorem dX7_cut_45 : decode cX7_cut 45 = .ok (.if_icmp .ge 147, 3) := by decide +kernel
theorem dX7_cut_48 : decode cX7_cut 48 = .ok (.iload 5, 2) := by decide +kernel
theorem dX7_cut_50 : decode cX7_cut 50 = .ok (.iload_n 1, 1) := by decide +kernel
theorem dX7_cut_51 : decode cX7_cut 51 = .ok (.ishr, 1) := by decide +kernel
theorem dX7_cut_52 : decode cX7_cut 52 = .ok (.iconst 1, 1) := by decide +kernel
theorem dX7_cut_53 : decode cX7_cut 53 = .ok (.iand, 1) := by decide +kernel
theorem dX7_cut_54 : decode cX7_cut 54 = .ok (.iconst 1, 1) := by decide +kernel
theorem dX7_cut_55 : decode cX7_cut 55 = .ok (.if_icmp .ne 131, 3) := by decide +kernel
theorem dX7_cut_58 : decode cX7_cut 58 = .ok (.iload 5, 2) := by decide +kernel
theorem dX7_cut_60 : decode cX7_cut 60 = .ok (.iload_n 2, 1) := by decide +kernel
theorem dX7_cut_61 : decode cX7_cut 61 = .ok (.ishr, 1) := by decide +kernel
theorem dX7_cut_62 : decode cX7_cut 62 = .ok (.iconst 1, 1) := by decide +kernel
theorem dX7_cut_63 : decode cX7_cut 63 = .ok (.iand, 1) := by decide +kernel
theorem dX7_cut_64 : decode cX7_cut 64 = .ok (.ifCond .ne 122, 3) := by decide +kernel
theorem dX7_cut_67 : decode cX7_cut 67 = .ok (.lconst 0, 1) := by decide +kernel
theorem dX7_cut_68 : decode cX7_cut 68 = .ok (.lstore 6, 2) := by decide +kernel
theorem dX7_cut_70 : decode cX7_cut 70 = .ok (.iconst 0, 1) := by decide +kernel
theorem dX7_cut_71 : decode cX7_cut 71 = .ok (.istore 8, 2) := by decide +kernel
theorem dX7_cut_73 : decode cX7_cut 73 = .ok (.iload 8, 2) := by decide +kernel
theorem dX7_cut_75 : decode cX7_cut 75 = .ok (.aload_n 0, 1) := by decide +kernel
theorem dX7_cut_76 : decode cX7_cut 76 = .ok (.getfield 48, 3) := by decide +kernel
theorem dX7_cut_79 : decode cX7_cut 79 = .ok (.if_icmp .ge 93, 3) := by decide +kernel
theorem dX7_cut_82 : decode cX7_cut 82 = .ok (.iconst 0, 1) := by decide +kernel
theorem dX7_cut_83 : decode cX7_cut 83 = .ok (.istore 9, 2) := by decide +kernel
theorem dX7_cut_85 : decode cX7_cut 85 = .ok (.iload 9, 2) := by decide +kernel
theorem dX7_cut_87 : decode cX7_cut 87 = .ok (.aload_n 0, 1) := by decide +kernel
theorem dX7_cut_88 : decode cX7_cut 88 = .ok (.getfield 48, 3) := by decide +kernel
theorem dX7_cut_91 : decode cX7_cut 91 = .ok (.if_icmp .ge 75, 3) := by decide +kernel
theorem dX7_cut_94 : decode cX7_cut 94 = .ok (.iload 5, 2) := by decide +kernel
theorem dX7_cut_96 : decode cX7_cut 96 = .ok (.iload 8, 2) := by decide +kernel
theorem dX7_cut_98 : decode cX7_cut 98 = .ok (.ishr, 1) := by decide +kernel
theorem dX7_cut_99 : decode cX7_cut 99 = .ok (.iconst 1, 1) := by decide +kernel
theorem dX7_cut_100 : decode cX7_cut 100 = .ok (.iand, 1) := by decide +kernel
theorem dX7_cut_101 : decode cX7_cut 101 = .ok (.iconst 1, 1) := by decide +kernel
theorem dX7_cut_102 : decode cX7_cut 102 = .ok (.if_icmp .ne 32, 3) := by decide +kernel
theorem dX7_cut_105 : decode cX7_cut 105 = .ok (.iload 5, 2) := by decide +kernel
theorem dX7_cut_107 : decode cX7_cut 107 = .ok (.iload 9, 2) := by decide +kernel
theorem dX7_cut_109 : decode cX7_cut 109 = .ok (.ishr, 1) := by decide +kernel
theorem dX7_cut_110 : decode cX7_cut 110 = .ok (.iconst 1, 1) := by decide +kernel
theorem dX7_cut_111 : decode cX7_cut 111 = .ok (.iand, 1) := by decide +kernel
theorem dX7_cut_112 : decode cX7_cut 112 = .ok (.ifCond .ne 22, 3) := by decide +kernel
theorem dX7_cut_115 : decode cX7_cut 115 = .ok (.aload_n 0, 1) := by decide +kernel
theorem dX7_cut_116 : decode cX7_cut 116 = .ok (.iload 8, 2) := by decide +kernel
theorem dX7_cut_118 : decode cX7_cut 118 = .ok (.iload 9, 2) := by decide +kernel
theorem dX7_cut_120 : decode cX7_cut 120 = .ok (.invokevirtual 67, 3) := by decide +kernel
theorem dX7_cut_123 : decode cX7_cut 123 = .ok (.ldc2_w 52, 3) := by decide +kernel
theorem dX7_cut_126 : decode cX7_cut 126 = .ok (.lcmp, 1) := by decide +kernel
theorem dX7_cut_127 : decode cX7_cut 127 = .ok (.ifCond .ge 7, 3) := by decide +kernel
theorem dX7_cut_130 : decode cX7_cut 130 = .ok (.iconst 1, 1) := by decide +kernel
theorem dX7_cut_131 : decode cX7_cut 131 = .ok (.goto 4, 3) := by decide +kernel
theorem dX7_cut_134 : decode cX7_cut 134 = .ok (.iconst 0, 1) := by decide +kernel
theorem dX7_cut_135 : decode cX7_cut 135 = .ok (.istore 10, 2) := by decide +kernel
theorem dX7_cut_137 : decode cX7_cut 137 = .ok (.iload 10, 2) := by decide +kernel
theorem dX7_cut_139 : decode cX7_cut 139 = .ok (.ifCond .eq 17, 3) := by decide +kernel
theorem dX7_cut_142 : decode cX7_cut 142 = .ok (.lload 6, 2) := by decide +kernel
theorem dX7_cut_144 : decode cX7_cut 144 = .ok (.aload_n 0, 1) := by decide +kernel
theorem dX7_cut_145 : decode cX7_cut 145 = .ok (.iload 8, 2) := by decide +kernel
theorem dX7_cut_147 : decode cX7_cut 147 = .ok (.iload 9, 2) := by decide +kernel
theorem dX7_cut_149 : decode cX7_cut 149 = .ok (.invokevirtual 67, 3) := by decide +kernel
theorem dX7_cut_152 : decode cX7_cut 152 = .ok (.ladd, 1) := by decide +kernel
theorem dX7_cut_153 : decode cX7_cut 153 = .ok (.goto 5, 3) := by decide +kernel
theorem dX7_cut_156 : decode cX7_cut 156 = .ok (.lload 6, 2) := by decide +kernel
theorem dX7_cut_158 : decode cX7_cut 158 = .ok (.lstore 6, 2) := by decide +kernel
theorem dX7_cut_160 : decode cX7_cut 160 = .ok (.iinc 9 1, 3) := by decide +kernel
theorem dX7_cut_163 : decode cX7_cut 163 = .ok (.goto (-78), 3) := by decide +kernel
theorem dX7_cut_166 : decode cX7_cut 166 = .ok (.iinc 8 1, 3) := by decide +kernel
theorem dX7_cut_169 : decode cX7_cut 169 = .ok (.goto (-96), 3) := by decide +kernel
theorem dX7_cut_172 : decode cX7_cut 172 = .ok (.lload 6, 2) := by decide +kernel
theorem dX7_cut_174 : decode cX7_cut 174 = .ok (.lload_n 3, 1) := by decide +kernel
theorem dX7_cut_175 : decode cX7_cut 175 = .ok (.lcmp, 1) := by decide +kernel
theorem dX7_cut_176 : decode cX7_cut 176 = .ok (.ifCond .ge 8, 3) := by decide +kernel
theorem dX7_cut_179 : decode cX7_cut 179 = .ok (.lload 6, 2) := by decide +kernel
theorem dX7_cut_181 : decode cX7_cut 181 = .ok (.goto 4, 3) := by decide +kernel
theorem dX7_cut_184 : decode cX7_cut 184 = .ok (.lload_n 3, 1) := by decide +kernel
theorem dX7_cut_185 : decode cX7_cut 185 = .ok (.lstore_n 3, 1) := by decide +kernel
theorem dX7_cut_186 : decode cX7_cut 186 = .ok (.iinc 5 1, 3) := by decide +kernel
theorem dX7_cut_189 : decode cX7_cut 189 = .ok (.goto (-152), 3) := by decide +kernel
theorem dX7_cut_192 : decode cX7_cut 192 = .ok (.lload_n 3, 1) := by decide +kernel
theorem dX7_cut_193 : decode cX7_cut 193 = .ok (.lreturn, 1) := by decide +kernel
set_option maxRecDepth 20000 in
theorem ggX7_has_X7_length : GoodIn wsX7_has wsX7_length := goodIn_r _ [7, 8, 9, 10, 6, 11, 12, 13, 14, 15, 16, 17, 18, 19, 20, 21, 22, 23, 24, 25, 26, 27, 28, 29] (by decide +kernel) (by decide +kernel)
set_option maxRecDepth 20000 in
theorem gX7_has_X7_length : GoodIn wsX7_has (wsV RX7 67 RX7 yX7_length wsX7_length) := goodIn_app (goodIn_of _ (by decide +kernel)) ggX7_has_X7_length
theorem dX7_has_0 : decode cX7_has 0 = .ok (.iconst 0, 1) := by decide +kernel
theorem dX7_has_1 : decode cX7_has 1 = .ok (.istore_n 3, 1) := by decide +kernel
theorem dX7_has_2 : decode cX7_has 2 = .ok (.iconst 0, 1) := by decide +kernel
theorem dX7_has_3 : decode cX7_has 3 = .ok (.istore 4, 2) := by decide +kernel
theorem dX7_has_5 : decode cX7_has 5 = .ok (.iload 4, 2) := by decide +kernel
theorem dX7_has_7 : decode cX7_has 7 = .ok (.aload_n 0, 1) := by decide +kernel
theorem dX7_has_8 : decode cX7_has 8 = .ok (.getfield 48, 3) := by decide +kernel
theorem dX7_has_11 : decode cX7_has 11 = .ok (.if_icmp .ge 39, 3) := by decide +kernel
theorem dX7_has_14 : decode cX7_has 14 = .ok (.iload_n 3, 1) := by decide +kernel
theorem dX7_has_15 : decode cX7_has 15 = .ok (.ifCond .ne 23, 3) := by decide +kernel
theorem dX7_has_18 : decode cX7_has 18 = .ok (.iload 4, 2) := by decide +kernel
theorem dX7_has_20 : decode cX7_has 20 = .ok (.iload_n 1, 1) := by decide +kernel
theorem dX7_has_21 : decode cX7_has 21 = .ok (.if_icmp .eq 21, 3) := by decide +kernel
theorem dX7_has_24 : decode cX7_has 24 = .ok (.aload_n 0, 1) := by decide +kernel
theorem dX7_has_25 : decode cX7_has 25 = .ok (.iload_n 1, 1) := by decide +kernel
theorem dX7_has_26 : decode cX7_has 26 = .ok (.iload 4, 2) := by decide +kernel
theorem dX7_has_28 : decode cX7_has 28 = .ok (.invokevirtual 67, 3) := by decide +kernel
theorem dX7_has_31 : decode cX7_has 31 = .ok (.ldc2_w 52, 3) := by decide +kernel
theorem dX7_has_34 : decode cX7_has 34 = .ok (.lcmp, 1) := by decide +kernel
theorem dX7_has_35 : decode cX7_has 35 = .ok (.ifCond .ge 7, 3) := by decide +kernel
theorem dX7_has_38 : decode cX7_has 38 = .ok (.iconst 1, 1) := by decide +kernel
theorem dX7_has_39 : decode cX7_has 39 = .ok (.goto 4, 3) := by decide +kernel
theorem dX7_has_42 : decode cX7_has 42 = .ok (.iconst 0, 1) := by decide +kernel
theorem dX7_has_43 : decode cX7_has 43 = .ok (.istore_n 3, 1) := by decide +kernel
theorem dX7_has_44 : decode cX7_has 44 = .ok (.iinc 4 1, 3) := by decide +kernel
theorem dX7_has_47 : decode cX7_has 47 = .ok (.goto (-42), 3) := by decide +kernel
theorem dX7_has_50 : decode cX7_has 50 = .ok (.iload_n 3, 1) := by decide +kernel
theorem dX7_has_51 : decode cX7_has 51 = .ok (.ireturn, 1) := by decide +kernel
set_option maxRecDepth 20000 in
theorem ggX7_shorten_X7_way_ : GoodIn wsX7_shorten wsX7_way_ := goodIn_r _ [8, 9, 18, 19, 20, 21, 22, 23, 24, 25, 26, 27, 28, 29, 30, 31, 32, 33, 34] (by decide +kernel) (by decide +kernel)
set_option maxRecDepth 20000 in
theorem gX7_shorten_X7_way_ : GoodIn wsX7_shorten (wsV RX7 63 RX7 yX7_way_ wsX7_way_) := goodIn_app (goodIn_of _ (by decide +kernel)) ggX7_shorten_X7_way_
set_option maxRecDepth 20000 in
theorem ggX7_shorten_X7_length : GoodIn wsX7_shorten wsX7_length := goodIn_r _ [13, 4, 5, 6, 7, 8, 9, 18, 19, 20, 21, 22, 23, 24, 25, 26, 27, 28, 29, 30, 31, 32, 33, 34] (by decide +kernel) (by decide +kernel)
set_option maxRecDepth 20000 in
theorem gX7_shorten_X7_length : GoodIn wsX7_shorten (wsV RX7 67 RX7 yX7_length wsX7_length) := goodIn_app (goodIn_of _ (by decide +kernel)) ggX7_shorten_X7_length
set_option maxRecDepth 20000 in
theorem ggX7_shorten_X7_has : GoodIn wsX7_shorten wsX7_has := goodIn_r _ [17, 2, 3, 10, 11, 12, 7, 13, 4, 5, 6, 8, 9, 18, 19, 20, 21, 22, 23, 24, 25, 26, 27, 28, 29, 30, 31, 32, 33, 34] (by decide +kernel) (by decide +kernel)
set_option maxRecDepth 20000 in
theorem gX7_shorten_X7_has : GoodIn wsX7_shorten (wsV RX7 110 RX7 yX7_has wsX7_has) := goodIn_app (goodIn_of _ (by decide +kernel)) ggX7_shorten_X7_has
theorem dX7_shorten_0 : decode cX7_shorten 0 = .ok (.iconst 0, 1) := by decide +kernel
theorem dX7_shorten_1 : decode cX7_shorten 1 = .ok (.istore_n 2, 1) := by decide +kernel
theorem dX7_shorten_2 : decode cX7_shorten 2 = .ok (.iload_n 2, 1) := by decide +kernel
theorem dX7_shorten_3 : decode cX7_shorten 3 = .ok (.sipush 144, 3) := by decide +kernel
theorem dX7_shorten_6 : decode cX7_shorten 6 = .ok (.if_icmp .ge 57, 3) := by decide +kernel
theorem dX7_shorten_9 : decode cX7_shorten 9 = .ok (.iload_n 2, 1) := by decide +kernel
theorem dX7_shorten_10 : decode cX7_shorten 10 = .ok (.bipush 12, 2) := by decide +kernel
theorem dX7_shorten_12 : decode cX7_shorten 12 = .ok (.idiv, 1) := by decide +kernel
theorem dX7_shorten_13 : decode cX7_shorten 13 = .ok (.istore_n 3, 1) := by decide +kernel
theorem dX7_shorten_14 : decode cX7_shorten 14 = .ok (.iload_n 2, 1) := by decide +kernel
theorem dX7_shorten_15 : decode cX7_shorten 15 = .ok (.bipush 12, 2) := by decide +kernel
theorem dX7_shorten_17 : decode cX7_shorten 17 = .ok (.irem, 1) := by decide +kernel
theorem dX7_shorten_18 : decode cX7_shorten 18 = .ok (.istore 4, 2) := by decide +kernel
theorem dX7_shorten_20 : decode cX7_shorten 20 = .ok (.aload_n 0, 1) := by decide +kernel
theorem dX7_shorten_21 : decode cX7_shorten 21 = .ok (.getfield 30, 3) := by decide +kernel
theorem dX7_shorten_24 : decode cX7_shorten 24 = .ok (.iload_n 2, 1) := by decide +kernel
theorem dX7_shorten_25 : decode cX7_shorten 25 = .ok (.iload_n 3, 1) := by decide +kernel
theorem dX7_shorten_26 : decode cX7_shorten 26 = .ok (.iload 4, 2) := by decide +kernel
theorem dX7_shorten_28 : decode cX7_shorten 28 = .ok (.if_icmp .ne 7, 3) := by decide +kernel
theorem dX7_shorten_31 : decode cX7_shorten 31 = .ok (.lconst 0, 1) := by decide +kernel
theorem dX7_shorten_32 : decode cX7_shorten 32 = .ok (.goto 24, 3) := by decide +kernel
theorem dX7_shorten_35 : decode cX7_shorten 35 = .ok (.iload_n 1, 1) := by decide +kernel
theorem dX7_shorten_36 : decode cX7_shorten 36 = .ok (.ifCond .eq 13, 3) := by decide +kernel
theorem dX7_shorten_39 : decode cX7_shorten 39 = .ok (.aload_n 0, 1) := by decide +kernel
theorem dX7_shorten_40 : decode cX7_shorten 40 = .ok (.iload_n 3, 1) := by decide +kernel
theorem dX7_shorten_41 : decode cX7_shorten 41 = .ok (.iload 4, 2) := by decide +kernel
theorem dX7_shorten_43 : decode cX7_shorten 43 = .ok (.invokevirtual 63, 3) := by decide +kernel
theorem dX7_shorten_46 : decode cX7_shorten 46 = .ok (.goto 10, 3) := by decide +kernel
theorem dX7_shorten_49 : decode cX7_shorten 49 = .ok (.aload_n 0, 1) := by decide +kernel
theorem dX7_shorten_50 : decode cX7_shorten 50 = .ok (.iload_n 3, 1) := by decide +kernel
theorem dX7_shorten_51 : decode cX7_shorten 51 = .ok (.iload 4, 2) := by decide +kernel
theorem dX7_shorten_53 : decode cX7_shorten 53 = .ok (.invokevirtual 67, 3) := by decide +kernel
theorem dX7_shorten_56 : decode cX7_shorten 56 = .ok (.lastore, 1) := by decide +kernel
theorem dX7_shorten_57 : decode cX7_shorten 57 = .ok (.iinc 2 1, 3) := by decide +kernel
theorem dX7_shorten_60 : decode cX7_shorten 60 = .ok (.goto (-58), 3) := by decide +kernel
theorem dX7_shorten_63 : decode cX7_shorten 63 = .ok (.iconst 1, 1) := by decide +kernel
theorem dX7_shorten_64 : decode cX7_shorten 64 = .ok (.istore_n 2, 1) := by decide +kernel
theorem dX7_shorten_65 : decode cX7_shorten 65 = .ok (.iload_n 2, 1) := by decide +kernel
theorem dX7_shorten_66 : decode cX7_shorten 66 = .ok (.ifCond .eq 142, 3) := by decide +kernel
theorem dX7_shorten_69 : decode cX7_shorten 69 = .ok (.iconst 0, 1) := by decide +kernel
theorem dX7_shorten_70 : decode cX7_shorten 70 = .ok (.istore_n 2, 1) := by decide +kernel
theorem dX7_shorten_71 : decode cX7_shorten 71 = .ok (.iconst 0, 1) := by decide +kernel
theorem dX7_shorten_72 : decode cX7_shorten 72 = .ok (.istore_n 3, 1) := by decide +kernel
theorem dX7_shorten_73 : decode cX7_shorten 73 = .ok (.iload_n 3, 1) := by decide +kernel
theorem dX7_shorten_74 : decode cX7_shorten 74 = .ok (.aload_n 0, 1) := by decide +kernel
theorem dX7_shorten_75 : decode cX7_shorten 75 = .ok (.getfield 48, 3) := by decide +kernel
theorem dX7_shorten_78 : decode cX7_shorten 78 = .ok (.aload_n 0, 1) := by decide +kernel
theorem dX7_shorten_79 : decode cX7_shorten 79 = .ok (.getfield 48, 3) := by decide +kernel
theorem dX7_shorten_82 : decode cX7_shorten 82 = .ok (.imul, 1) := by decide +kernel
theorem dX7_shorten_83 : decode cX7_shorten 83 = .ok (.aload_n 0, 1) := by decide +kernel
theorem dX7_shorten_84 : decode cX7_shorten 84 = .ok (.getfield 48, 3) := by decide +kernel
theorem dX7_shorten_87 : decode cX7_shorten 87 = .ok (.imul, 1) := by decide +kernel
theorem dX7_shorten_88 : decode cX7_shorten 88 = .ok (.if_icmp .ge 117, 3) := by decide +kernel
theorem dX7_shorten_91 : decode cX7_shorten 91 = .ok (.iload_n 3, 1) := by decide +kernel
theorem dX7_shorten_92 : decode cX7_shorten 92 = .ok (.aload_n 0, 1) := by decide +kernel
theorem dX7_shorten_93 : decode cX7_shorten 93 = .ok (.getfield 48, 3) := by decide +kernel
theorem dX7_shorten_96 : decode cX7_shorten 96 = .ok (.idiv, 1) := by decide +kernel
theorem dX7_shorten_97 : decode cX7_shorten 97 = .ok (.aload_n 0, 1) := by decide +kernel
theorem dX7_shorten_98 : decode cX7_shorten 98 = .ok (.getfield 48, 3) := by decide +kernel
theorem dX7_shorten_101 : decode cX7_shorten 101 = .ok (.idiv, 1) := by decide +kernel
theorem dX7_shorten_102 : decode cX7_shorten 102 = .ok (.istore 4, 2) := by decide +kernel
theorem dX7_shorten_104 : decode cX7_shorten 104 = .ok (.iload_n 3, 1) := by decide +kernel
theorem dX7_shorten_105 : decode cX7_shorten 105 = .ok (.aload_n 0, 1) := by decide +kernel
theorem dX7_shorten_106 : decode cX7_shorten 106 = .ok (.getfield 48, 3) := by decide +kernel
theorem dX7_shorten_109 : decode cX7_shorten 109 = .ok (.idiv, 1) := by decide +kernel
theorem dX7_shorten_110 : decode cX7_shorten 110 = .ok (.aload_n 0, 1) := by decide +kernel
theorem dX7_shorten_111 : decode cX7_shorten 111 = .ok (.getfield 48, 3) := by decide +kernel
theorem dX7_shorten_114 : decode cX7_shorten 114 = .ok (.irem, 1) := by decide +kernel
theorem dX7_shorten_115 : decode cX7_shorten 115 = .ok (.istore 5, 2) := by decide +kernel
theorem dX7_shorten_117 : decode cX7_shorten 117 = .ok (.iload_n 3, 1) := by decide +kernel
theorem dX7_shorten_118 : decode cX7_shorten 118 = .ok (.aload_n 0, 1) := by decide +kernel
theorem dX7_shorten_119 : decode cX7_shorten 119 = .ok (.getfield 48, 3) := by decide +kernel
theorem dX7_shorten_122 : decode cX7_shorten 122 = .ok (.irem, 1) := by decide +kernel
theorem dX7_shorten_123 : decode cX7_shorten 123 = .ok (.istore 6, 2) := by decide +kernel
theorem dX7_shorten_125 : decode cX7_shorten 125 = .ok (.aload_n 0, 1) := by decide +kernel
theorem dX7_shorten_126 : decode cX7_shorten 126 = .ok (.getfield 30, 3) := by decide +kernel
theorem dX7_shorten_129 : decode cX7_shorten 129 = .ok (.bipush 12, 2) := by decide +kernel
theorem dX7_shorten_131 : decode cX7_shorten 131 = .ok (.iload 4, 2) := by decide +kernel
theorem dX7_shorten_133 : decode cX7_shorten 133 = .ok (.imul, 1) := by decide +kernel
theorem dX7_shorten_134 : decode cX7_shorten 134 = .ok (.iload 5, 2) := by decide +kernel
theorem dX7_shorten_136 : decode cX7_shorten 136 = .ok (.iadd, 1) := by decide +kernel
theorem dX7_shorten_137 : decode cX7_shorten 137 = .ok (.laload, 1) := by decide +kernel
theorem dX7_shorten_138 : decode cX7_shorten 138 = .ok (.aload_n 0, 1) := by decide +kernel
theorem dX7_shorten_139 : decode cX7_shorten 139 = .ok (.getfield 30, 3) := by decide +kernel
theorem dX7_shorten_142 : decode cX7_shorten 142 = .ok (.bipush 12, 2) := by decide +kernel
theorem dX7_shorten_144 : decode cX7_shorten 144 = .ok (.iload 5, 2) := by decide +kernel
theorem dX7_shorten_146 : decode cX7_shorten 146 = .ok (.imul, 1) := by decide +kernel
theorem dX7_shorten_147 : decode cX7_shorten 147 = .ok (.iload 6, 2) := by decide +kernel
theorem dX7_shorten_149 : decode cX7_shorten 149 = .ok (.iadd, 1) := by decide +kernel
theorem dX7_shorten_150 : decode cX7_shorten 150 = .ok (.laload, 1) := by decide +kernel
theorem dX7_shorten_151 : decode cX7_shorten 151 = .ok (.ladd, 1) := by decide +kernel
theorem dX7_shorten_152 : decode cX7_shorten 152 = .ok (.lstore 7, 2) := by decide +kernel
theorem dX7_shorten_154 : decode cX7_shorten 154 = .ok (.lload 7, 2) := by decide +kernel
theorem dX7_shorten_156 : decode cX7_shorten 156 = .ok (.aload_n 0, 1) := by decide +kernel
theorem dX7_shorten_157 : decode cX7_shorten 157 = .ok (.getfield 30, 3) := by decide +kernel
theorem dX7_shorten_160 : decode cX7_shorten 160 = .ok (.bipush 12, 2) := by decide +kernel
theorem dX7_shorten_162 : decode cX7_shorten 162 = .ok (.iload 4, 2) := by decide +kernel
theorem dX7_shorten_164 : decode cX7_shorten 164 = .ok (.imul, 1) := by decide +kernel
theorem dX7_shorten_165 : decode cX7_shorten 165 = .ok (.iload 6, 2) := by decide +kernel
theorem dX7_shorten_167 : decode cX7_shorten 167 = .ok (.iadd, 1) := by decide +kernel
theorem dX7_shorten_168 : decode cX7_shorten 168 = .ok (.laload, 1) := by decide +kernel
theorem dX7_shorten_169 : decode cX7_shorten 169 = .ok (.lcmp, 1) := by decide +kernel
theorem dX7_shorten_170 : decode cX7_shorten 170 = .ok (.ifCond .ge 29, 3) := by decide +kernel
theorem dX7_shorten_173 : decode cX7_shorten 173 = .ok (.lload 7, 2) := by decide +kernel
theorem dX7_shorten_175 : decode cX7_shorten 175 = .ok (.ldc2_w 52, 3) := by decide +kernel
theorem dX7_shorten_178 : decode cX7_shorten 178 = .ok (.lcmp, 1) := by decide +kernel
theorem dX7_shorten_179 : decode cX7_shorten 179 = .ok (.ifCond .ge 20, 3) := by decide +kernel
theorem dX7_shorten_182 : decode cX7_shorten 182 = .ok (.aload_n 0, 1) := by decide +kernel
theorem dX7_shorten_183 : decode cX7_shorten 183 = .ok (.getfield 30, 3) := by decide +kernel
theorem dX7_shorten_186 : decode cX7_shorten 186 = .ok (.bipush 12, 2) := by decide +kernel
theorem dX7_shorten_188 : decode cX7_shorten 188 = .ok (.iload 4, 2) := by decide +kernel
theorem dX7_shorten_190 : decode cX7_shorten 190 = .ok (.imul, 1) := by decide +kernel
theorem dX7_shorten_191 : decode cX7_shorten 191 = .ok (.iload 6, 2) := by decide +kernel
theorem dX7_shorten_193 : decode cX7_shorten 193 = .ok (.iadd, 1) := by decide +kernel
theorem dX7_shorten_194 : decode cX7_shorten 194 = .ok (.lload 7, 2) := by decide +kernel
theorem dX7_shorten_196 : decode cX7_shorten 196 = .ok (.lastore, 1) := by decide +kernel
theorem dX7_shorten_197 : decode cX7_shorten 197 = .ok (.iconst 1, 1) := by decide +kernel
theorem dX7_shorten_198 : decode cX7_shorten 198 = .ok (.istore_n 2, 1) := by decide +kernel
theorem dX7_shorten_199 : decode cX7_shorten 199 = .ok (.iinc 3 1, 3) := by decide +kernel
theorem dX7_shorten_202 : decode cX7_shorten 202 = .ok (.goto (-129), 3) := by decide +kernel
theorem dX7_shorten_205 : decode cX7_shorten 205 = .ok (.goto (-140), 3) := by decide +kernel
theorem dX7_shorten_208 : decode cX7_shorten 208 = .ok (.iconst 1, 1) := by decide +kernel
theorem dX7_shorten_209 : decode cX7_shorten 209 = .ok (.istore_n 3, 1) := by decide +kernel
theorem dX7_shorten_210 : decode cX7_shorten 210 = .ok (.iconst 0, 1) := by decide +kernel
theorem dX7_shorten_211 : decode cX7_shorten 211 = .ok (.istore 4, 2) := by decide +kernel
theorem dX7_shorten_213 : decode cX7_shorten 213 = .ok (.iload 4, 2) := by decide +kernel
theorem dX7_shorten_215 : decode cX7_shorten 215 = .ok (.aload_n 0, 1) := by decide +kernel
theorem dX7_shorten_216 : decode cX7_shorten 216 = .ok (.getfield 48, 3) := by decide +kernel
theorem dX7_shorten_219 : decode cX7_shorten 219 = .ok (.if_icmp .ge 77, 3) := by decide +kernel
theorem dX7_shorten_222 : decode cX7_shorten 222 = .ok (.iconst 0, 1) := by decide +kernel
theorem dX7_shorten_223 : decode cX7_shorten 223 = .ok (.istore 5, 2) := by decide +kernel
theorem dX7_shorten_225 : decode cX7_shorten 225 = .ok (.iload 5, 2) := by decide +kernel
theorem dX7_shorten_227 : decode cX7_shorten 227 = .ok (.aload_n 0, 1) := by decide +kernel
theorem dX7_shorten_228 : decode cX7_shorten 228 = .ok (.getfield 48, 3) := by decide +kernel
theorem dX7_shorten_231 : decode cX7_shorten 231 = .ok (.if_icmp .ge 59, 3) := by decide +kernel
theorem dX7_shorten_234 : decode cX7_shorten 234 = .ok (.iload_n 3, 1) := by decide +kernel
theorem dX7_shorten_235 : decode cX7_shorten 235 = .ok (.ifCond .eq 47, 3) := by decide +kernel
theorem dX7_shorten_238 : decode cX7_shorten 238 = .ok (.aload_n 0, 1) := by decide +kernel
theorem dX7_shorten_239 : decode cX7_shorten 239 = .ok (.iload 4, 2) := by decide +kernel
theorem dX7_shorten_241 : decode cX7_shorten 241 = .ok (.iload_n 1, 1) := by decide +kernel
theorem dX7_shorten_242 : decode cX7_shorten 242 = .ok (.invokevirtual 110, 3) := by decide +kernel
theorem dX7_shorten_245 : decode cX7_shorten 245 = .ok (.ifCond .eq 33, 3) := by decide +kernel
theorem dX7_shorten_248 : decode cX7_shorten 248 = .ok (.aload_n 0, 1) := by decide +kernel
theorem dX7_shorten_249 : decode cX7_shorten 249 = .ok (.iload 5, 2) := by decide +kernel
theorem dX7_shorten_251 : decode cX7_shorten 251 = .ok (.iload_n 1, 1) := by decide +kernel
theorem dX7_shorten_252 : decode cX7_shorten 252 = .ok (.invokevirtual 110, 3) := by decide +kernel
theorem dX7_shorten_255 : decode cX7_shorten 255 = .ok (.ifCond .eq 23, 3) := by decide +kernel
theorem dX7_shorten_258 : decode cX7_shorten 258 = .ok (.aload_n 0, 1) := by decide +kernel
theorem dX7_shorten_259 : decode cX7_shorten 259 = .ok (.getfield 30, 3) := by decide +kernel
theorem dX7_shorten_262 : decode cX7_shorten 262 = .ok (.bipush 12, 2) := by decide +kernel
theorem dX7_shorten_264 : decode cX7_shorten 264 = .ok (.iload 4, 2) := by decide +kernel
theorem dX7_shorten_266 : decode cX7_shorten 266 = .ok (.imul, 1) := by decide +kernel
theorem dX7_shorten_267 : decode cX7_shorten 267 = .ok (.iload 5, 2) := by decide +kernel
theorem dX7_shorten_269 : decode cX7_shorten 269 = .ok (.iadd, 1) := by decide +kernel
theorem dX7_shorten_270 : decode cX7_shorten 270 = .ok (.laload, 1) := by decide +kernel
theorem dX7_shorten_271 : decode cX7_shorten 271 = .ok (.ldc2_w 52, 3) := by decide +kernel
theorem dX7_shorten_274 : decode cX7_shorten 274 = .ok (.lcmp, 1) := by decide +kernel
theorem dX7_shorten_275 : decode cX7_shorten 275 = .ok (.ifCond .ge 7, 3) := by decide +kernel
theorem dX7_shorten_278 : decode cX7_shorten 278 = .ok (.iconst 1, 1) := by decide +kernel
theorem dX7_shorten_279 : decode cX7_shorten 279 = .ok (.goto 4, 3) := by decide +kernel
theorem dX7_shorten_282 : decode cX7_shorten 282 = .ok (.iconst 0, 1) := by decide +kernel
theorem dX7_shorten_283 : decode cX7_shorten 283 = .ok (.istore_n 3, 1) := by decide +kernel
theorem dX7_shorten_284 : decode cX7_shorten 284 = .ok (.iinc 5 1, 3) := by decide +kernel
theorem dX7_shorten_287 : decode cX7_shorten 287 = .ok (.goto (-62), 3) := by decide +kernel
theorem dX7_shorten_290 : decode cX7_shorten 290 = .ok (.iinc 4 1, 3) := by decide +kernel
theorem dX7_shorten_293 : decode cX7_shorten 293 = .ok (.goto (-80), 3) := by decide +kernel
theorem dX7_shorten_296 : decode cX7_shorten 296 = .ok (.iload_n 3, 1) := by decide +kernel
theorem dX7_shorten_297 : decode cX7_shorten 297 = .ok (.ireturn, 1) := by decide +kernel
theorem dX7_least_0 : decode cX7_least 0 = .ok (.iconst 0, 1) := by decide +kernel
theorem dX7_least_1 : decode cX7_least 1 = .ok (.istore_n 2, 1) := by decide +kernel
theorem dX7_least_2 : decode cX7_least 2 = .ok (.iload_n 1, 1) := by decide +kernel
theorem dX7_least_3 : decode cX7_least 3 = .ok (.iload_n 2, 1) := by decide +kernel
theorem dX7_least_4 : decode cX7_least 4 = .ok (.ishr, 1) := by decide +kernel
theorem dX7_least_5 : decode cX7_least 5 = .ok (.iconst 1, 1) := by decide +kernel
theorem dX7_least_6 : decode cX7_least 6 = .ok (.iand, 1) := by decide +kernel
theorem dX7_least_7 : decode cX7_least 7 = .ok (.ifCond .ne 9, 3) := by decide +kernel
theorem dX7_least_10 : decode cX7_least 10 = .ok (.iinc 2 1, 3) := by decide +kernel
theorem dX7_least_13 : decode cX7_least 13 = .ok (.goto (-11), 3) := by decide +kernel
theorem dX7_least_16 : decode cX7_least 16 = .ok (.iload_n 2, 1) := by decide +kernel
theorem dX7_least_17 : decode cX7_least 17 = .ok (.ireturn, 1) := by decide +kernel
set_option maxRecDepth 20000 in
theorem ggX7_both_X7_length : GoodIn wsX7_both wsX7_length := goodIn_r _ [11, 12, 13, 14, 10, 15, 16, 21, 22, 23, 24, 25, 26, 27, 28, 29, 30, 31, 32, 33, 34, 35, 36, 37] (by decide +kernel) (by decide +kernel)
set_option maxRecDepth 20000 in
theorem gX7_both_X7_length : GoodIn wsX7_both (wsV RX7 67 RX7 yX7_length wsX7_length) := goodIn_app (goodIn_of _ (by decide +kernel)) ggX7_both_X7_length
set_option maxRecDepth 20000 in
theorem ggX7_both_X7_least : GoodIn wsX7_both wsX7_least := goodIn_r _ [20] (by decide +kernel) (by decide +kernel)
set_option maxRecDepth 20000 in
theorem gX7_both_X7_least : GoodIn wsX7_both (wsV RX7 114 RX7 yX7_least wsX7_least) := goodIn_app (goodIn_of _ (by decide +kernel)) ggX7_both_X7_least
theorem dX7_both_0 : decode cX7_both 0 = .ok (.lconst 0, 1) := by decide +kernel
theorem dX7_both_1 : decode cX7_both 1 = .ok (.lstore_n 1, 1) := by decide +kernel
theorem dX7_both_2 : decode cX7_both 2 = .ok (.iconst 0, 1) := by decide +kernel
theorem dX7_both_3 : decode cX7_both 3 = .ok (.istore_n 3, 1) := by decide +kernel
theorem dX7_both_4 : decode cX7_both 4 = .ok (.iconst 0, 1) := by decide +kernel
theorem dX7_both_5 : decode cX7_both 5 = .ok (.istore 4, 2) := by decide +kernel
theorem dX7_both_7 : decode cX7_both 7 = .ok (.iload 4, 2) := by decide +kernel
theorem dX7_both_9 : decode cX7_both 9 = .ok (.aload_n 0, 1) := by decide +kernel
theorem dX7_both_10 : decode cX7_both 10 = .ok (.getfield 48, 3) := by decide +kernel
theorem dX7_both_13 : decode cX7_both 13 = .ok (.if_icmp .ge 110, 3) := by decide +kernel
theorem dX7_both_16 : decode cX7_both 16 = .ok (.iconst 0, 1) := by decide +kernel
theorem dX7_both_17 : decode cX7_both 17 = .ok (.istore 5, 2) := by decide +kernel
theorem dX7_both_19 : decode cX7_both 19 = .ok (.iconst 0, 1) := by decide +kernel
theorem dX7_both_20 : decode cX7_both 20 = .ok (.istore 6, 2) := by decide +kernel
theorem dX7_both_22 : decode cX7_both 22 = .ok (.iload 6, 2) := by decide +kernel
theorem dX7_both_24 : decode cX7_both 24 = .ok (.aload_n 0, 1) := by decide +kernel
theorem dX7_both_25 : decode cX7_both 25 = .ok (.getfield 48, 3) := by decide +kernel
theorem dX7_both_28 : decode cX7_both 28 = .ok (.if_icmp .ge 79, 3) := by decide +kernel
theorem dX7_both_31 : decode cX7_both 31 = .ok (.iload 4, 2) := by decide +kernel
theorem dX7_both_33 : decode cX7_both 33 = .ok (.iload 6, 2) := by decide +kernel
theorem dX7_both_35 : decode cX7_both 35 = .ok (.if_icmp .eq 25, 3) := by decide +kernel
theorem dX7_both_38 : decode cX7_both 38 = .ok (.aload_n 0, 1) := by decide +kernel
theorem dX7_both_39 : decode cX7_both 39 = .ok (.iload 4, 2) := by decide +kernel
theorem dX7_both_41 : decode cX7_both 41 = .ok (.iload 6, 2) := by decide +kernel
theorem dX7_both_43 : decode cX7_both 43 = .ok (.invokevirtual 67, 3) := by decide +kernel
theorem dX7_both_46 : decode cX7_both 46 = .ok (.ldc2_w 52, 3) := by decide +kernel
theorem dX7_both_49 : decode cX7_both 49 = .ok (.lcmp, 1) := by decide +kernel
theorem dX7_both_50 : decode cX7_both 50 = .ok (.ifCond .ge 10, 3) := by decide +kernel
theorem dX7_both_53 : decode cX7_both 53 = .ok (.iload 5, 2) := by decide +kernel
theorem dX7_both_55 : decode cX7_both 55 = .ok (.iconst 1, 1) := by decide +kernel
theorem dX7_both_56 : decode cX7_both 56 = .ok (.iadd, 1) := by decide +kernel
theorem dX7_both_57 : decode cX7_both 57 = .ok (.goto 5, 3) := by decide +kernel
theorem dX7_both_60 : decode cX7_both 60 = .ok (.iload 5, 2) := by decide +kernel
theorem dX7_both_62 : decode cX7_both 62 = .ok (.istore 5, 2) := by decide +kernel
theorem dX7_both_64 : decode cX7_both 64 = .ok (.iload 4, 2) := by decide +kernel
theorem dX7_both_66 : decode cX7_both 66 = .ok (.iload 6, 2) := by decide +kernel
theorem dX7_both_68 : decode cX7_both 68 = .ok (.if_icmp .ge 31, 3) := by decide +kernel
theorem dX7_both_71 : decode cX7_both 71 = .ok (.aload_n 0, 1) := by decide +kernel
theorem dX7_both_72 : decode cX7_both 72 = .ok (.iload 4, 2) := by decide +kernel
theorem dX7_both_74 : decode cX7_both 74 = .ok (.iload 6, 2) := by decide +kernel
theorem dX7_both_76 : decode cX7_both 76 = .ok (.invokevirtual 67, 3) := by decide +kernel
theorem dX7_both_79 : decode cX7_both 79 = .ok (.ldc2_w 52, 3) := by decide +kernel
theorem dX7_both_82 : decode cX7_both 82 = .ok (.lcmp, 1) := by decide +kernel
theorem dX7_both_83 : decode cX7_both 83 = .ok (.ifCond .ge 16, 3) := by decide +kernel
theorem dX7_both_86 : decode cX7_both 86 = .ok (.lload_n 1, 1) := by decide +kernel
theorem dX7_both_87 : decode cX7_both 87 = .ok (.aload_n 0, 1) := by decide +kernel
theorem dX7_both_88 : decode cX7_both 88 = .ok (.iload 4, 2) := by decide +kernel
theorem dX7_both_90 : decode cX7_both 90 = .ok (.iload 6, 2) := by decide +kernel
theorem dX7_both_92 : decode cX7_both 92 = .ok (.invokevirtual 67, 3) := by decide +kernel
theorem dX7_both_95 : decode cX7_both 95 = .ok (.ladd, 1) := by decide +kernel
theorem dX7_both_96 : decode cX7_both 96 = .ok (.goto 4, 3) := by decide +kernel
theorem dX7_both_99 : decode cX7_both 99 = .ok (.lload_n 1, 1) := by decide +kernel
theorem dX7_both_100 : decode cX7_both 100 = .ok (.lstore_n 1, 1) := by decide +kernel
theorem dX7_both_101 : decode cX7_both 101 = .ok (.iinc 6 1, 3) := by decide +kernel
theorem dX7_both_104 : decode cX7_both 104 = .ok (.goto (-82), 3) := by decide +kernel
theorem dX7_both_107 : decode cX7_both 107 = .ok (.iload_n 3, 1) := by decide +kernel
theorem dX7_both_108 : decode cX7_both 108 = .ok (.iload 5, 2) := by decide +kernel
theorem dX7_both_110 : decode cX7_both 110 = .ok (.iconst 1, 1) := by decide +kernel
theorem dX7_both_111 : decode cX7_both 111 = .ok (.iand, 1) := by decide +kernel
theorem dX7_both_112 : decode cX7_both 112 = .ok (.iload 4, 2) := by decide +kernel
theorem dX7_both_114 : decode cX7_both 114 = .ok (.ishl, 1) := by decide +kernel
theorem dX7_both_115 : decode cX7_both 115 = .ok (.ior, 1) := by decide +kernel
theorem dX7_both_116 : decode cX7_both 116 = .ok (.istore_n 3, 1) := by decide +kernel
theorem dX7_both_117 : decode cX7_both 117 = .ok (.iinc 4 1, 3) := by decide +kernel
theorem dX7_both_120 : decode cX7_both 120 = .ok (.goto (-113), 3) := by decide +kernel
end
section
theorem dX7_both_123 : decode cX7_both 123 = .ok (.aload_n 0, 1) := by decide +kernel
theorem dX7_both_124 : decode cX7_both 124 = .ok (.getfield 27, 3) := by decide +kernel
theorem dX7_both_127 : decode cX7_both 127 = .ok (.iconst 0, 1) := by decide +kernel
theorem dX7_both_128 : decode cX7_both 128 = .ok (.lconst 0, 1) := by decide +kernel
theorem dX7_both_129 : decode cX7_both 129 = .ok (.lastore, 1) := by decide +kernel
theorem dX7_both_130 : decode cX7_both 130 = .ok (.iconst 1, 1) := by decide +kernel
theorem dX7_both_131 : decode cX7_both 131 = .ok (.istore 4, 2) := by decide +kernel
theorem dX7_both_133 : decode cX7_both 133 = .ok (.iload 4, 2) := by decide +kernel
theorem dX7_both_135 : decode cX7_both 135 = .ok (.iconst 1, 1) := by decide +kernel
theorem dX7_both_136 : decode cX7_both 136 = .ok (.aload_n 0, 1) := by decide +kernel
theorem dX7_both_137 : decode cX7_both 137 = .ok (.getfield 48, 3) := by decide +kernel
theorem dX7_both_140 : decode cX7_both 140 = .ok (.ishl, 1) := by decide +kernel
theorem dX7_both_141 : decode cX7_both 141 = .ok (.if_icmp .ge 148, 3) := by decide +kernel
theorem dX7_both_144 : decode cX7_both 144 = .ok (.aload_n 0, 1) := by decide +kernel
theorem dX7_both_145 : decode cX7_both 145 = .ok (.getfield 27, 3) := by decide +kernel
theorem dX7_both_148 : decode cX7_both 148 = .ok (.iload 4, 2) := by decide +kernel
theorem dX7_both_150 : decode cX7_both 150 = .ok (.ldc2_w 52, 3) := by decide +kernel
theorem dX7_both_153 : decode cX7_both 153 = .ok (.lastore, 1) := by decide +kernel
theorem dX7_both_154 : decode cX7_both 154 = .ok (.aload_n 0, 1) := by decide +kernel
theorem dX7_both_155 : decode cX7_both 155 = .ok (.iload 4, 2) := by decide +kernel
theorem dX7_both_157 : decode cX7_both 157 = .ok (.invokevirtual 114, 3) := by decide +kernel
theorem dX7_both_160 : decode cX7_both 160 = .ok (.istore 5, 2) := by decide +kernel
theorem dX7_both_162 : decode cX7_both 162 = .ok (.iload 5, 2) := by decide +kernel
theorem dX7_both_164 : decode cX7_both 164 = .ok (.iconst 1, 1) := by decide +kernel
theorem dX7_both_165 : decode cX7_both 165 = .ok (.iadd, 1) := by decide +kernel
theorem dX7_both_166 : decode cX7_both 166 = .ok (.istore 6, 2) := by decide +kernel
theorem dX7_both_168 : decode cX7_both 168 = .ok (.iload 6, 2) := by decide +kernel
theorem dX7_both_170 : decode cX7_both 170 = .ok (.aload_n 0, 1) := by decide +kernel
theorem dX7_both_171 : decode cX7_both 171 = .ok (.getfield 48, 3) := by decide +kernel
theorem dX7_both_174 : decode cX7_both 174 = .ok (.if_icmp .ge 109, 3) := by decide +kernel
theorem dX7_both_177 : decode cX7_both 177 = .ok (.iload 4, 2) := by decide +kernel
theorem dX7_both_179 : decode cX7_both 179 = .ok (.iload_n 3, 1) := by decide +kernel
theorem dX7_both_180 : decode cX7_both 180 = .ok (.iconst (-1), 1) := by decide +kernel
theorem dX7_both_181 : decode cX7_both 181 = .ok (.ixor, 1) := by decide +kernel
theorem dX7_both_182 : decode cX7_both 182 = .ok (.iand, 1) := by decide +kernel
theorem dX7_both_183 : decode cX7_both 183 = .ok (.ifCond .ne 100, 3) := by decide +kernel
theorem dX7_both_186 : decode cX7_both 186 = .ok (.iload 4, 2) := by decide +kernel
theorem dX7_both_188 : decode cX7_both 188 = .ok (.iload 6, 2) := by decide +kernel
theorem dX7_both_190 : decode cX7_both 190 = .ok (.ishr, 1) := by decide +kernel
theorem dX7_both_191 : decode cX7_both 191 = .ok (.iconst 1, 1) := by decide +kernel
theorem dX7_both_192 : decode cX7_both 192 = .ok (.iand, 1) := by decide +kernel
theorem dX7_both_193 : decode cX7_both 193 = .ok (.iconst 1, 1) := by decide +kernel
theorem dX7_both_194 : decode cX7_both 194 = .ok (.if_icmp .ne 83, 3) := by decide +kernel
theorem dX7_both_197 : decode cX7_both 197 = .ok (.aload_n 0, 1) := by decide +kernel
theorem dX7_both_198 : decode cX7_both 198 = .ok (.getfield 27, 3) := by decide +kernel
theorem dX7_both_201 : decode cX7_both 201 = .ok (.iload 4, 2) := by decide +kernel
theorem dX7_both_203 : decode cX7_both 203 = .ok (.iconst 1, 1) := by decide +kernel
theorem dX7_both_204 : decode cX7_both 204 = .ok (.iload 5, 2) := by decide +kernel
theorem dX7_both_206 : decode cX7_both 206 = .ok (.ishl, 1) := by decide +kernel
theorem dX7_both_207 : decode cX7_both 207 = .ok (.ixor, 1) := by decide +kernel
theorem dX7_both_208 : decode cX7_both 208 = .ok (.iconst 1, 1) := by decide +kernel
theorem dX7_both_209 : decode cX7_both 209 = .ok (.iload 6, 2) := by decide +kernel
theorem dX7_both_211 : decode cX7_both 211 = .ok (.ishl, 1) := by decide +kernel
theorem dX7_both_212 : decode cX7_both 212 = .ok (.ixor, 1) := by decide +kernel
theorem dX7_both_213 : decode cX7_both 213 = .ok (.laload, 1) := by decide +kernel
theorem dX7_both_214 : decode cX7_both 214 = .ok (.aload_n 0, 1) := by decide +kernel
theorem dX7_both_215 : decode cX7_both 215 = .ok (.getfield 30, 3) := by decide +kernel
theorem dX7_both_218 : decode cX7_both 218 = .ok (.bipush 12, 2) := by decide +kernel
theorem dX7_both_220 : decode cX7_both 220 = .ok (.iload 5, 2) := by decide +kernel
theorem dX7_both_222 : decode cX7_both 222 = .ok (.imul, 1) := by decide +kernel
theorem dX7_both_223 : decode cX7_both 223 = .ok (.iload 6, 2) := by decide +kernel
theorem dX7_both_225 : decode cX7_both 225 = .ok (.iadd, 1) := by decide +kernel
theorem dX7_both_226 : decode cX7_both 226 = .ok (.laload, 1) := by decide +kernel
theorem dX7_both_227 : decode cX7_both 227 = .ok (.ladd, 1) := by decide +kernel
theorem dX7_both_228 : decode cX7_both 228 = .ok (.aload_n 0, 1) := by decide +kernel
theorem dX7_both_229 : decode cX7_both 229 = .ok (.getfield 27, 3) := by decide +kernel
theorem dX7_both_232 : decode cX7_both 232 = .ok (.iload 4, 2) := by decide +kernel
theorem dX7_both_234 : decode cX7_both 234 = .ok (.laload, 1) := by decide +kernel
theorem dX7_both_235 : decode cX7_both 235 = .ok (.lcmp, 1) := by decide +kernel
theorem dX7_both_236 : decode cX7_both 236 = .ok (.ifCond .ge 41, 3) := by decide +kernel
theorem dX7_both_239 : decode cX7_both 239 = .ok (.aload_n 0, 1) := by decide +kernel
theorem dX7_both_240 : decode cX7_both 240 = .ok (.getfield 27, 3) := by decide +kernel
theorem dX7_both_243 : decode cX7_both 243 = .ok (.iload 4, 2) := by decide +kernel
theorem dX7_both_245 : decode cX7_both 245 = .ok (.aload_n 0, 1) := by decide +kernel
theorem dX7_both_246 : decode cX7_both 246 = .ok (.getfield 27, 3) := by decide +kernel
theorem dX7_both_249 : decode cX7_both 249 = .ok (.iload 4, 2) := by decide +kernel
theorem dX7_both_251 : decode cX7_both 251 = .ok (.iconst 1, 1) := by decide +kernel
theorem dX7_both_252 : decode cX7_both 252 = .ok (.iload 5, 2) := by decide +kernel
theorem dX7_both_254 : decode cX7_both 254 = .ok (.ishl, 1) := by decide +kernel
theorem dX7_both_255 : decode cX7_both 255 = .ok (.ixor, 1) := by decide +kernel
theorem dX7_both_256 : decode cX7_both 256 = .ok (.iconst 1, 1) := by decide +kernel
theorem dX7_both_257 : decode cX7_both 257 = .ok (.iload 6, 2) := by decide +kernel
theorem dX7_both_259 : decode cX7_both 259 = .ok (.ishl, 1) := by decide +kernel
theorem dX7_both_260 : decode cX7_both 260 = .ok (.ixor, 1) := by decide +kernel
theorem dX7_both_261 : decode cX7_both 261 = .ok (.laload, 1) := by decide +kernel
theorem dX7_both_262 : decode cX7_both 262 = .ok (.aload_n 0, 1) := by decide +kernel
theorem dX7_both_263 : decode cX7_both 263 = .ok (.getfield 30, 3) := by decide +kernel
theorem dX7_both_266 : decode cX7_both 266 = .ok (.bipush 12, 2) := by decide +kernel
theorem dX7_both_268 : decode cX7_both 268 = .ok (.iload 5, 2) := by decide +kernel
theorem dX7_both_270 : decode cX7_both 270 = .ok (.imul, 1) := by decide +kernel
theorem dX7_both_271 : decode cX7_both 271 = .ok (.iload 6, 2) := by decide +kernel
theorem dX7_both_273 : decode cX7_both 273 = .ok (.iadd, 1) := by decide +kernel
theorem dX7_both_274 : decode cX7_both 274 = .ok (.laload, 1) := by decide +kernel
theorem dX7_both_275 : decode cX7_both 275 = .ok (.ladd, 1) := by decide +kernel
theorem dX7_both_276 : decode cX7_both 276 = .ok (.lastore, 1) := by decide +kernel
theorem dX7_both_277 : decode cX7_both 277 = .ok (.iinc 6 1, 3) := by decide +kernel
theorem dX7_both_280 : decode cX7_both 280 = .ok (.goto (-112), 3) := by decide +kernel
theorem dX7_both_283 : decode cX7_both 283 = .ok (.iinc 4 1, 3) := by decide +kernel
theorem dX7_both_286 : decode cX7_both 286 = .ok (.goto (-153), 3) := by decide +kernel
theorem dX7_both_289 : decode cX7_both 289 = .ok (.aload_n 0, 1) := by decide +kernel
theorem dX7_both_290 : decode cX7_both 290 = .ok (.iconst 0, 1) := by decide +kernel
theorem dX7_both_291 : decode cX7_both 291 = .ok (.putfield 118, 3) := by decide +kernel
theorem dX7_both_294 : decode cX7_both 294 = .ok (.iload_n 3, 1) := by decide +kernel
theorem dX7_both_295 : decode cX7_both 295 = .ok (.istore 4, 2) := by decide +kernel
theorem dX7_both_297 : decode cX7_both 297 = .ok (.iload 4, 2) := by decide +kernel
theorem dX7_both_299 : decode cX7_both 299 = .ok (.ifCond .eq 130, 3) := by decide +kernel
theorem dX7_both_302 : decode cX7_both 302 = .ok (.aload_n 0, 1) := by decide +kernel
theorem dX7_both_303 : decode cX7_both 303 = .ok (.iload 4, 2) := by decide +kernel
theorem dX7_both_305 : decode cX7_both 305 = .ok (.invokevirtual 114, 3) := by decide +kernel
theorem dX7_both_308 : decode cX7_both 308 = .ok (.istore 5, 2) := by decide +kernel
theorem dX7_both_310 : decode cX7_both 310 = .ok (.iload 5, 2) := by decide +kernel
theorem dX7_both_312 : decode cX7_both 312 = .ok (.iconst 1, 1) := by decide +kernel
theorem dX7_both_313 : decode cX7_both 313 = .ok (.iadd, 1) := by decide +kernel
theorem dX7_both_314 : decode cX7_both 314 = .ok (.istore 6, 2) := by decide +kernel
theorem dX7_both_316 : decode cX7_both 316 = .ok (.iload 4, 2) := by decide +kernel
theorem dX7_both_318 : decode cX7_both 318 = .ok (.iload 6, 2) := by decide +kernel
theorem dX7_both_320 : decode cX7_both 320 = .ok (.ishr, 1) := by decide +kernel
theorem dX7_both_321 : decode cX7_both 321 = .ok (.iconst 1, 1) := by decide +kernel
theorem dX7_both_322 : decode cX7_both 322 = .ok (.iand, 1) := by decide +kernel
theorem dX7_both_323 : decode cX7_both 323 = .ok (.ifCond .eq 45, 3) := by decide +kernel
theorem dX7_both_326 : decode cX7_both 326 = .ok (.aload_n 0, 1) := by decide +kernel
theorem dX7_both_327 : decode cX7_both 327 = .ok (.getfield 27, 3) := by decide +kernel
theorem dX7_both_330 : decode cX7_both 330 = .ok (.iload 4, 2) := by decide +kernel
theorem dX7_both_332 : decode cX7_both 332 = .ok (.iconst 1, 1) := by decide +kernel
theorem dX7_both_333 : decode cX7_both 333 = .ok (.iload 5, 2) := by decide +kernel
theorem dX7_both_335 : decode cX7_both 335 = .ok (.ishl, 1) := by decide +kernel
theorem dX7_both_336 : decode cX7_both 336 = .ok (.ixor, 1) := by decide +kernel
theorem dX7_both_337 : decode cX7_both 337 = .ok (.iconst 1, 1) := by decide +kernel
theorem dX7_both_338 : decode cX7_both 338 = .ok (.iload 6, 2) := by decide +kernel
theorem dX7_both_340 : decode cX7_both 340 = .ok (.ishl, 1) := by decide +kernel
theorem dX7_both_341 : decode cX7_both 341 = .ok (.ixor, 1) := by decide +kernel
theorem dX7_both_342 : decode cX7_both 342 = .ok (.laload, 1) := by decide +kernel
theorem dX7_both_343 : decode cX7_both 343 = .ok (.aload_n 0, 1) := by decide +kernel
theorem dX7_both_344 : decode cX7_both 344 = .ok (.getfield 30, 3) := by decide +kernel
theorem dX7_both_347 : decode cX7_both 347 = .ok (.bipush 12, 2) := by decide +kernel
theorem dX7_both_349 : decode cX7_both 349 = .ok (.iload 5, 2) := by decide +kernel
theorem dX7_both_351 : decode cX7_both 351 = .ok (.imul, 1) := by decide +kernel
theorem dX7_both_352 : decode cX7_both 352 = .ok (.iload 6, 2) := by decide +kernel
theorem dX7_both_354 : decode cX7_both 354 = .ok (.iadd, 1) := by decide +kernel
theorem dX7_both_355 : decode cX7_both 355 = .ok (.laload, 1) := by decide +kernel
theorem dX7_both_356 : decode cX7_both 356 = .ok (.ladd, 1) := by decide +kernel
theorem dX7_both_357 : decode cX7_both 357 = .ok (.aload_n 0, 1) := by decide +kernel
theorem dX7_both_358 : decode cX7_both 358 = .ok (.getfield 27, 3) := by decide +kernel
theorem dX7_both_361 : decode cX7_both 361 = .ok (.iload 4, 2) := by decide +kernel
theorem dX7_both_363 : decode cX7_both 363 = .ok (.laload, 1) := by decide +kernel
theorem dX7_both_364 : decode cX7_both 364 = .ok (.lcmp, 1) := by decide +kernel
theorem dX7_both_365 : decode cX7_both 365 = .ok (.ifCond .eq 9, 3) := by decide +kernel
theorem dX7_both_368 : decode cX7_both 368 = .ok (.iinc 6 1, 3) := by decide +kernel
theorem dX7_both_371 : decode cX7_both 371 = .ok (.goto (-55), 3) := by decide +kernel
theorem dX7_both_374 : decode cX7_both 374 = .ok (.aload_n 0, 1) := by decide +kernel
theorem dX7_both_375 : decode cX7_both 375 = .ok (.getfield 13, 3) := by decide +kernel
theorem dX7_both_378 : decode cX7_both 378 = .ok (.iconst 2, 1) := by decide +kernel
theorem dX7_both_379 : decode cX7_both 379 = .ok (.aload_n 0, 1) := by decide +kernel
theorem dX7_both_380 : decode cX7_both 380 = .ok (.getfield 118, 3) := by decide +kernel
theorem dX7_both_383 : decode cX7_both 383 = .ok (.imul, 1) := by decide +kernel
theorem dX7_both_384 : decode cX7_both 384 = .ok (.iload 5, 2) := by decide +kernel
theorem dX7_both_386 : decode cX7_both 386 = .ok (.iastore, 1) := by decide +kernel
theorem dX7_both_387 : decode cX7_both 387 = .ok (.aload_n 0, 1) := by decide +kernel
theorem dX7_both_388 : decode cX7_both 388 = .ok (.getfield 13, 3) := by decide +kernel
theorem dX7_both_391 : decode cX7_both 391 = .ok (.iconst 2, 1) := by decide +kernel
theorem dX7_both_392 : decode cX7_both 392 = .ok (.aload_n 0, 1) := by decide +kernel
theorem dX7_both_393 : decode cX7_both 393 = .ok (.getfield 118, 3) := by decide +kernel
theorem dX7_both_396 : decode cX7_both 396 = .ok (.imul, 1) := by decide +kernel
theorem dX7_both_397 : decode cX7_both 397 = .ok (.iconst 1, 1) := by decide +kernel
theorem dX7_both_398 : decode cX7_both 398 = .ok (.iadd, 1) := by decide +kernel
theorem dX7_both_399 : decode cX7_both 399 = .ok (.iload 6, 2) := by decide +kernel
theorem dX7_both_401 : decode cX7_both 401 = .ok (.iastore, 1) := by decide +kernel
theorem dX7_both_402 : decode cX7_both 402 = .ok (.aload_n 0, 1) := by decide +kernel
theorem dX7_both_403 : decode cX7_both 403 = .ok (.dup, 1) := by decide +kernel
theorem dX7_both_404 : decode cX7_both 404 = .ok (.getfield 118, 3) := by decide +kernel
theorem dX7_both_407 : decode cX7_both 407 = .ok (.iconst 1, 1) := by decide +kernel
theorem dX7_both_408 : decode cX7_both 408 = .ok (.iadd, 1) := by decide +kernel
theorem dX7_both_409 : decode cX7_both 409 = .ok (.putfield 118, 3) := by decide +kernel
theorem dX7_both_412 : decode cX7_both 412 = .ok (.iload 4, 2) := by decide +kernel
theorem dX7_both_414 : decode cX7_both 414 = .ok (.iconst 1, 1) := by decide +kernel
theorem dX7_both_415 : decode cX7_both 415 = .ok (.iload 5, 2) := by decide +kernel
theorem dX7_both_417 : decode cX7_both 417 = .ok (.ishl, 1) := by decide +kernel
theorem dX7_both_418 : decode cX7_both 418 = .ok (.ixor, 1) := by decide +kernel
theorem dX7_both_419 : decode cX7_both 419 = .ok (.iconst 1, 1) := by decide +kernel
theorem dX7_both_420 : decode cX7_both 420 = .ok (.iload 6, 2) := by decide +kernel
theorem dX7_both_422 : decode cX7_both 422 = .ok (.ishl, 1) := by decide +kernel
theorem dX7_both_423 : decode cX7_both 423 = .ok (.ixor, 1) := by decide +kernel
theorem dX7_both_424 : decode cX7_both 424 = .ok (.istore 4, 2) := by decide +kernel
theorem dX7_both_426 : decode cX7_both 426 = .ok (.goto (-129), 3) := by decide +kernel
theorem dX7_both_429 : decode cX7_both 429 = .ok (.lload_n 1, 1) := by decide +kernel
theorem dX7_both_430 : decode cX7_both 430 = .ok (.aload_n 0, 1) := by decide +kernel
theorem dX7_both_431 : decode cX7_both 431 = .ok (.getfield 27, 3) := by decide +kernel
theorem dX7_both_434 : decode cX7_both 434 = .ok (.iload_n 3, 1) := by decide +kernel
theorem dX7_both_435 : decode cX7_both 435 = .ok (.laload, 1) := by decide +kernel
theorem dX7_both_436 : decode cX7_both 436 = .ok (.ladd, 1) := by decide +kernel
theorem dX7_both_437 : decode cX7_both 437 = .ok (.lreturn, 1) := by decide +kernel
set_option maxRecDepth 20000 in
theorem ggX7_one_X7_way_ : GoodIn wsX7_one wsX7_way_ := goodIn_r _ [10, 11, 30, 31, 32, 33, 34, 35, 36, 37, 38, 39, 40, 41, 42, 43, 44, 45, 46] (by decide +kernel) (by decide +kernel)
set_option maxRecDepth 20000 in
theorem gX7_one_X7_way_ : GoodIn wsX7_one (wsV RX7 63 RX7 yX7_way_ wsX7_way_) := goodIn_app (goodIn_of _ (by decide +kernel)) ggX7_one_X7_way_
set_option maxRecDepth 20000 in
theorem ggX7_one_X7_cheaper : GoodIn wsX7_one wsX7_cheaper := goodIn_r _ [15, 16, 17, 4, 3, 18, 19, 20, 9, 21, 5, 22, 23, 24, 25, 1, 26, 27, 28, 29, 30, 31, 32, 33, 34, 35, 36, 37, 38, 39, 40, 41, 42, 43, 44, 45, 46] (by decide +kernel) (by decide +kernel)
set_option maxRecDepth 20000 in
theorem gX7_one_X7_cheaper : GoodIn wsX7_one (wsV RX7 121 RX7 yX7_cheaper wsX7_cheaper) := goodIn_app (goodIn_of _ (by decide +kernel)) ggX7_one_X7_cheaper
theorem dX7_one_0 : decode cX7_one 0 = .ok (.lconst 0, 1) := by decide +kernel
theorem dX7_one_1 : decode cX7_one 1 = .ok (.lstore_n 1, 1) := by decide +kernel
theorem dX7_one_2 : decode cX7_one 2 = .ok (.iconst 0, 1) := by decide +kernel
theorem dX7_one_3 : decode cX7_one 3 = .ok (.istore_n 3, 1) := by decide +kernel
theorem dX7_one_4 : decode cX7_one 4 = .ok (.iload_n 3, 1) := by decide +kernel
theorem dX7_one_5 : decode cX7_one 5 = .ok (.aload_n 0, 1) := by decide +kernel
theorem dX7_one_6 : decode cX7_one 6 = .ok (.getfield 48, 3) := by decide +kernel
theorem dX7_one_9 : decode cX7_one 9 = .ok (.if_icmp .ge 117, 3) := by decide +kernel
theorem dX7_one_12 : decode cX7_one 12 = .ok (.aload_n 0, 1) := by decide +kernel
theorem dX7_one_13 : decode cX7_one 13 = .ok (.getfield 36, 3) := by decide +kernel
theorem dX7_one_16 : decode cX7_one 16 = .ok (.iload_n 3, 1) := by decide +kernel
theorem dX7_one_17 : decode cX7_one 17 = .ok (.iconst 0, 1) := by decide +kernel
theorem dX7_one_18 : decode cX7_one 18 = .ok (.iastore, 1) := by decide +kernel
theorem dX7_one_19 : decode cX7_one 19 = .ok (.iconst 0, 1) := by decide +kernel
theorem dX7_one_20 : decode cX7_one 20 = .ok (.istore 4, 2) := by decide +kernel
theorem dX7_one_22 : decode cX7_one 22 = .ok (.iload 4, 2) := by decide +kernel
theorem dX7_one_24 : decode cX7_one 24 = .ok (.aload_n 0, 1) := by decide +kernel
theorem dX7_one_25 : decode cX7_one 25 = .ok (.getfield 48, 3) := by decide +kernel
theorem dX7_one_28 : decode cX7_one 28 = .ok (.if_icmp .ge 92, 3) := by decide +kernel
theorem dX7_one_31 : decode cX7_one 31 = .ok (.aload_n 0, 1) := by decide +kernel
theorem dX7_one_32 : decode cX7_one 32 = .ok (.getfield 33, 3) := by decide +kernel
theorem dX7_one_35 : decode cX7_one 35 = .ok (.bipush 12, 2) := by decide +kernel
theorem dX7_one_37 : decode cX7_one 37 = .ok (.iload_n 3, 1) := by decide +kernel
theorem dX7_one_38 : decode cX7_one 38 = .ok (.imul, 1) := by decide +kernel
theorem dX7_one_39 : decode cX7_one 39 = .ok (.iload 4, 2) := by decide +kernel
theorem dX7_one_41 : decode cX7_one 41 = .ok (.iadd, 1) := by decide +kernel
theorem dX7_one_42 : decode cX7_one 42 = .ok (.iconst 0, 1) := by decide +kernel
theorem dX7_one_43 : decode cX7_one 43 = .ok (.iastore, 1) := by decide +kernel
theorem dX7_one_44 : decode cX7_one 44 = .ok (.iload_n 3, 1) := by decide +kernel
theorem dX7_one_45 : decode cX7_one 45 = .ok (.iload 4, 2) := by decide +kernel
theorem dX7_one_47 : decode cX7_one 47 = .ok (.if_icmp .eq 27, 3) := by decide +kernel
theorem dX7_one_50 : decode cX7_one 50 = .ok (.aload_n 0, 1) := by decide +kernel
theorem dX7_one_51 : decode cX7_one 51 = .ok (.iload 4, 2) := by decide +kernel
theorem dX7_one_53 : decode cX7_one 53 = .ok (.iload_n 3, 1) := by decide +kernel
theorem dX7_one_54 : decode cX7_one 54 = .ok (.invokevirtual 63, 3) := by decide +kernel
theorem dX7_one_57 : decode cX7_one 57 = .ok (.ldc2_w 52, 3) := by decide +kernel
theorem dX7_one_60 : decode cX7_one 60 = .ok (.lcmp, 1) := by decide +kernel
theorem dX7_one_61 : decode cX7_one 61 = .ok (.ifCond .ge 13, 3) := by decide +kernel
theorem dX7_one_64 : decode cX7_one 64 = .ok (.aload_n 0, 1) := by decide +kernel
theorem dX7_one_65 : decode cX7_one 65 = .ok (.getfield 36, 3) := by decide +kernel
theorem dX7_one_68 : decode cX7_one 68 = .ok (.iload_n 3, 1) := by decide +kernel
theorem dX7_one_69 : decode cX7_one 69 = .ok (.dup2, 1) := by decide +kernel
theorem dX7_one_70 : decode cX7_one 70 = .ok (.iaload, 1) := by decide +kernel
theorem dX7_one_71 : decode cX7_one 71 = .ok (.iconst 1, 1) := by decide +kernel
theorem dX7_one_72 : decode cX7_one 72 = .ok (.iadd, 1) := by decide +kernel
theorem dX7_one_73 : decode cX7_one 73 = .ok (.iastore, 1) := by decide +kernel
theorem dX7_one_74 : decode cX7_one 74 = .ok (.iload_n 3, 1) := by decide +kernel
theorem dX7_one_75 : decode cX7_one 75 = .ok (.iload 4, 2) := by decide +kernel
theorem dX7_one_77 : decode cX7_one 77 = .ok (.if_icmp .eq 37, 3) := by decide +kernel
theorem dX7_one_80 : decode cX7_one 80 = .ok (.aload_n 0, 1) := by decide +kernel
theorem dX7_one_81 : decode cX7_one 81 = .ok (.iload_n 3, 1) := by decide +kernel
theorem dX7_one_82 : decode cX7_one 82 = .ok (.iload 4, 2) := by decide +kernel
theorem dX7_one_84 : decode cX7_one 84 = .ok (.invokevirtual 63, 3) := by decide +kernel
theorem dX7_one_87 : decode cX7_one 87 = .ok (.ldc2_w 52, 3) := by decide +kernel
theorem dX7_one_90 : decode cX7_one 90 = .ok (.lcmp, 1) := by decide +kernel
theorem dX7_one_91 : decode cX7_one 91 = .ok (.ifCond .ge 23, 3) := by decide +kernel
theorem dX7_one_94 : decode cX7_one 94 = .ok (.aload_n 0, 1) := by decide +kernel
theorem dX7_one_95 : decode cX7_one 95 = .ok (.getfield 36, 3) := by decide +kernel
theorem dX7_one_98 : decode cX7_one 98 = .ok (.iload_n 3, 1) := by decide +kernel
theorem dX7_one_99 : decode cX7_one 99 = .ok (.dup2, 1) := by decide +kernel
theorem dX7_one_100 : decode cX7_one 100 = .ok (.iaload, 1) := by decide +kernel
theorem dX7_one_101 : decode cX7_one 101 = .ok (.iconst 1, 1) := by decide +kernel
theorem dX7_one_102 : decode cX7_one 102 = .ok (.isub, 1) := by decide +kernel
theorem dX7_one_103 : decode cX7_one 103 = .ok (.iastore, 1) := by decide +kernel
theorem dX7_one_104 : decode cX7_one 104 = .ok (.lload_n 1, 1) := by decide +kernel
theorem dX7_one_105 : decode cX7_one 105 = .ok (.aload_n 0, 1) := by decide +kernel
theorem dX7_one_106 : decode cX7_one 106 = .ok (.iload_n 3, 1) := by decide +kernel
theorem dX7_one_107 : decode cX7_one 107 = .ok (.iload 4, 2) := by decide +kernel
theorem dX7_one_109 : decode cX7_one 109 = .ok (.invokevirtual 63, 3) := by decide +kernel
theorem dX7_one_112 : decode cX7_one 112 = .ok (.ladd, 1) := by decide +kernel
theorem dX7_one_113 : decode cX7_one 113 = .ok (.lstore_n 1, 1) := by decide +kernel
theorem dX7_one_114 : decode cX7_one 114 = .ok (.iinc 4 1, 3) := by decide +kernel
theorem dX7_one_117 : decode cX7_one 117 = .ok (.goto (-95), 3) := by decide +kernel
theorem dX7_one_120 : decode cX7_one 120 = .ok (.iinc 3 1, 3) := by decide +kernel
theorem dX7_one_123 : decode cX7_one 123 = .ok (.goto (-119), 3) := by decide +kernel
theorem dX7_one_126 : decode cX7_one 126 = .ok (.iconst 0, 1) := by decide +kernel
theorem dX7_one_127 : decode cX7_one 127 = .ok (.istore_n 3, 1) := by decide +kernel
theorem dX7_one_128 : decode cX7_one 128 = .ok (.iload_n 3, 1) := by decide +kernel
theorem dX7_one_129 : decode cX7_one 129 = .ok (.aload_n 0, 1) := by decide +kernel
theorem dX7_one_130 : decode cX7_one 130 = .ok (.getfield 48, 3) := by decide +kernel
theorem dX7_one_133 : decode cX7_one 133 = .ok (.if_icmp .ge 86, 3) := by decide +kernel
theorem dX7_one_136 : decode cX7_one 136 = .ok (.iconst 0, 1) := by decide +kernel
theorem dX7_one_137 : decode cX7_one 137 = .ok (.istore 4, 2) := by decide +kernel
theorem dX7_one_139 : decode cX7_one 139 = .ok (.iload 4, 2) := by decide +kernel
theorem dX7_one_141 : decode cX7_one 141 = .ok (.aload_n 0, 1) := by decide +kernel
theorem dX7_one_142 : decode cX7_one 142 = .ok (.getfield 48, 3) := by decide +kernel
theorem dX7_one_145 : decode cX7_one 145 = .ok (.if_icmp .ge 68, 3) := by decide +kernel
theorem dX7_one_148 : decode cX7_one 148 = .ok (.aload_n 0, 1) := by decide +kernel
theorem dX7_one_149 : decode cX7_one 149 = .ok (.getfield 36, 3) := by decide +kernel
theorem dX7_one_152 : decode cX7_one 152 = .ok (.iload_n 3, 1) := by decide +kernel
theorem dX7_one_153 : decode cX7_one 153 = .ok (.iaload, 1) := by decide +kernel
theorem dX7_one_154 : decode cX7_one 154 = .ok (.ifCond .le 53, 3) := by decide +kernel
theorem dX7_one_157 : decode cX7_one 157 = .ok (.aload_n 0, 1) := by decide +kernel
theorem dX7_one_158 : decode cX7_one 158 = .ok (.getfield 36, 3) := by decide +kernel
theorem dX7_one_161 : decode cX7_one 161 = .ok (.iload 4, 2) := by decide +kernel
theorem dX7_one_163 : decode cX7_one 163 = .ok (.iaload, 1) := by decide +kernel
theorem dX7_one_164 : decode cX7_one 164 = .ok (.ifCond .ge 43, 3) := by decide +kernel
theorem dX7_one_167 : decode cX7_one 167 = .ok (.aload_n 0, 1) := by decide +kernel
theorem dX7_one_168 : decode cX7_one 168 = .ok (.getfield 33, 3) := by decide +kernel
theorem dX7_one_171 : decode cX7_one 171 = .ok (.bipush 12, 2) := by decide +kernel
theorem dX7_one_173 : decode cX7_one 173 = .ok (.iload_n 3, 1) := by decide +kernel
theorem dX7_one_174 : decode cX7_one 174 = .ok (.imul, 1) := by decide +kernel
theorem dX7_one_175 : decode cX7_one 175 = .ok (.iload 4, 2) := by decide +kernel
theorem dX7_one_177 : decode cX7_one 177 = .ok (.iadd, 1) := by decide +kernel
theorem dX7_one_178 : decode cX7_one 178 = .ok (.dup2, 1) := by decide +kernel
theorem dX7_one_179 : decode cX7_one 179 = .ok (.iaload, 1) := by decide +kernel
theorem dX7_one_180 : decode cX7_one 180 = .ok (.iconst 1, 1) := by decide +kernel
theorem dX7_one_181 : decode cX7_one 181 = .ok (.iadd, 1) := by decide +kernel
theorem dX7_one_182 : decode cX7_one 182 = .ok (.iastore, 1) := by decide +kernel
theorem dX7_one_183 : decode cX7_one 183 = .ok (.aload_n 0, 1) := by decide +kernel
theorem dX7_one_184 : decode cX7_one 184 = .ok (.getfield 36, 3) := by decide +kernel
theorem dX7_one_187 : decode cX7_one 187 = .ok (.iload_n 3, 1) := by decide +kernel
theorem dX7_one_188 : decode cX7_one 188 = .ok (.dup2, 1) := by decide +kernel
theorem dX7_one_189 : decode cX7_one 189 = .ok (.iaload, 1) := by decide +kernel
theorem dX7_one_190 : decode cX7_one 190 = .ok (.iconst 1, 1) := by decide +kernel
theorem dX7_one_191 : decode cX7_one 191 = .ok (.isub, 1) := by decide +kernel
theorem dX7_one_192 : decode cX7_one 192 = .ok (.iastore, 1) := by decide +kernel
theorem dX7_one_193 : decode cX7_one 193 = .ok (.aload_n 0, 1) := by decide +kernel
theorem dX7_one_194 : decode cX7_one 194 = .ok (.getfield 36, 3) := by decide +kernel
theorem dX7_one_197 : decode cX7_one 197 = .ok (.iload 4, 2) := by decide +kernel
theorem dX7_one_199 : decode cX7_one 199 = .ok (.dup2, 1) := by decide +kernel
theorem dX7_one_200 : decode cX7_one 200 = .ok (.iaload, 1) := by decide +kernel
theorem dX7_one_201 : decode cX7_one 201 = .ok (.iconst 1, 1) := by decide +kernel
theorem dX7_one_202 : decode cX7_one 202 = .ok (.iadd, 1) := by decide +kernel
theorem dX7_one_203 : decode cX7_one 203 = .ok (.iastore, 1) := by decide +kernel
theorem dX7_one_204 : decode cX7_one 204 = .ok (.goto (-56), 3) := by decide +kernel
theorem dX7_one_207 : decode cX7_one 207 = .ok (.iinc 4 1, 3) := by decide +kernel
theorem dX7_one_210 : decode cX7_one 210 = .ok (.goto (-71), 3) := by decide +kernel
theorem dX7_one_213 : decode cX7_one 213 = .ok (.iinc 3 1, 3) := by decide +kernel
theorem dX7_one_216 : decode cX7_one 216 = .ok (.goto (-88), 3) := by decide +kernel
theorem dX7_one_219 : decode cX7_one 219 = .ok (.iconst 1, 1) := by decide +kernel
theorem dX7_one_220 : decode cX7_one 220 = .ok (.istore_n 3, 1) := by decide +kernel
theorem dX7_one_221 : decode cX7_one 221 = .ok (.iload_n 3, 1) := by decide +kernel
theorem dX7_one_222 : decode cX7_one 222 = .ok (.ifCond .eq 11, 3) := by decide +kernel
theorem dX7_one_225 : decode cX7_one 225 = .ok (.aload_n 0, 1) := by decide +kernel
theorem dX7_one_226 : decode cX7_one 226 = .ok (.invokevirtual 121, 3) := by decide +kernel
theorem dX7_one_229 : decode cX7_one 229 = .ok (.istore_n 3, 1) := by decide +kernel
theorem dX7_one_230 : decode cX7_one 230 = .ok (.goto (-9), 3) := by decide +kernel
theorem dX7_one_233 : decode cX7_one 233 = .ok (.iconst 0, 1) := by decide +kernel
theorem dX7_one_234 : decode cX7_one 234 = .ok (.istore 4, 2) := by decide +kernel
theorem dX7_one_236 : decode cX7_one 236 = .ok (.iload 4, 2) := by decide +kernel
theorem dX7_one_238 : decode cX7_one 238 = .ok (.sipush 144, 3) := by decide +kernel
theorem dX7_one_241 : decode cX7_one 241 = .ok (.if_icmp .ge 42, 3) := by decide +kernel
theorem dX7_one_244 : decode cX7_one 244 = .ok (.aload_n 0, 1) := by decide +kernel
theorem dX7_one_245 : decode cX7_one 245 = .ok (.getfield 33, 3) := by decide +kernel
theorem dX7_one_248 : decode cX7_one 248 = .ok (.iload 4, 2) := by decide +kernel
theorem dX7_one_250 : decode cX7_one 250 = .ok (.iaload, 1) := by decide +kernel
theorem dX7_one_251 : decode cX7_one 251 = .ok (.ifCond .le 24, 3) := by decide +kernel
theorem dX7_one_254 : decode cX7_one 254 = .ok (.lload_n 1, 1) := by decide +kernel
theorem dX7_one_255 : decode cX7_one 255 = .ok (.aload_n 0, 1) := by decide +kernel
theorem dX7_one_256 : decode cX7_one 256 = .ok (.getfield 33, 3) := by decide +kernel
theorem dX7_one_259 : decode cX7_one 259 = .ok (.iload 4, 2) := by decide +kernel
theorem dX7_one_261 : decode cX7_one 261 = .ok (.iaload, 1) := by decide +kernel
theorem dX7_one_262 : decode cX7_one 262 = .ok (.i2l, 1) := by decide +kernel
theorem dX7_one_263 : decode cX7_one 263 = .ok (.aload_n 0, 1) := by decide +kernel
theorem dX7_one_264 : decode cX7_one 264 = .ok (.getfield 30, 3) := by decide +kernel
theorem dX7_one_267 : decode cX7_one 267 = .ok (.iload 4, 2) := by decide +kernel
theorem dX7_one_269 : decode cX7_one 269 = .ok (.laload, 1) := by decide +kernel
theorem dX7_one_270 : decode cX7_one 270 = .ok (.lmul, 1) := by decide +kernel
theorem dX7_one_271 : decode cX7_one 271 = .ok (.ladd, 1) := by decide +kernel
theorem dX7_one_272 : decode cX7_one 272 = .ok (.goto 4, 3) := by decide +kernel
theorem dX7_one_275 : decode cX7_one 275 = .ok (.lload_n 1, 1) := by decide +kernel
theorem dX7_one_276 : decode cX7_one 276 = .ok (.lstore_n 1, 1) := by decide +kernel
theorem dX7_one_277 : decode cX7_one 277 = .ok (.iinc 4 1, 3) := by decide +kernel
theorem dX7_one_280 : decode cX7_one 280 = .ok (.goto (-44), 3) := by decide +kernel
theorem dX7_one_283 : decode cX7_one 283 = .ok (.lload_n 1, 1) := by decide +kernel
theorem dX7_one_284 : decode cX7_one 284 = .ok (.lreturn, 1) := by decide +kernel
theorem dX7_sends_0 : decode cX7_sends 0 = .ok (.iconst 0, 1) := by decide +kernel
theorem dX7_sends_1 : decode cX7_sends 1 = .ok (.istore_n 2, 1) := by decide +kernel
theorem dX7_sends_2 : decode cX7_sends 2 = .ok (.iconst 0, 1) := by decide +kernel
theorem dX7_sends_3 : decode cX7_sends 3 = .ok (.istore_n 3, 1) := by decide +kernel
theorem dX7_sends_4 : decode cX7_sends 4 = .ok (.iload_n 3, 1) := by decide +kernel
theorem dX7_sends_5 : decode cX7_sends 5 = .ok (.aload_n 0, 1) := by decide +kernel
theorem dX7_sends_6 : decode cX7_sends 6 = .ok (.getfield 48, 3) := by decide +kernel
theorem dX7_sends_9 : decode cX7_sends 9 = .ok (.if_icmp .ge 33, 3) := by decide +kernel
theorem dX7_sends_12 : decode cX7_sends 12 = .ok (.iload_n 2, 1) := by decide +kernel
theorem dX7_sends_13 : decode cX7_sends 13 = .ok (.ifCond .ne 17, 3) := by decide +kernel
theorem dX7_sends_16 : decode cX7_sends 16 = .ok (.aload_n 0, 1) := by decide +kernel
theorem dX7_sends_17 : decode cX7_sends 17 = .ok (.getfield 33, 3) := by decide +kernel
theorem dX7_sends_20 : decode cX7_sends 20 = .ok (.bipush 12, 2) := by decide +kernel
theorem dX7_sends_22 : decode cX7_sends 22 = .ok (.iload_n 1, 1) := by decide +kernel
theorem dX7_sends_23 : decode cX7_sends 23 = .ok (.imul, 1) := by decide +kernel
theorem dX7_sends_24 : decode cX7_sends 24 = .ok (.iload_n 3, 1) := by decide +kernel
theorem dX7_sends_25 : decode cX7_sends 25 = .ok (.iadd, 1) := by decide +kernel
theorem dX7_sends_26 : decode cX7_sends 26 = .ok (.iaload, 1) := by decide +kernel
theorem dX7_sends_27 : decode cX7_sends 27 = .ok (.ifCond .le 7, 3) := by decide +kernel
theorem dX7_sends_30 : decode cX7_sends 30 = .ok (.iconst 1, 1) := by decide +kernel
theorem dX7_sends_31 : decode cX7_sends 31 = .ok (.goto 4, 3) := by decide +kernel
theorem dX7_sends_34 : decode cX7_sends 34 = .ok (.iconst 0, 1) := by decide +kernel
theorem dX7_sends_35 : decode cX7_sends 35 = .ok (.istore_n 2, 1) := by decide +kernel
theorem dX7_sends_36 : decode cX7_sends 36 = .ok (.iinc 3 1, 3) := by decide +kernel
theorem dX7_sends_39 : decode cX7_sends 39 = .ok (.goto (-35), 3) := by decide +kernel
theorem dX7_sends_42 : decode cX7_sends 42 = .ok (.iload_n 2, 1) := by decide +kernel
theorem dX7_sends_43 : decode cX7_sends 43 = .ok (.ireturn, 1) := by decide +kernel
theorem dX7_gets_0 : decode cX7_gets 0 = .ok (.iconst 0, 1) := by decide +kernel
theorem dX7_gets_1 : decode cX7_gets 1 = .ok (.istore_n 2, 1) := by decide +kernel
theorem dX7_gets_2 : decode cX7_gets 2 = .ok (.iconst 0, 1) := by decide +kernel
theorem dX7_gets_3 : decode cX7_gets 3 = .ok (.istore_n 3, 1) := by decide +kernel
theorem dX7_gets_4 : decode cX7_gets 4 = .ok (.iload_n 3, 1) := by decide +kernel
theorem dX7_gets_5 : decode cX7_gets 5 = .ok (.aload_n 0, 1) := by decide +kernel
theorem dX7_gets_6 : decode cX7_gets 6 = .ok (.getfield 48, 3) := by decide +kernel
theorem dX7_gets_9 : decode cX7_gets 9 = .ok (.if_icmp .ge 33, 3) := by decide +kernel
theorem dX7_gets_12 : decode cX7_gets 12 = .ok (.iload_n 2, 1) := by decide +kernel
theorem dX7_gets_13 : decode cX7_gets 13 = .ok (.ifCond .ne 17, 3) := by decide +kernel
theorem dX7_gets_16 : decode cX7_gets 16 = .ok (.aload_n 0, 1) := by decide +kernel
theorem dX7_gets_17 : decode cX7_gets 17 = .ok (.getfield 33, 3) := by decide +kernel
theorem dX7_gets_20 : decode cX7_gets 20 = .ok (.bipush 12, 2) := by decide +kernel
theorem dX7_gets_22 : decode cX7_gets 22 = .ok (.iload_n 3, 1) := by decide +kernel
theorem dX7_gets_23 : decode cX7_gets 23 = .ok (.imul, 1) := by decide +kernel
theorem dX7_gets_24 : decode cX7_gets 24 = .ok (.iload_n 1, 1) := by decide +kernel
theorem dX7_gets_25 : decode cX7_gets 25 = .ok (.iadd, 1) := by decide +kernel
theorem dX7_gets_26 : decode cX7_gets 26 = .ok (.iaload, 1) := by decide +kernel
theorem dX7_gets_27 : decode cX7_gets 27 = .ok (.ifCond .le 7, 3) := by decide +kernel
theorem dX7_gets_30 : decode cX7_gets 30 = .ok (.iconst 1, 1) := by decide +kernel
theorem dX7_gets_31 : decode cX7_gets 31 = .ok (.goto 4, 3) := by decide +kernel
theorem dX7_gets_34 : decode cX7_gets 34 = .ok (.iconst 0, 1) := by decide +kernel
theorem dX7_gets_35 : decode cX7_gets 35 = .ok (.istore_n 2, 1) := by decide +kernel
theorem dX7_gets_36 : decode cX7_gets 36 = .ok (.iinc 3 1, 3) := by decide +kernel
theorem dX7_gets_39 : decode cX7_gets 39 = .ok (.goto (-35), 3) := by decide +kernel
theorem dX7_gets_42 : decode cX7_gets 42 = .ok (.iload_n 2, 1) := by decide +kernel
theorem dX7_gets_43 : decode cX7_gets 43 = .ok (.ireturn, 1) := by decide +kernel
set_option maxRecDepth 20000 in
theorem ggX7_step_X7_sends : GoodIn wsX7_step wsX7_sends := goodIn_r _ [8, 9, 2, 14, 15, 16, 17, 18, 19, 20, 21, 22, 23, 24, 25, 26, 27, 28, 29, 30] (by decide +kernel) (by decide +kernel)
set_option maxRecDepth 20000 in
theorem gX7_step_X7_sends : GoodIn wsX7_step (wsV RX7 124 RX7 yX7_sends wsX7_sends) := goodIn_app (goodIn_of _ (by decide +kernel)) ggX7_step_X7_sends
set_option maxRecDepth 20000 in
theorem ggX7_step_X7_gets : GoodIn wsX7_step wsX7_gets := goodIn_r _ [13, 9, 2, 14, 15, 16, 17, 18, 19, 20, 21, 22, 23, 24, 25, 26, 27, 28, 29, 30] (by decide +kernel) (by decide +kernel)
set_option maxRecDepth 20000 in
theorem gX7_step_X7_gets : GoodIn wsX7_step (wsV RX7 127 RX7 yX7_gets wsX7_gets) := goodIn_app (goodIn_of _ (by decide +kernel)) ggX7_step_X7_gets
theorem dX7_step_0 : decode cX7_step 0 = .ok (.iload_n 1, 1) := by decide +kernel
theorem dX7_step_1 : decode cX7_step 1 = .ok (.bipush 12, 2) := by decide +kernel
theorem dX7_step_3 : decode cX7_step 3 = .ok (.if_icmp .ge 43, 3) := by decide +kernel
theorem dX7_step_6 : decode cX7_step 6 = .ok (.iload_n 2, 1) := by decide +kernel
theorem dX7_step_7 : decode cX7_step 7 = .ok (.bipush 11, 2) := by decide +kernel
theorem dX7_step_9 : decode cX7_step 9 = .ok (.if_icmp .le 37, 3) := by decide +kernel
theorem dX7_step_12 : decode cX7_step 12 = .ok (.aload_n 0, 1) := by decide +kernel
theorem dX7_step_13 : decode cX7_step 13 = .ok (.iload_n 1, 1) := by decide +kernel
theorem dX7_step_14 : decode cX7_step 14 = .ok (.invokevirtual 124, 3) := by decide +kernel
theorem dX7_step_17 : decode cX7_step 17 = .ok (.ifCond .eq 29, 3) := by decide +kernel
theorem dX7_step_20 : decode cX7_step 20 = .ok (.aload_n 0, 1) := by decide +kernel
theorem dX7_step_21 : decode cX7_step 21 = .ok (.iload_n 2, 1) := by decide +kernel
theorem dX7_step_22 : decode cX7_step 22 = .ok (.bipush 12, 2) := by decide +kernel
theorem dX7_step_24 : decode cX7_step 24 = .ok (.isub, 1) := by decide +kernel
theorem dX7_step_25 : decode cX7_step 25 = .ok (.invokevirtual 127, 3) := by decide +kernel
theorem dX7_step_28 : decode cX7_step 28 = .ok (.ifCond .eq 18, 3) := by decide +kernel
theorem dX7_step_31 : decode cX7_step 31 = .ok (.aload_n 0, 1) := by decide +kernel
theorem dX7_step_32 : decode cX7_step 32 = .ok (.getfield 30, 3) := by decide +kernel
theorem dX7_step_35 : decode cX7_step 35 = .ok (.bipush 12, 2) := by decide +kernel
theorem dX7_step_37 : decode cX7_step 37 = .ok (.iload_n 1, 1) := by decide +kernel
theorem dX7_step_38 : decode cX7_step 38 = .ok (.imul, 1) := by decide +kernel
theorem dX7_step_39 : decode cX7_step 39 = .ok (.iload_n 2, 1) := by decide +kernel
theorem dX7_step_40 : decode cX7_step 40 = .ok (.iadd, 1) := by decide +kernel
theorem dX7_step_41 : decode cX7_step 41 = .ok (.bipush 12, 2) := by decide +kernel
theorem dX7_step_43 : decode cX7_step 43 = .ok (.isub, 1) := by decide +kernel
theorem dX7_step_44 : decode cX7_step 44 = .ok (.laload, 1) := by decide +kernel
theorem dX7_step_45 : decode cX7_step 45 = .ok (.lreturn, 1) := by decide +kernel
theorem dX7_step_46 : decode cX7_step 46 = .ok (.iload_n 1, 1) := by decide +kernel
theorem dX7_step_47 : decode cX7_step 47 = .ok (.bipush 11, 2) := by decide +kernel
theorem dX7_step_49 : decode cX7_step 49 = .ok (.if_icmp .le 44, 3) := by decide +kernel
theorem dX7_step_52 : decode cX7_step 52 = .ok (.iload_n 2, 1) := by decide +kernel
theorem dX7_step_53 : decode cX7_step 53 = .ok (.bipush 12, 2) := by decide +kernel
theorem dX7_step_55 : decode cX7_step 55 = .ok (.if_icmp .ge 38, 3) := by decide +kernel
theorem dX7_step_58 : decode cX7_step 58 = .ok (.aload_n 0, 1) := by decide +kernel
theorem dX7_step_59 : decode cX7_step 59 = .ok (.getfield 33, 3) := by decide +kernel
theorem dX7_step_62 : decode cX7_step 62 = .ok (.bipush 12, 2) := by decide +kernel
theorem dX7_step_64 : decode cX7_step 64 = .ok (.iload_n 2, 1) := by decide +kernel
theorem dX7_step_65 : decode cX7_step 65 = .ok (.imul, 1) := by decide +kernel
theorem dX7_step_66 : decode cX7_step 66 = .ok (.iload_n 1, 1) := by decide +kernel
theorem dX7_step_67 : decode cX7_step 67 = .ok (.iadd, 1) := by decide +kernel
theorem dX7_step_68 : decode cX7_step 68 = .ok (.bipush 12, 2) := by decide +kernel
theorem dX7_step_70 : decode cX7_step 70 = .ok (.isub, 1) := by decide +kernel
theorem dX7_step_71 : decode cX7_step 71 = .ok (.iaload, 1) := by decide +kernel
theorem dX7_step_72 : decode cX7_step 72 = .ok (.ifCond .le 21, 3) := by decide +kernel
theorem dX7_step_75 : decode cX7_step 75 = .ok (.aload_n 0, 1) := by decide +kernel
theorem dX7_step_76 : decode cX7_step 76 = .ok (.getfield 30, 3) := by decide +kernel
theorem dX7_step_79 : decode cX7_step 79 = .ok (.bipush 12, 2) := by decide +kernel
theorem dX7_step_81 : decode cX7_step 81 = .ok (.iload_n 2, 1) := by decide +kernel
theorem dX7_step_82 : decode cX7_step 82 = .ok (.imul, 1) := by decide +kernel
theorem dX7_step_83 : decode cX7_step 83 = .ok (.iload_n 1, 1) := by decide +kernel
theorem dX7_step_84 : decode cX7_step 84 = .ok (.iadd, 1) := by decide +kernel
theorem dX7_step_85 : decode cX7_step 85 = .ok (.bipush 12, 2) := by decide +kernel
theorem dX7_step_87 : decode cX7_step 87 = .ok (.isub, 1) := by decide +kernel
theorem dX7_step_88 : decode cX7_step 88 = .ok (.laload, 1) := by decide +kernel
theorem dX7_step_89 : decode cX7_step 89 = .ok (.lneg, 1) := by decide +kernel
theorem dX7_step_90 : decode cX7_step 90 = .ok (.goto 6, 3) := by decide +kernel
theorem dX7_step_93 : decode cX7_step 93 = .ok (.ldc2_w 52, 3) := by decide +kernel
theorem dX7_step_96 : decode cX7_step 96 = .ok (.lreturn, 1) := by decide +kernel
set_option maxRecDepth 20000 in
theorem ggX7_cheaper_X7_step : GoodIn wsX7_cheaper wsX7_step := goodIn_r _ [9, 10, 4, 3, 11, 12, 13, 8, 14, 15, 16, 17, 18, 19, 20, 21, 22, 23, 24, 25, 26, 27, 28, 29, 30, 31, 32, 33, 34, 35, 36] (by decide +kernel) (by decide +kernel)
set_option maxRecDepth 20000 in
theorem gX7_cheaper_X7_step : GoodIn wsX7_cheaper (wsV RX7 130 RX7 yX7_step wsX7_step) := goodIn_app (goodIn_of _ (by decide +kernel)) ggX7_cheaper_X7_step
theorem dX7_cheaper_0 : decode cX7_cheaper 0 = .ok (.iconst 0, 1) := by decide +kernel
theorem dX7_cheaper_1 : decode cX7_cheaper 1 = .ok (.istore_n 1, 1) := by decide +kernel
theorem dX7_cheaper_2 : decode cX7_cheaper 2 = .ok (.iload_n 1, 1) := by decide +kernel
theorem dX7_cheaper_3 : decode cX7_cheaper 3 = .ok (.bipush 24, 2) := by decide +kernel
theorem dX7_cheaper_5 : decode cX7_cheaper 5 = .ok (.if_icmp .ge 23, 3) := by decide +kernel
theorem dX7_cheaper_8 : decode cX7_cheaper 8 = .ok (.aload_n 0, 1) := by decide +kernel
theorem dX7_cheaper_9 : decode cX7_cheaper 9 = .ok (.getfield 42, 3) := by decide +kernel
theorem dX7_cheaper_12 : decode cX7_cheaper 12 = .ok (.iload_n 1, 1) := by decide +kernel
theorem dX7_cheaper_13 : decode cX7_cheaper 13 = .ok (.lconst 0, 1) := by decide +kernel
theorem dX7_cheaper_14 : decode cX7_cheaper 14 = .ok (.lastore, 1) := by decide +kernel
theorem dX7_cheaper_15 : decode cX7_cheaper 15 = .ok (.aload_n 0, 1) := by decide +kernel
theorem dX7_cheaper_16 : decode cX7_cheaper 16 = .ok (.getfield 45, 3) := by decide +kernel
theorem dX7_cheaper_19 : decode cX7_cheaper 19 = .ok (.iload_n 1, 1) := by decide +kernel
theorem dX7_cheaper_20 : decode cX7_cheaper 20 = .ok (.iconst (-1), 1) := by decide +kernel
theorem dX7_cheaper_21 : decode cX7_cheaper 21 = .ok (.iastore, 1) := by decide +kernel
theorem dX7_cheaper_22 : decode cX7_cheaper 22 = .ok (.iinc 1 1, 3) := by decide +kernel
theorem dX7_cheaper_25 : decode cX7_cheaper 25 = .ok (.goto (-23), 3) := by decide +kernel
theorem dX7_cheaper_28 : decode cX7_cheaper 28 = .ok (.iconst (-1), 1) := by decide +kernel
theorem dX7_cheaper_29 : decode cX7_cheaper 29 = .ok (.istore_n 1, 1) := by decide +kernel
theorem dX7_cheaper_30 : decode cX7_cheaper 30 = .ok (.iconst 0, 1) := by decide +kernel
theorem dX7_cheaper_31 : decode cX7_cheaper 31 = .ok (.istore_n 2, 1) := by decide +kernel
theorem dX7_cheaper_32 : decode cX7_cheaper 32 = .ok (.iload_n 2, 1) := by decide +kernel
theorem dX7_cheaper_33 : decode cX7_cheaper 33 = .ok (.bipush 25, 2) := by decide +kernel
theorem dX7_cheaper_35 : decode cX7_cheaper 35 = .ok (.if_icmp .ge 113, 3) := by decide +kernel
theorem dX7_cheaper_38 : decode cX7_cheaper 38 = .ok (.iconst (-1), 1) := by decide +kernel
theorem dX7_cheaper_39 : decode cX7_cheaper 39 = .ok (.istore_n 1, 1) := by decide +kernel
theorem dX7_cheaper_40 : decode cX7_cheaper 40 = .ok (.iconst 0, 1) := by decide +kernel
theorem dX7_cheaper_41 : decode cX7_cheaper 41 = .ok (.istore_n 3, 1) := by decide +kernel
theorem dX7_cheaper_42 : decode cX7_cheaper 42 = .ok (.iload_n 3, 1) := by decide +kernel
theorem dX7_cheaper_43 : decode cX7_cheaper 43 = .ok (.sipush 576, 3) := by decide +kernel
theorem dX7_cheaper_46 : decode cX7_cheaper 46 = .ok (.if_icmp .ge 96, 3) := by decide +kernel
theorem dX7_cheaper_49 : decode cX7_cheaper 49 = .ok (.aload_n 0, 1) := by decide +kernel
theorem dX7_cheaper_50 : decode cX7_cheaper 50 = .ok (.iload_n 3, 1) := by decide +kernel
theorem dX7_cheaper_51 : decode cX7_cheaper 51 = .ok (.bipush 24, 2) := by decide +kernel
theorem dX7_cheaper_53 : decode cX7_cheaper 53 = .ok (.idiv, 1) := by decide +kernel
theorem dX7_cheaper_54 : decode cX7_cheaper 54 = .ok (.iload_n 3, 1) := by decide +kernel
theorem dX7_cheaper_55 : decode cX7_cheaper 55 = .ok (.bipush 24, 2) := by decide +kernel
theorem dX7_cheaper_57 : decode cX7_cheaper 57 = .ok (.irem, 1) := by decide +kernel
theorem dX7_cheaper_58 : decode cX7_cheaper 58 = .ok (.invokevirtual 130, 3) := by decide +kernel
theorem dX7_cheaper_61 : decode cX7_cheaper 61 = .ok (.lstore 4, 2) := by decide +kernel
theorem dX7_cheaper_63 : decode cX7_cheaper 63 = .ok (.lload 4, 2) := by decide +kernel
theorem dX7_cheaper_65 : decode cX7_cheaper 65 = .ok (.ldc2_w 52, 3) := by decide +kernel
theorem dX7_cheaper_68 : decode cX7_cheaper 68 = .ok (.lcmp, 1) := by decide +kernel
theorem dX7_cheaper_69 : decode cX7_cheaper 69 = .ok (.ifCond .ge 67, 3) := by decide +kernel
theorem dX7_cheaper_72 : decode cX7_cheaper 72 = .ok (.aload_n 0, 1) := by decide +kernel
theorem dX7_cheaper_73 : decode cX7_cheaper 73 = .ok (.getfield 42, 3) := by decide +kernel
theorem dX7_cheaper_76 : decode cX7_cheaper 76 = .ok (.iload_n 3, 1) := by decide +kernel
theorem dX7_cheaper_77 : decode cX7_cheaper 77 = .ok (.bipush 24, 2) := by decide +kernel
theorem dX7_cheaper_79 : decode cX7_cheaper 79 = .ok (.idiv, 1) := by decide +kernel
theorem dX7_cheaper_80 : decode cX7_cheaper 80 = .ok (.laload, 1) := by decide +kernel
theorem dX7_cheaper_81 : decode cX7_cheaper 81 = .ok (.lload 4, 2) := by decide +kernel
theorem dX7_cheaper_83 : decode cX7_cheaper 83 = .ok (.ladd, 1) := by decide +kernel
theorem dX7_cheaper_84 : decode cX7_cheaper 84 = .ok (.aload_n 0, 1) := by decide +kernel
theorem dX7_cheaper_85 : decode cX7_cheaper 85 = .ok (.getfield 42, 3) := by decide +kernel
theorem dX7_cheaper_88 : decode cX7_cheaper 88 = .ok (.iload_n 3, 1) := by decide +kernel
theorem dX7_cheaper_89 : decode cX7_cheaper 89 = .ok (.bipush 24, 2) := by decide +kernel
theorem dX7_cheaper_91 : decode cX7_cheaper 91 = .ok (.irem, 1) := by decide +kernel
theorem dX7_cheaper_92 : decode cX7_cheaper 92 = .ok (.laload, 1) := by decide +kernel
theorem dX7_cheaper_93 : decode cX7_cheaper 93 = .ok (.lcmp, 1) := by decide +kernel
theorem dX7_cheaper_94 : decode cX7_cheaper 94 = .ok (.ifCond .ge 42, 3) := by decide +kernel
theorem dX7_cheaper_97 : decode cX7_cheaper 97 = .ok (.aload_n 0, 1) := by decide +kernel
theorem dX7_cheaper_98 : decode cX7_cheaper 98 = .ok (.getfield 42, 3) := by decide +kernel
theorem dX7_cheaper_101 : decode cX7_cheaper 101 = .ok (.iload_n 3, 1) := by decide +kernel
theorem dX7_cheaper_102 : decode cX7_cheaper 102 = .ok (.bipush 24, 2) := by decide +kernel
theorem dX7_cheaper_104 : decode cX7_cheaper 104 = .ok (.irem, 1) := by decide +kernel
theorem dX7_cheaper_105 : decode cX7_cheaper 105 = .ok (.aload_n 0, 1) := by decide +kernel
theorem dX7_cheaper_106 : decode cX7_cheaper 106 = .ok (.getfield 42, 3) := by decide +kernel
theorem dX7_cheaper_109 : decode cX7_cheaper 109 = .ok (.iload_n 3, 1) := by decide +kernel
theorem dX7_cheaper_110 : decode cX7_cheaper 110 = .ok (.bipush 24, 2) := by decide +kernel
theorem dX7_cheaper_112 : decode cX7_cheaper 112 = .ok (.idiv, 1) := by decide +kernel
theorem dX7_cheaper_113 : decode cX7_cheaper 113 = .ok (.laload, 1) := by decide +kernel
theorem dX7_cheaper_114 : decode cX7_cheaper 114 = .ok (.lload 4, 2) := by decide +kernel
theorem dX7_cheaper_116 : decode cX7_cheaper 116 = .ok (.ladd, 1) := by decide +kernel
theorem dX7_cheaper_117 : decode cX7_cheaper 117 = .ok (.lastore, 1) := by decide +kernel
theorem dX7_cheaper_118 : decode cX7_cheaper 118 = .ok (.aload_n 0, 1) := by decide +kernel
theorem dX7_cheaper_119 : decode cX7_cheaper 119 = .ok (.getfield 45, 3) := by decide +kernel
theorem dX7_cheaper_122 : decode cX7_cheaper 122 = .ok (.iload_n 3, 1) := by decide +kernel
theorem dX7_cheaper_123 : decode cX7_cheaper 123 = .ok (.bipush 24, 2) := by decide +kernel
theorem dX7_cheaper_125 : decode cX7_cheaper 125 = .ok (.irem, 1) := by decide +kernel
theorem dX7_cheaper_126 : decode cX7_cheaper 126 = .ok (.iload_n 3, 1) := by decide +kernel
theorem dX7_cheaper_127 : decode cX7_cheaper 127 = .ok (.bipush 24, 2) := by decide +kernel
theorem dX7_cheaper_129 : decode cX7_cheaper 129 = .ok (.idiv, 1) := by decide +kernel
theorem dX7_cheaper_130 : decode cX7_cheaper 130 = .ok (.iastore, 1) := by decide +kernel
theorem dX7_cheaper_131 : decode cX7_cheaper 131 = .ok (.iload_n 3, 1) := by decide +kernel
theorem dX7_cheaper_132 : decode cX7_cheaper 132 = .ok (.bipush 24, 2) := by decide +kernel
theorem dX7_cheaper_134 : decode cX7_cheaper 134 = .ok (.irem, 1) := by decide +kernel
theorem dX7_cheaper_135 : decode cX7_cheaper 135 = .ok (.istore_n 1, 1) := by decide +kernel
theorem dX7_cheaper_136 : decode cX7_cheaper 136 = .ok (.iinc 3 1, 3) := by decide +kernel
theorem dX7_cheaper_139 : decode cX7_cheaper 139 = .ok (.goto (-97), 3) := by decide +kernel
theorem dX7_cheaper_142 : decode cX7_cheaper 142 = .ok (.iinc 2 1, 3) := by decide +kernel
theorem dX7_cheaper_145 : decode cX7_cheaper 145 = .ok (.goto (-113), 3) := by decide +kernel
theorem dX7_cheaper_148 : decode cX7_cheaper 148 = .ok (.iload_n 1, 1) := by decide +kernel
theorem dX7_cheaper_149 : decode cX7_cheaper 149 = .ok (.ifCond .ge 5, 3) := by decide +kernel
theorem dX7_cheaper_152 : decode cX7_cheaper 152 = .ok (.iconst 0, 1) := by decide +kernel
theorem dX7_cheaper_153 : decode cX7_cheaper 153 = .ok (.ireturn, 1) := by decide +kernel
theorem dX7_cheaper_154 : decode cX7_cheaper 154 = .ok (.iload_n 1, 1) := by decide +kernel
theorem dX7_cheaper_155 : decode cX7_cheaper 155 = .ok (.istore_n 2, 1) := by decide +kernel
theorem dX7_cheaper_156 : decode cX7_cheaper 156 = .ok (.iconst 0, 1) := by decide +kernel
theorem dX7_cheaper_157 : decode cX7_cheaper 157 = .ok (.istore_n 3, 1) := by decide +kernel
theorem dX7_cheaper_158 : decode cX7_cheaper 158 = .ok (.iload_n 3, 1) := by decide +kernel
theorem dX7_cheaper_159 : decode cX7_cheaper 159 = .ok (.bipush 24, 2) := by decide +kernel
theorem dX7_cheaper_161 : decode cX7_cheaper 161 = .ok (.if_icmp .ge 16, 3) := by decide +kernel
theorem dX7_cheaper_164 : decode cX7_cheaper 164 = .ok (.aload_n 0, 1) := by decide +kernel
theorem dX7_cheaper_165 : decode cX7_cheaper 165 = .ok (.getfield 45, 3) := by decide +kernel
theorem dX7_cheaper_168 : decode cX7_cheaper 168 = .ok (.iload_n 2, 1) := by decide +kernel
theorem dX7_cheaper_169 : decode cX7_cheaper 169 = .ok (.iaload, 1) := by decide +kernel
theorem dX7_cheaper_170 : decode cX7_cheaper 170 = .ok (.istore_n 2, 1) := by decide +kernel
theorem dX7_cheaper_171 : decode cX7_cheaper 171 = .ok (.iinc 3 1, 3) := by decide +kernel
theorem dX7_cheaper_174 : decode cX7_cheaper 174 = .ok (.goto (-16), 3) := by decide +kernel
theorem dX7_cheaper_177 : decode cX7_cheaper 177 = .ok (.iload_n 2, 1) := by decide +kernel
theorem dX7_cheaper_178 : decode cX7_cheaper 178 = .ok (.istore_n 3, 1) := by decide +kernel
theorem dX7_cheaper_179 : decode cX7_cheaper 179 = .ok (.iconst 1, 1) := by decide +kernel
theorem dX7_cheaper_180 : decode cX7_cheaper 180 = .ok (.istore 4, 2) := by decide +kernel
theorem dX7_cheaper_182 : decode cX7_cheaper 182 = .ok (.iload 4, 2) := by decide +kernel
theorem dX7_cheaper_184 : decode cX7_cheaper 184 = .ok (.ifCond .eq 77, 3) := by decide +kernel
theorem dX7_cheaper_187 : decode cX7_cheaper 187 = .ok (.aload_n 0, 1) := by decide +kernel
theorem dX7_cheaper_188 : decode cX7_cheaper 188 = .ok (.getfield 45, 3) := by decide +kernel
theorem dX7_cheaper_191 : decode cX7_cheaper 191 = .ok (.iload_n 2, 1) := by decide +kernel
theorem dX7_cheaper_192 : decode cX7_cheaper 192 = .ok (.iaload, 1) := by decide +kernel
theorem dX7_cheaper_193 : decode cX7_cheaper 193 = .ok (.istore 5, 2) := by decide +kernel
theorem dX7_cheaper_195 : decode cX7_cheaper 195 = .ok (.iload 5, 2) := by decide +kernel
theorem dX7_cheaper_197 : decode cX7_cheaper 197 = .ok (.bipush 12, 2) := by decide +kernel
theorem dX7_cheaper_199 : decode cX7_cheaper 199 = .ok (.if_icmp .ge 25, 3) := by decide +kernel
theorem dX7_cheaper_202 : decode cX7_cheaper 202 = .ok (.aload_n 0, 1) := by decide +kernel
theorem dX7_cheaper_203 : decode cX7_cheaper 203 = .ok (.getfield 33, 3) := by decide +kernel
theorem dX7_cheaper_206 : decode cX7_cheaper 206 = .ok (.bipush 12, 2) := by decide +kernel
theorem dX7_cheaper_208 : decode cX7_cheaper 208 = .ok (.iload 5, 2) := by decide +kernel
theorem dX7_cheaper_210 : decode cX7_cheaper 210 = .ok (.imul, 1) := by decide +kernel
theorem dX7_cheaper_211 : decode cX7_cheaper 211 = .ok (.iload_n 2, 1) := by decide +kernel
theorem dX7_cheaper_212 : decode cX7_cheaper 212 = .ok (.iadd, 1) := by decide +kernel
theorem dX7_cheaper_213 : decode cX7_cheaper 213 = .ok (.bipush 12, 2) := by decide +kernel
theorem dX7_cheaper_215 : decode cX7_cheaper 215 = .ok (.isub, 1) := by decide +kernel
theorem dX7_cheaper_216 : decode cX7_cheaper 216 = .ok (.dup2, 1) := by decide +kernel
theorem dX7_cheaper_217 : decode cX7_cheaper 217 = .ok (.iaload, 1) := by decide +kernel
theorem dX7_cheaper_218 : decode cX7_cheaper 218 = .ok (.iconst 1, 1) := by decide +kernel
theorem dX7_cheaper_219 : decode cX7_cheaper 219 = .ok (.iadd, 1) := by decide +kernel
theorem dX7_cheaper_220 : decode cX7_cheaper 220 = .ok (.iastore, 1) := by decide +kernel
theorem dX7_cheaper_221 : decode cX7_cheaper 221 = .ok (.goto 22, 3) := by decide +kernel
theorem dX7_cheaper_224 : decode cX7_cheaper 224 = .ok (.aload_n 0, 1) := by decide +kernel
theorem dX7_cheaper_225 : decode cX7_cheaper 225 = .ok (.getfield 33, 3) := by decide +kernel
theorem dX7_cheaper_228 : decode cX7_cheaper 228 = .ok (.bipush 12, 2) := by decide +kernel
theorem dX7_cheaper_230 : decode cX7_cheaper 230 = .ok (.iload_n 2, 1) := by decide +kernel
theorem dX7_cheaper_231 : decode cX7_cheaper 231 = .ok (.imul, 1) := by decide +kernel
theorem dX7_cheaper_232 : decode cX7_cheaper 232 = .ok (.iload 5, 2) := by decide +kernel
theorem dX7_cheaper_234 : decode cX7_cheaper 234 = .ok (.iadd, 1) := by decide +kernel
theorem dX7_cheaper_235 : decode cX7_cheaper 235 = .ok (.bipush 12, 2) := by decide +kernel
theorem dX7_cheaper_237 : decode cX7_cheaper 237 = .ok (.isub, 1) := by decide +kernel
theorem dX7_cheaper_238 : decode cX7_cheaper 238 = .ok (.dup2, 1) := by decide +kernel
theorem dX7_cheaper_239 : decode cX7_cheaper 239 = .ok (.iaload, 1) := by decide +kernel
theorem dX7_cheaper_240 : decode cX7_cheaper 240 = .ok (.iconst 1, 1) := by decide +kernel
theorem dX7_cheaper_241 : decode cX7_cheaper 241 = .ok (.isub, 1) := by decide +kernel
theorem dX7_cheaper_242 : decode cX7_cheaper 242 = .ok (.iastore, 1) := by decide +kernel
theorem dX7_cheaper_243 : decode cX7_cheaper 243 = .ok (.iload 5, 2) := by decide +kernel
theorem dX7_cheaper_245 : decode cX7_cheaper 245 = .ok (.istore_n 2, 1) := by decide +kernel
theorem dX7_cheaper_246 : decode cX7_cheaper 246 = .ok (.iload_n 2, 1) := by decide +kernel
theorem dX7_cheaper_247 : decode cX7_cheaper 247 = .ok (.iload_n 3, 1) := by decide +kernel
theorem dX7_cheaper_248 : decode cX7_cheaper 248 = .ok (.if_icmp .eq 7, 3) := by decide +kernel
theorem dX7_cheaper_251 : decode cX7_cheaper 251 = .ok (.iconst 1, 1) := by decide +kernel
theorem dX7_cheaper_252 : decode cX7_cheaper 252 = .ok (.goto 4, 3) := by decide +kernel
theorem dX7_cheaper_255 : decode cX7_cheaper 255 = .ok (.iconst 0, 1) := by decide +kernel
theorem dX7_cheaper_256 : decode cX7_cheaper 256 = .ok (.istore 4, 2) := by decide +kernel
theorem dX7_cheaper_258 : decode cX7_cheaper 258 = .ok (.goto (-76), 3) := by decide +kernel
theorem dX7_cheaper_261 : decode cX7_cheaper 261 = .ok (.iconst 1, 1) := by decide +kernel
theorem dX7_cheaper_262 : decode cX7_cheaper 262 = .ok (.ireturn, 1) := by decide +kernel
set_option maxRecDepth 20000 in
theorem ggX7_postman_X7_shorten : GoodIn wsX7_postman wsX7_shorten := goodIn_r _ [7, 8, 9, 10, 11, 12, 13, 6, 14, 15, 16, 17, 18, 19, 20, 21, 22, 23, 59, 60, 61, 62, 63, 64, 65, 66, 67, 68, 69, 70, 71, 72, 73, 74, 75] (by decide +kernel) (by decide +kernel)
set_option maxRecDepth 20000 in
theorem gX7_postman_X7_shorten : GoodIn wsX7_postman (wsV RX7 133 RX7 yX7_shorten wsX7_shorten) := goodIn_app (goodIn_of _ (by decide +kernel)) ggX7_postman_X7_shorten
set_option maxRecDepth 20000 in
theorem ggX7_postman_X7_one : GoodIn wsX7_postman wsX7_one := goodIn_r _ [27, 9, 28, 29, 10, 8, 11, 12, 13, 6, 14, 15, 30, 31, 32, 33, 34, 35, 36, 37, 38, 39, 40, 41, 42, 43, 44, 45, 46, 47, 59, 60, 61, 62, 63, 64, 65, 66, 67, 68, 69, 70, 71, 72, 73, 74, 75] (by decide +kernel) (by decide +kernel)
set_option maxRecDepth 20000 in
theorem gX7_postman_X7_one : GoodIn wsX7_postman (wsV RX7 137 RX7 yX7_one wsX7_one) := goodIn_app (goodIn_of _ (by decide +kernel)) ggX7_postman_X7_one
set_option maxRecDepth 20000 in
theorem ggX7_postman_X7_both : GoodIn wsX7_postman wsX7_both := goodIn_r _ [51, 9, 10, 52, 8, 53, 54, 16, 17, 18, 6, 19, 11, 12, 13, 14, 15, 55, 56, 57, 58, 59, 60, 61, 62, 63, 64, 65, 66, 67, 68, 69, 70, 71, 72, 73, 74, 75] (by decide +kernel) (by decide +kernel)
set_option maxRecDepth 20000 in
theorem gX7_postman_X7_both : GoodIn wsX7_postman (wsV RX7 140 RX7 yX7_both wsX7_both) := goodIn_app (goodIn_of _ (by decide +kernel)) ggX7_postman_X7_both
theorem dX7_postman_0 : decode cX7_postman 0 = .ok (.aload_n 0, 1) := by decide +kernel
theorem dX7_postman_1 : decode cX7_postman 1 = .ok (.iconst 0, 1) := by decide +kernel
theorem dX7_postman_2 : decode cX7_postman 2 = .ok (.putfield 54, 3) := by decide +kernel
theorem dX7_postman_5 : decode cX7_postman 5 = .ok (.aload_n 0, 1) := by decide +kernel
theorem dX7_postman_6 : decode cX7_postman 6 = .ok (.iload_n 1, 1) := by decide +kernel
theorem dX7_postman_7 : decode cX7_postman 7 = .ok (.invokevirtual 133, 3) := by decide +kernel
theorem dX7_postman_10 : decode cX7_postman 10 = .ok (.ifCond .ne 7, 3) := by decide +kernel
theorem dX7_postman_13 : decode cX7_postman 13 = .ok (.ldc2_w 96, 3) := by decide +kernel
theorem dX7_postman_16 : decode cX7_postman 16 = .ok (.lreturn, 1) := by decide +kernel
theorem dX7_postman_17 : decode cX7_postman 17 = .ok (.iload_n 1, 1) := by decide +kernel
theorem dX7_postman_18 : decode cX7_postman 18 = .ok (.ifCond .eq 10, 3) := by decide +kernel
theorem dX7_postman_21 : decode cX7_postman 21 = .ok (.aload_n 0, 1) := by decide +kernel
theorem dX7_postman_22 : decode cX7_postman 22 = .ok (.invokevirtual 137, 3) := by decide +kernel
theorem dX7_postman_25 : decode cX7_postman 25 = .ok (.goto 7, 3) := by decide +kernel
theorem dX7_postman_28 : decode cX7_postman 28 = .ok (.aload_n 0, 1) := by decide +kernel
theorem dX7_postman_29 : decode cX7_postman 29 = .ok (.invokevirtual 140, 3) := by decide +kernel
theorem dX7_postman_32 : decode cX7_postman 32 = .ok (.lreturn, 1) := by decide +kernel
theorem dX7_pair_0 : decode cX7_pair 0 = .ok (.aload_n 0, 1) := by decide +kernel
theorem dX7_pair_1 : decode cX7_pair 1 = .ok (.iconst 0, 1) := by decide +kernel
theorem dX7_pair_2 : decode cX7_pair 2 = .ok (.putfield 54, 3) := by decide +kernel
theorem dX7_pair_5 : decode cX7_pair 5 = .ok (.iload_n 1, 1) := by decide +kernel
theorem dX7_pair_6 : decode cX7_pair 6 = .ok (.ifCond .lt 20, 3) := by decide +kernel
theorem dX7_pair_9 : decode cX7_pair 9 = .ok (.iload_n 1, 1) := by decide +kernel
theorem dX7_pair_10 : decode cX7_pair 10 = .ok (.aload_n 0, 1) := by decide +kernel
theorem dX7_pair_11 : decode cX7_pair 11 = .ok (.getfield 118, 3) := by decide +kernel
theorem dX7_pair_14 : decode cX7_pair 14 = .ok (.if_icmp .ge 12, 3) := by decide +kernel
theorem dX7_pair_17 : decode cX7_pair 17 = .ok (.iload_n 2, 1) := by decide +kernel
theorem dX7_pair_18 : decode cX7_pair 18 = .ok (.ifCond .lt 8, 3) := by decide +kernel
theorem dX7_pair_21 : decode cX7_pair 21 = .ok (.iload_n 2, 1) := by decide +kernel
theorem dX7_pair_22 : decode cX7_pair 22 = .ok (.iconst 1, 1) := by decide +kernel
theorem dX7_pair_23 : decode cX7_pair 23 = .ok (.if_icmp .le 7, 3) := by decide +kernel
theorem dX7_pair_26 : decode cX7_pair 26 = .ok (.iconst (-1), 1) := by decide +kernel
theorem dX7_pair_27 : decode cX7_pair 27 = .ok (.goto 13, 3) := by decide +kernel
theorem dX7_pair_30 : decode cX7_pair 30 = .ok (.aload_n 0, 1) := by decide +kernel
theorem dX7_pair_31 : decode cX7_pair 31 = .ok (.getfield 13, 3) := by decide +kernel
theorem dX7_pair_34 : decode cX7_pair 34 = .ok (.iconst 2, 1) := by decide +kernel
theorem dX7_pair_35 : decode cX7_pair 35 = .ok (.iload_n 1, 1) := by decide +kernel
theorem dX7_pair_36 : decode cX7_pair 36 = .ok (.imul, 1) := by decide +kernel
theorem dX7_pair_37 : decode cX7_pair 37 = .ok (.iload_n 2, 1) := by decide +kernel
theorem dX7_pair_38 : decode cX7_pair 38 = .ok (.iadd, 1) := by decide +kernel
theorem dX7_pair_39 : decode cX7_pair 39 = .ok (.iaload, 1) := by decide +kernel
theorem dX7_pair_40 : decode cX7_pair 40 = .ok (.ireturn, 1) := by decide +kernel
set_option maxRecDepth 20000 in
theorem ggX7_greatestNow_X7_grow : GoodIn wsX7_greatestNow wsX7_grow := goodIn_r _ [7, 8, 9, 10, 1, 11, 12, 13, 14, 15, 16, 6, 17, 18, 19, 20, 21, 22, 23, 24, 25, 26, 27, 28, 29, 30, 31, 32, 33, 34, 35, 36, 37, 38, 39, 40, 49, 50, 51, 52, 53, 54, 55, 56, 57, 58, 59, 60, 61, 62, 63, 64, 65] (by decide +kernel) (by decide +kernel)
set_option maxRecDepth 20000 in
theorem gX7_greatestNow_X7_grow : GoodIn wsX7_greatestNow (wsV RX7 98 RX7 yX7_grow wsX7_grow) := goodIn_app (goodIn_of _ (by decide +kernel)) ggX7_greatestNow_X7_grow
set_option maxRecDepth 20000 in
theorem ggX7_greatestNow_X7_half : GoodIn wsX7_greatestNow wsX7_half := goodIn_r _ [43, 11, 2, 19] (by decide +kernel) (by decide +kernel)
set_option maxRecDepth 20000 in
theorem gX7_greatestNow_X7_half : GoodIn wsX7_greatestNow (va_wsS RX7 102 yX7_half wsX7_half) := goodIn_app (goodIn_of _ (by decide +kernel)) ggX7_greatestNow_X7_half
set_option maxRecDepth 20000 in
theorem ggX7_greatestNow_X7_assignNow : GoodIn wsX7_greatestNow wsX7_assignNow := goodIn_r _ [47, 8, 48, 11, 2, 24, 25, 26, 6, 27, 28, 49, 50, 51, 52, 53, 54, 55, 56, 57, 58, 59, 60, 61, 62, 63, 64, 65] (by decide +kernel) (by decide +kernel)
set_option maxRecDepth 20000 in
theorem gX7_greatestNow_X7_assignNow : GoodIn wsX7_greatestNow (wsV RX7 106 RX7 yX7_assignNow wsX7_assignNow) := goodIn_app (goodIn_of _ (by decide +kernel)) ggX7_greatestNow_X7_assignNow
theorem dX7_greatestNow_0 : decode cX7_greatestNow 0 = .ok (.aload_n 0, 1) := by decide +kernel
theorem dX7_greatestNow_1 : decode cX7_greatestNow 1 = .ok (.getfield 89, 3) := by decide +kernel
theorem dX7_greatestNow_4 : decode cX7_greatestNow 4 = .ok (.istore_n 1, 1) := by decide +kernel
theorem dX7_greatestNow_5 : decode cX7_greatestNow 5 = .ok (.aload_n 0, 1) := by decide +kernel
theorem dX7_greatestNow_6 : decode cX7_greatestNow 6 = .ok (.bipush 50, 2) := by decide +kernel
theorem dX7_greatestNow_8 : decode cX7_greatestNow 8 = .ok (.invokevirtual 98, 3) := by decide +kernel
theorem dX7_greatestNow_11 : decode cX7_greatestNow 11 = .ok (.invokestatic 102, 3) := by decide +kernel
theorem dX7_greatestNow_14 : decode cX7_greatestNow 14 = .ok (.lstore_n 2, 1) := by decide +kernel
theorem dX7_greatestNow_15 : decode cX7_greatestNow 15 = .ok (.aload_n 0, 1) := by decide +kernel
theorem dX7_greatestNow_16 : decode cX7_greatestNow 16 = .ok (.iload_n 1, 1) := by decide +kernel
theorem dX7_greatestNow_17 : decode cX7_greatestNow 17 = .ok (.putfield 89, 3) := by decide +kernel
theorem dX7_greatestNow_20 : decode cX7_greatestNow 20 = .ok (.aload_n 0, 1) := by decide +kernel
theorem dX7_greatestNow_21 : decode cX7_greatestNow 21 = .ok (.invokevirtual 106, 3) := by decide +kernel
theorem dX7_greatestNow_24 : decode cX7_greatestNow 24 = .ok (.lstore 4, 2) := by decide +kernel
theorem dX7_greatestNow_26 : decode cX7_greatestNow 26 = .ok (.lload_n 2, 1) := by decide +kernel
theorem dX7_greatestNow_27 : decode cX7_greatestNow 27 = .ok (.ldc2_w 96, 3) := by decide +kernel
theorem dX7_greatestNow_30 : decode cX7_greatestNow 30 = .ok (.lcmp, 1) := by decide +kernel
theorem dX7_greatestNow_31 : decode cX7_greatestNow 31 = .ok (.ifCond .eq 12, 3) := by decide +kernel
theorem dX7_greatestNow_34 : decode cX7_greatestNow 34 = .ok (.lload 4, 2) := by decide +kernel
theorem dX7_greatestNow_36 : decode cX7_greatestNow 36 = .ok (.ldc2_w 96, 3) := by decide +kernel
theorem dX7_greatestNow_39 : decode cX7_greatestNow 39 = .ok (.lcmp, 1) := by decide +kernel
theorem dX7_greatestNow_40 : decode cX7_greatestNow 40 = .ok (.ifCond .ne 9, 3) := by decide +kernel
theorem dX7_greatestNow_43 : decode cX7_greatestNow 43 = .ok (.ldc2_w 96, 3) := by decide +kernel
theorem dX7_greatestNow_46 : decode cX7_greatestNow 46 = .ok (.goto 16, 3) := by decide +kernel
theorem dX7_greatestNow_49 : decode cX7_greatestNow 49 = .ok (.lload_n 2, 1) := by decide +kernel
theorem dX7_greatestNow_50 : decode cX7_greatestNow 50 = .ok (.lload 4, 2) := by decide +kernel
theorem dX7_greatestNow_52 : decode cX7_greatestNow 52 = .ok (.lcmp, 1) := by decide +kernel
theorem dX7_greatestNow_53 : decode cX7_greatestNow 53 = .ok (.ifCond .le 7, 3) := by decide +kernel
theorem dX7_greatestNow_56 : decode cX7_greatestNow 56 = .ok (.lload_n 2, 1) := by decide +kernel
theorem dX7_greatestNow_57 : decode cX7_greatestNow 57 = .ok (.goto 5, 3) := by decide +kernel
theorem dX7_greatestNow_60 : decode cX7_greatestNow 60 = .ok (.lload 4, 2) := by decide +kernel
theorem dX7_greatestNow_62 : decode cX7_greatestNow 62 = .ok (.lreturn, 1) := by decide +kernel
set_option maxRecDepth 20000 in
theorem ggX7_greatest_X7_greatestNow : GoodIn wsX7_greatest wsX7_greatestNow := goodIn_r _ [6, 7, 8, 9, 10, 11, 5, 12, 13, 14, 15, 16, 17, 18, 19, 20, 21, 22, 23, 24, 25, 26, 27, 28, 29, 30, 31, 32, 33, 34, 35, 36, 37, 38, 39, 40, 41, 42, 43, 44, 45, 46, 47, 48, 49, 50, 51, 52, 53, 54, 55, 56, 57, 58, 59, 60, 61, 62, 63, 64, 65, 66, 67, 68, 69, 70] (by decide +kernel) (by decide +kernel)
set_option maxRecDepth 20000 in
theorem gX7_greatest_X7_greatestNow : GoodIn wsX7_greatest (wsV RX7 143 RX7 yX7_greatestNow wsX7_greatestNow) := goodIn_app (goodIn_of _ (by decide +kernel)) ggX7_greatest_X7_greatestNow
theorem dX7_greatest_0 : decode cX7_greatest 0 = .ok (.aload_n 0, 1) := by decide +kernel
theorem dX7_greatest_1 : decode cX7_greatest 1 = .ok (.iconst 0, 1) := by decide +kernel
theorem dX7_greatest_2 : decode cX7_greatest 2 = .ok (.putfield 54, 3) := by decide +kernel
theorem dX7_greatest_5 : decode cX7_greatest 5 = .ok (.aload_n 0, 1) := by decide +kernel
theorem dX7_greatest_6 : decode cX7_greatest 6 = .ok (.invokevirtual 143, 3) := by decide +kernel
theorem dX7_greatest_9 : decode cX7_greatest 9 = .ok (.lreturn, 1) := by decide +kernel
set_option maxRecDepth 20000 in
theorem ggX7_linear_X7_greatestNow : GoodIn wsX7_linear wsX7_greatestNow := goodIn_r _ [8, 9, 1, 10, 11, 12, 7, 13, 14, 15, 16, 17, 18, 19, 20, 21, 22, 23, 24, 25, 26, 27, 28, 29, 30, 31, 32, 33, 34, 35, 36, 37, 38, 39, 40, 41, 42, 43, 44, 45, 46, 47, 48, 49, 50, 51, 52, 53, 54, 55, 56, 57, 58, 59, 60, 61, 62, 63, 64, 65, 66, 67, 68, 69, 70, 71] (by decide +kernel) (by decide +kernel)
set_option maxRecDepth 20000 in
theorem gX7_linear_X7_greatestNow : GoodIn wsX7_linear (wsV RX7 143 RX7 yX7_greatestNow wsX7_greatestNow) := goodIn_app (goodIn_of _ (by decide +kernel)) ggX7_linear_X7_greatestNow
theorem dX7_linear_0 : decode cX7_linear 0 = .ok (.aload_n 0, 1) := by decide +kernel
theorem dX7_linear_1 : decode cX7_linear 1 = .ok (.invokevirtual 143, 3) := by decide +kernel
theorem dX7_linear_4 : decode cX7_linear 4 = .ok (.lstore_n 2, 1) := by decide +kernel
theorem dX7_linear_5 : decode cX7_linear 5 = .ok (.aload_n 0, 1) := by decide +kernel
theorem dX7_linear_6 : decode cX7_linear 6 = .ok (.lload_n 2, 1) := by decide +kernel
theorem dX7_linear_7 : decode cX7_linear 7 = .ok (.ldc2_w 96, 3) := by decide +kernel
theorem dX7_linear_10 : decode cX7_linear 10 = .ok (.lcmp, 1) := by decide +kernel
theorem dX7_linear_11 : decode cX7_linear 11 = .ok (.ifCond .eq 11, 3) := by decide +kernel
theorem dX7_linear_14 : decode cX7_linear 14 = .ok (.iload_n 1, 1) := by decide +kernel
theorem dX7_linear_15 : decode cX7_linear 15 = .ok (.ifCond .ne 7, 3) := by decide +kernel
theorem dX7_linear_18 : decode cX7_linear 18 = .ok (.iconst 1, 1) := by decide +kernel
theorem dX7_linear_19 : decode cX7_linear 19 = .ok (.goto 4, 3) := by decide +kernel
theorem dX7_linear_22 : decode cX7_linear 22 = .ok (.iconst 0, 1) := by decide +kernel
theorem dX7_linear_23 : decode cX7_linear 23 = .ok (.putfield 54, 3) := by decide +kernel
theorem dX7_linear_26 : decode cX7_linear 26 = .ok (.aload_n 0, 1) := by decide +kernel
theorem dX7_linear_27 : decode cX7_linear 27 = .ok (.getfield 54, 3) := by decide +kernel
theorem dX7_linear_30 : decode cX7_linear 30 = .ok (.ifCond .le 7, 3) := by decide +kernel
theorem dX7_linear_33 : decode cX7_linear 33 = .ok (.lconst 0, 1) := by decide +kernel
theorem dX7_linear_34 : decode cX7_linear 34 = .ok (.goto 25, 3) := by decide +kernel
theorem dX7_linear_37 : decode cX7_linear 37 = .ok (.lload_n 2, 1) := by decide +kernel
theorem dX7_linear_38 : decode cX7_linear 38 = .ok (.ldc2_w 96, 3) := by decide +kernel
theorem dX7_linear_41 : decode cX7_linear 41 = .ok (.lcmp, 1) := by decide +kernel
theorem dX7_linear_42 : decode cX7_linear 42 = .ok (.ifCond .ne 9, 3) := by decide +kernel
theorem dX7_linear_45 : decode cX7_linear 45 = .ok (.ldc2_w 96, 3) := by decide +kernel
theorem dX7_linear_48 : decode cX7_linear 48 = .ok (.goto 11, 3) := by decide +kernel
theorem dX7_linear_51 : decode cX7_linear 51 = .ok (.ldc2_w 146, 3) := by decide +kernel
theorem dX7_linear_54 : decode cX7_linear 54 = .ok (.lload_n 2, 1) := by decide +kernel
theorem dX7_linear_55 : decode cX7_linear 55 = .ok (.lmul, 1) := by decide +kernel
theorem dX7_linear_56 : decode cX7_linear 56 = .ok (.iload_n 1, 1) := by decide +kernel
theorem dX7_linear_57 : decode cX7_linear 57 = .ok (.i2l, 1) := by decide +kernel
theorem dX7_linear_58 : decode cX7_linear 58 = .ok (.ldiv, 1) := by decide +kernel
theorem dX7_linear_59 : decode cX7_linear 59 = .ok (.lreturn, 1) := by decide +kernel
set_option maxRecDepth 20000 in
theorem ggX7_certificate_X7_way_ : GoodIn wsX7_certificate wsX7_way_ := goodIn_r _ [10, 11, 56, 57, 58, 59, 60, 61, 62, 63, 64, 65, 66, 67, 68, 69, 70, 71, 72] (by decide +kernel) (by decide +kernel)
set_option maxRecDepth 20000 in
theorem gX7_certificate_X7_way_ : GoodIn wsX7_certificate (wsV RX7 63 RX7 yX7_way_ wsX7_way_) := goodIn_app (goodIn_of _ (by decide +kernel)) ggX7_certificate_X7_way_
set_option maxRecDepth 20000 in
theorem ggX7_certificate_X7_greatestNow : GoodIn wsX7_certificate wsX7_greatestNow := goodIn_r _ [15, 16, 17, 18, 19, 20, 9, 21, 2, 22, 23, 5, 24, 25, 26, 27, 28, 29, 30, 31, 32, 33, 34, 35, 6, 7, 8, 10, 11, 36, 37, 38, 39, 40, 41, 42, 43, 44, 45, 46, 47, 48, 49, 50, 51, 52, 53, 54, 55, 56, 57, 58, 59, 60, 61, 62, 63, 64, 65, 66, 67, 68, 69, 70, 71, 72] (by decide +kernel) (by decide +kernel)
set_option maxRecDepth 20000 in
theorem gX7_certificate_X7_greatestNow : GoodIn wsX7_certificate (wsV RX7 143 RX7 yX7_greatestNow wsX7_greatestNow) := goodIn_app (goodIn_of _ (by decide +kernel)) ggX7_certificate_X7_greatestNow
theorem dX7_certificate_0 : decode cX7_certificate 0 = .ok (.aload_n 0, 1) := by decide +kernel
theorem dX7_certificate_1 : decode cX7_certificate 1 = .ok (.iconst 0, 1) := by decide +kernel
theorem dX7_certificate_2 : decode cX7_certificate 2 = .ok (.putfield 54, 3) := by decide +kernel
theorem dX7_certificate_5 : decode cX7_certificate 5 = .ok (.iconst 1, 1) := by decide +kernel
theorem dX7_certificate_6 : decode cX7_certificate 6 = .ok (.istore_n 2, 1) := by decide +kernel
theorem dX7_certificate_7 : decode cX7_certificate 7 = .ok (.iconst 2, 1) := by decide +kernel
theorem dX7_certificate_8 : decode cX7_certificate 8 = .ok (.istore_n 3, 1) := by decide +kernel
theorem dX7_certificate_9 : decode cX7_certificate 9 = .ok (.iload_n 3, 1) := by decide +kernel
theorem dX7_certificate_10 : decode cX7_certificate 10 = .ok (.aload_n 0, 1) := by decide +kernel
theorem dX7_certificate_11 : decode cX7_certificate 11 = .ok (.getfield 48, 3) := by decide +kernel
theorem dX7_certificate_14 : decode cX7_certificate 14 = .ok (.if_icmp .ge 13, 3) := by decide +kernel
theorem dX7_certificate_17 : decode cX7_certificate 17 = .ok (.iload_n 2, 1) := by decide +kernel
theorem dX7_certificate_18 : decode cX7_certificate 18 = .ok (.iload_n 3, 1) := by decide +kernel
theorem dX7_certificate_19 : decode cX7_certificate 19 = .ok (.imul, 1) := by decide +kernel
theorem dX7_certificate_20 : decode cX7_certificate 20 = .ok (.istore_n 2, 1) := by decide +kernel
theorem dX7_certificate_21 : decode cX7_certificate 21 = .ok (.iinc 3 1, 3) := by decide +kernel
theorem dX7_certificate_24 : decode cX7_certificate 24 = .ok (.goto (-15), 3) := by decide +kernel
theorem dX7_certificate_27 : decode cX7_certificate 27 = .ok (.iload_n 1, 1) := by decide +kernel
theorem dX7_certificate_28 : decode cX7_certificate 28 = .ok (.ldc 148, 2) := by decide +kernel
theorem dX7_certificate_30 : decode cX7_certificate 30 = .ok (.iand, 1) := by decide +kernel
theorem dX7_certificate_31 : decode cX7_certificate 31 = .ok (.iload_n 2, 1) := by decide +kernel
theorem dX7_certificate_32 : decode cX7_certificate 32 = .ok (.irem, 1) := by decide +kernel
theorem dX7_certificate_33 : decode cX7_certificate 33 = .ok (.istore_n 3, 1) := by decide +kernel
theorem dX7_certificate_34 : decode cX7_certificate 34 = .ok (.iconst 1, 1) := by decide +kernel
theorem dX7_certificate_35 : decode cX7_certificate 35 = .ok (.aload_n 0, 1) := by decide +kernel
theorem dX7_certificate_36 : decode cX7_certificate 36 = .ok (.getfield 48, 3) := by decide +kernel
theorem dX7_certificate_39 : decode cX7_certificate 39 = .ok (.ishl, 1) := by decide +kernel
theorem dX7_certificate_40 : decode cX7_certificate 40 = .ok (.iconst 2, 1) := by decide +kernel
theorem dX7_certificate_41 : decode cX7_certificate 41 = .ok (.isub, 1) := by decide +kernel
theorem dX7_certificate_42 : decode cX7_certificate 42 = .ok (.istore 4, 2) := by decide +kernel
theorem dX7_certificate_44 : decode cX7_certificate 44 = .ok (.aload_n 0, 1) := by decide +kernel
theorem dX7_certificate_45 : decode cX7_certificate 45 = .ok (.getfield 39, 3) := by decide +kernel
theorem dX7_certificate_48 : decode cX7_certificate 48 = .ok (.iconst 0, 1) := by decide +kernel
theorem dX7_certificate_49 : decode cX7_certificate 49 = .ok (.iconst 0, 1) := by decide +kernel
theorem dX7_certificate_50 : decode cX7_certificate 50 = .ok (.iastore, 1) := by decide +kernel
theorem dX7_certificate_51 : decode cX7_certificate 51 = .ok (.iconst 1, 1) := by decide +kernel
theorem dX7_certificate_52 : decode cX7_certificate 52 = .ok (.istore 5, 2) := by decide +kernel
theorem dX7_certificate_54 : decode cX7_certificate 54 = .ok (.iload 5, 2) := by decide +kernel
theorem dX7_certificate_56 : decode cX7_certificate 56 = .ok (.aload_n 0, 1) := by decide +kernel
theorem dX7_certificate_57 : decode cX7_certificate 57 = .ok (.getfield 48, 3) := by decide +kernel
theorem dX7_certificate_60 : decode cX7_certificate 60 = .ok (.if_icmp .ge 82, 3) := by decide +kernel
theorem dX7_certificate_63 : decode cX7_certificate 63 = .ok (.iload_n 2, 1) := by decide +kernel
theorem dX7_certificate_64 : decode cX7_certificate 64 = .ok (.aload_n 0, 1) := by decide +kernel
theorem dX7_certificate_65 : decode cX7_certificate 65 = .ok (.getfield 48, 3) := by decide +kernel
theorem dX7_certificate_68 : decode cX7_certificate 68 = .ok (.iload 5, 2) := by decide +kernel
theorem dX7_certificate_70 : decode cX7_certificate 70 = .ok (.isub, 1) := by decide +kernel
theorem dX7_certificate_71 : decode cX7_certificate 71 = .ok (.idiv, 1) := by decide +kernel
theorem dX7_certificate_72 : decode cX7_certificate 72 = .ok (.istore_n 2, 1) := by decide +kernel
theorem dX7_certificate_73 : decode cX7_certificate 73 = .ok (.iload_n 3, 1) := by decide +kernel
theorem dX7_certificate_74 : decode cX7_certificate 74 = .ok (.iload_n 2, 1) := by decide +kernel
theorem dX7_certificate_75 : decode cX7_certificate 75 = .ok (.idiv, 1) := by decide +kernel
theorem dX7_certificate_76 : decode cX7_certificate 76 = .ok (.istore 6, 2) := by decide +kernel
theorem dX7_certificate_78 : decode cX7_certificate 78 = .ok (.iload_n 3, 1) := by decide +kernel
theorem dX7_certificate_79 : decode cX7_certificate 79 = .ok (.iload_n 2, 1) := by decide +kernel
theorem dX7_certificate_80 : decode cX7_certificate 80 = .ok (.irem, 1) := by decide +kernel
theorem dX7_certificate_81 : decode cX7_certificate 81 = .ok (.istore_n 3, 1) := by decide +kernel
theorem dX7_certificate_82 : decode cX7_certificate 82 = .ok (.iconst 0, 1) := by decide +kernel
theorem dX7_certificate_83 : decode cX7_certificate 83 = .ok (.istore 7, 2) := by decide +kernel
theorem dX7_certificate_85 : decode cX7_certificate 85 = .ok (.iload 4, 2) := by decide +kernel
theorem dX7_certificate_87 : decode cX7_certificate 87 = .ok (.iload 7, 2) := by decide +kernel
theorem dX7_certificate_89 : decode cX7_certificate 89 = .ok (.ishr, 1) := by decide +kernel
theorem dX7_certificate_90 : decode cX7_certificate 90 = .ok (.iconst 1, 1) := by decide +kernel
theorem dX7_certificate_91 : decode cX7_certificate 91 = .ok (.iand, 1) := by decide +kernel
theorem dX7_certificate_92 : decode cX7_certificate 92 = .ok (.ifCond .eq 8, 3) := by decide +kernel
theorem dX7_certificate_95 : decode cX7_certificate 95 = .ok (.iload 6, 2) := by decide +kernel
theorem dX7_certificate_97 : decode cX7_certificate 97 = .ok (.ifCond .le 21, 3) := by decide +kernel
theorem dX7_certificate_100 : decode cX7_certificate 100 = .ok (.iload 6, 2) := by decide +kernel
theorem dX7_certificate_102 : decode cX7_certificate 102 = .ok (.iload 4, 2) := by decide +kernel
theorem dX7_certificate_104 : decode cX7_certificate 104 = .ok (.iload 7, 2) := by decide +kernel
theorem dX7_certificate_106 : decode cX7_certificate 106 = .ok (.ishr, 1) := by decide +kernel
theorem dX7_certificate_107 : decode cX7_certificate 107 = .ok (.iconst 1, 1) := by decide +kernel
theorem dX7_certificate_108 : decode cX7_certificate 108 = .ok (.iand, 1) := by decide +kernel
theorem dX7_certificate_109 : decode cX7_certificate 109 = .ok (.isub, 1) := by decide +kernel
theorem dX7_certificate_110 : decode cX7_certificate 110 = .ok (.istore 6, 2) := by decide +kernel
theorem dX7_certificate_112 : decode cX7_certificate 112 = .ok (.iinc 7 1, 3) := by decide +kernel
theorem dX7_certificate_115 : decode cX7_certificate 115 = .ok (.goto (-30), 3) := by decide +kernel
theorem dX7_certificate_118 : decode cX7_certificate 118 = .ok (.aload_n 0, 1) := by decide +kernel
theorem dX7_certificate_119 : decode cX7_certificate 119 = .ok (.getfield 39, 3) := by decide +kernel
theorem dX7_certificate_122 : decode cX7_certificate 122 = .ok (.iload 5, 2) := by decide +kernel
theorem dX7_certificate_124 : decode cX7_certificate 124 = .ok (.iload 7, 2) := by decide +kernel
theorem dX7_certificate_126 : decode cX7_certificate 126 = .ok (.iastore, 1) := by decide +kernel
theorem dX7_certificate_127 : decode cX7_certificate 127 = .ok (.iload 4, 2) := by decide +kernel
theorem dX7_certificate_129 : decode cX7_certificate 129 = .ok (.iconst 1, 1) := by decide +kernel
theorem dX7_certificate_130 : decode cX7_certificate 130 = .ok (.iload 7, 2) := by decide +kernel
theorem dX7_certificate_132 : decode cX7_certificate 132 = .ok (.ishl, 1) := by decide +kernel
theorem dX7_certificate_133 : decode cX7_certificate 133 = .ok (.ixor, 1) := by decide +kernel
theorem dX7_certificate_134 : decode cX7_certificate 134 = .ok (.istore 4, 2) := by decide +kernel
theorem dX7_certificate_136 : decode cX7_certificate 136 = .ok (.iinc 5 1, 3) := by decide +kernel
theorem dX7_certificate_139 : decode cX7_certificate 139 = .ok (.goto (-85), 3) := by decide +kernel
theorem dX7_certificate_142 : decode cX7_certificate 142 = .ok (.lconst 0, 1) := by decide +kernel
theorem dX7_certificate_143 : decode cX7_certificate 143 = .ok (.lstore 5, 2) := by decide +kernel
theorem dX7_certificate_145 : decode cX7_certificate 145 = .ok (.iconst 0, 1) := by decide +kernel
theorem dX7_certificate_146 : decode cX7_certificate 146 = .ok (.istore 7, 2) := by decide +kernel
theorem dX7_certificate_148 : decode cX7_certificate 148 = .ok (.iload 7, 2) := by decide +kernel
theorem dX7_certificate_150 : decode cX7_certificate 150 = .ok (.aload_n 0, 1) := by decide +kernel
theorem dX7_certificate_151 : decode cX7_certificate 151 = .ok (.getfield 48, 3) := by decide +kernel
theorem dX7_certificate_154 : decode cX7_certificate 154 = .ok (.if_icmp .ge 39, 3) := by decide +kernel
theorem dX7_certificate_157 : decode cX7_certificate 157 = .ok (.lload 5, 2) := by decide +kernel
theorem dX7_certificate_159 : decode cX7_certificate 159 = .ok (.aload_n 0, 1) := by decide +kernel
theorem dX7_certificate_160 : decode cX7_certificate 160 = .ok (.aload_n 0, 1) := by decide +kernel
theorem dX7_certificate_161 : decode cX7_certificate 161 = .ok (.getfield 39, 3) := by decide +kernel
theorem dX7_certificate_164 : decode cX7_certificate 164 = .ok (.iload 7, 2) := by decide +kernel
theorem dX7_certificate_166 : decode cX7_certificate 166 = .ok (.iaload, 1) := by decide +kernel
theorem dX7_certificate_167 : decode cX7_certificate 167 = .ok (.aload_n 0, 1) := by decide +kernel
theorem dX7_certificate_168 : decode cX7_certificate 168 = .ok (.getfield 39, 3) := by decide +kernel
theorem dX7_certificate_171 : decode cX7_certificate 171 = .ok (.iload 7, 2) := by decide +kernel
theorem dX7_certificate_173 : decode cX7_certificate 173 = .ok (.iconst 1, 1) := by decide +kernel
theorem dX7_certificate_174 : decode cX7_certificate 174 = .ok (.iadd, 1) := by decide +kernel
theorem dX7_certificate_175 : decode cX7_certificate 175 = .ok (.aload_n 0, 1) := by decide +kernel
theorem dX7_certificate_176 : decode cX7_certificate 176 = .ok (.getfield 48, 3) := by decide +kernel
theorem dX7_certificate_179 : decode cX7_certificate 179 = .ok (.irem, 1) := by decide +kernel
theorem dX7_certificate_180 : decode cX7_certificate 180 = .ok (.iaload, 1) := by decide +kernel
theorem dX7_certificate_181 : decode cX7_certificate 181 = .ok (.invokevirtual 63, 3) := by decide +kernel
theorem dX7_certificate_184 : decode cX7_certificate 184 = .ok (.ladd, 1) := by decide +kernel
theorem dX7_certificate_185 : decode cX7_certificate 185 = .ok (.lstore 5, 2) := by decide +kernel
theorem dX7_certificate_187 : decode cX7_certificate 187 = .ok (.iinc 7 1, 3) := by decide +kernel
theorem dX7_certificate_190 : decode cX7_certificate 190 = .ok (.goto (-42), 3) := by decide +kernel
theorem dX7_certificate_193 : decode cX7_certificate 193 = .ok (.lload 5, 2) := by decide +kernel
theorem dX7_certificate_195 : decode cX7_certificate 195 = .ok (.ldc2_w 52, 3) := by decide +kernel
theorem dX7_certificate_198 : decode cX7_certificate 198 = .ok (.lcmp, 1) := by decide +kernel
theorem dX7_certificate_199 : decode cX7_certificate 199 = .ok (.ifCond .ge 17, 3) := by decide +kernel
theorem dX7_certificate_202 : decode cX7_certificate 202 = .ok (.lload 5, 2) := by decide +kernel
theorem dX7_certificate_204 : decode cX7_certificate 204 = .ok (.aload_n 0, 1) := by decide +kernel
theorem dX7_certificate_205 : decode cX7_certificate 205 = .ok (.invokevirtual 143, 3) := by decide +kernel
theorem dX7_certificate_208 : decode cX7_certificate 208 = .ok (.lcmp, 1) := by decide +kernel
theorem dX7_certificate_209 : decode cX7_certificate 209 = .ok (.ifCond .lt 7, 3) := by decide +kernel
theorem dX7_certificate_212 : decode cX7_certificate 212 = .ok (.iconst 1, 1) := by decide +kernel
theorem dX7_certificate_213 : decode cX7_certificate 213 = .ok (.goto 4, 3) := by decide +kernel
theorem dX7_certificate_216 : decode cX7_certificate 216 = .ok (.iconst 0, 1) := by decide +kernel
theorem dX7_certificate_217 : decode cX7_certificate 217 = .ok (.ireturn, 1) := by decide +kernel
theorem dJx00060_init_a7421_0 : decode cJx00060_init_a7421 0 = .ok (.aload_n 0, 1) := by decide +kernel
theorem dJx00060_init_a7421_1 : decode cJx00060_init_a7421 1 = .ok (.aload_n 1, 1) := by decide +kernel
theorem dJx00060_init_a7421_2 : decode cJx00060_init_a7421 2 = .ok (.invokespecial 7, 3) := by decide +kernel
theorem dJx00060_init_a7421_5 : decode cJx00060_init_a7421 5 = .ok (.return_, 1) := by decide +kernel
theorem dJ6_numberOfTrailingZeros_0f7a4_0 : decode cJ6_numberOfTrailingZeros_0f7a4 0 = .ok (.iload_n 0, 1) := by decide +kernel
theorem dJ6_numberOfTrailingZeros_0f7a4_1 : decode cJ6_numberOfTrailingZeros_0f7a4 1 = .ok (.iconst (-1), 1) := by decide +kernel
theorem dJ6_numberOfTrailingZeros_0f7a4_2 : decode cJ6_numberOfTrailingZeros_0f7a4 2 = .ok (.ixor, 1) := by decide +kernel
theorem dJ6_numberOfTrailingZeros_0f7a4_3 : decode cJ6_numberOfTrailingZeros_0f7a4 3 = .ok (.iload_n 0, 1) := by decide +kernel
theorem dJ6_numberOfTrailingZeros_0f7a4_4 : decode cJ6_numberOfTrailingZeros_0f7a4 4 = .ok (.iconst 1, 1) := by decide +kernel
theorem dJ6_numberOfTrailingZeros_0f7a4_5 : decode cJ6_numberOfTrailingZeros_0f7a4 5 = .ok (.isub, 1) := by decide +kernel
theorem dJ6_numberOfTrailingZeros_0f7a4_6 : decode cJ6_numberOfTrailingZeros_0f7a4 6 = .ok (.iand, 1) := by decide +kernel
theorem dJ6_numberOfTrailingZeros_0f7a4_7 : decode cJ6_numberOfTrailingZeros_0f7a4 7 = .ok (.istore_n 0, 1) := by decide +kernel
theorem dJ6_numberOfTrailingZeros_0f7a4_8 : decode cJ6_numberOfTrailingZeros_0f7a4 8 = .ok (.iload_n 0, 1) := by decide +kernel
theorem dJ6_numberOfTrailingZeros_0f7a4_9 : decode cJ6_numberOfTrailingZeros_0f7a4 9 = .ok (.ifCond .gt 8, 3) := by decide +kernel
theorem dJ6_numberOfTrailingZeros_0f7a4_12 : decode cJ6_numberOfTrailingZeros_0f7a4 12 = .ok (.iload_n 0, 1) := by decide +kernel
theorem dJ6_numberOfTrailingZeros_0f7a4_13 : decode cJ6_numberOfTrailingZeros_0f7a4 13 = .ok (.bipush 32, 2) := by decide +kernel
theorem dJ6_numberOfTrailingZeros_0f7a4_15 : decode cJ6_numberOfTrailingZeros_0f7a4 15 = .ok (.iand, 1) := by decide +kernel
theorem dJ6_numberOfTrailingZeros_0f7a4_16 : decode cJ6_numberOfTrailingZeros_0f7a4 16 = .ok (.ireturn, 1) := by decide +kernel
theorem dJ6_numberOfTrailingZeros_0f7a4_17 : decode cJ6_numberOfTrailingZeros_0f7a4 17 = .ok (.iconst 1, 1) := by decide +kernel
theorem dJ6_numberOfTrailingZeros_0f7a4_18 : decode cJ6_numberOfTrailingZeros_0f7a4 18 = .ok (.istore_n 1, 1) := by decide +kernel
theorem dJ6_numberOfTrailingZeros_0f7a4_19 : decode cJ6_numberOfTrailingZeros_0f7a4 19 = .ok (.iload_n 0, 1) := by decide +kernel
theorem dJ6_numberOfTrailingZeros_0f7a4_20 : decode cJ6_numberOfTrailingZeros_0f7a4 20 = .ok (.ldc_w 264, 3) := by decide +kernel
theorem dJ6_numberOfTrailingZeros_0f7a4_23 : decode cJ6_numberOfTrailingZeros_0f7a4 23 = .ok (.if_icmp .le 11, 3) := by decide +kernel
theorem dJ6_numberOfTrailingZeros_0f7a4_26 : decode cJ6_numberOfTrailingZeros_0f7a4 26 = .ok (.iinc 1 16, 3) := by decide +kernel
theorem dJ6_numberOfTrailingZeros_0f7a4_29 : decode cJ6_numberOfTrailingZeros_0f7a4 29 = .ok (.iload_n 0, 1) := by decide +kernel
theorem dJ6_numberOfTrailingZeros_0f7a4_30 : decode cJ6_numberOfTrailingZeros_0f7a4 30 = .ok (.bipush 16, 2) := by decide +kernel
theorem dJ6_numberOfTrailingZeros_0f7a4_32 : decode cJ6_numberOfTrailingZeros_0f7a4 32 = .ok (.iushr, 1) := by decide +kernel
theorem dJ6_numberOfTrailingZeros_0f7a4_33 : decode cJ6_numberOfTrailingZeros_0f7a4 33 = .ok (.istore_n 0, 1) := by decide +kernel
theorem dJ6_numberOfTrailingZeros_0f7a4_34 : decode cJ6_numberOfTrailingZeros_0f7a4 34 = .ok (.iload_n 0, 1) := by decide +kernel
theorem dJ6_numberOfTrailingZeros_0f7a4_35 : decode cJ6_numberOfTrailingZeros_0f7a4 35 = .ok (.sipush 256, 3) := by decide +kernel
theorem dJ6_numberOfTrailingZeros_0f7a4_38 : decode cJ6_numberOfTrailingZeros_0f7a4 38 = .ok (.if_icmp .le 11, 3) := by decide +kernel
theorem dJ6_numberOfTrailingZeros_0f7a4_41 : decode cJ6_numberOfTrailingZeros_0f7a4 41 = .ok (.iinc 1 8, 3) := by decide +kernel
theorem dJ6_numberOfTrailingZeros_0f7a4_44 : decode cJ6_numberOfTrailingZeros_0f7a4 44 = .ok (.iload_n 0, 1) := by decide +kernel
theorem dJ6_numberOfTrailingZeros_0f7a4_45 : decode cJ6_numberOfTrailingZeros_0f7a4 45 = .ok (.bipush 8, 2) := by decide +kernel
theorem dJ6_numberOfTrailingZeros_0f7a4_47 : decode cJ6_numberOfTrailingZeros_0f7a4 47 = .ok (.iushr, 1) := by decide +kernel
theorem dJ6_numberOfTrailingZeros_0f7a4_48 : decode cJ6_numberOfTrailingZeros_0f7a4 48 = .ok (.istore_n 0, 1) := by decide +kernel
theorem dJ6_numberOfTrailingZeros_0f7a4_49 : decode cJ6_numberOfTrailingZeros_0f7a4 49 = .ok (.iload_n 0, 1) := by decide +kernel
theorem dJ6_numberOfTrailingZeros_0f7a4_50 : decode cJ6_numberOfTrailingZeros_0f7a4 50 = .ok (.bipush 16, 2) := by decide +kernel
theorem dJ6_numberOfTrailingZeros_0f7a4_52 : decode cJ6_numberOfTrailingZeros_0f7a4 52 = .ok (.if_icmp .le 10, 3) := by decide +kernel
theorem dJ6_numberOfTrailingZeros_0f7a4_55 : decode cJ6_numberOfTrailingZeros_0f7a4 55 = .ok (.iinc 1 4, 3) := by decide +kernel
theorem dJ6_numberOfTrailingZeros_0f7a4_58 : decode cJ6_numberOfTrailingZeros_0f7a4 58 = .ok (.iload_n 0, 1) := by decide +kernel
theorem dJ6_numberOfTrailingZeros_0f7a4_59 : decode cJ6_numberOfTrailingZeros_0f7a4 59 = .ok (.iconst 4, 1) := by decide +kernel
theorem dJ6_numberOfTrailingZeros_0f7a4_60 : decode cJ6_numberOfTrailingZeros_0f7a4 60 = .ok (.iushr, 1) := by decide +kernel
theorem dJ6_numberOfTrailingZeros_0f7a4_61 : decode cJ6_numberOfTrailingZeros_0f7a4 61 = .ok (.istore_n 0, 1) := by decide +kernel
theorem dJ6_numberOfTrailingZeros_0f7a4_62 : decode cJ6_numberOfTrailingZeros_0f7a4 62 = .ok (.iload_n 0, 1) := by decide +kernel
theorem dJ6_numberOfTrailingZeros_0f7a4_63 : decode cJ6_numberOfTrailingZeros_0f7a4 63 = .ok (.iconst 4, 1) := by decide +kernel
theorem dJ6_numberOfTrailingZeros_0f7a4_64 : decode cJ6_numberOfTrailingZeros_0f7a4 64 = .ok (.if_icmp .le 10, 3) := by decide +kernel
theorem dJ6_numberOfTrailingZeros_0f7a4_67 : decode cJ6_numberOfTrailingZeros_0f7a4 67 = .ok (.iinc 1 2, 3) := by decide +kernel
theorem dJ6_numberOfTrailingZeros_0f7a4_70 : decode cJ6_numberOfTrailingZeros_0f7a4 70 = .ok (.iload_n 0, 1) := by decide +kernel
theorem dJ6_numberOfTrailingZeros_0f7a4_71 : decode cJ6_numberOfTrailingZeros_0f7a4 71 = .ok (.iconst 2, 1) := by decide +kernel
theorem dJ6_numberOfTrailingZeros_0f7a4_72 : decode cJ6_numberOfTrailingZeros_0f7a4 72 = .ok (.iushr, 1) := by decide +kernel
theorem dJ6_numberOfTrailingZeros_0f7a4_73 : decode cJ6_numberOfTrailingZeros_0f7a4 73 = .ok (.istore_n 0, 1) := by decide +kernel
theorem dJ6_numberOfTrailingZeros_0f7a4_74 : decode cJ6_numberOfTrailingZeros_0f7a4 74 = .ok (.iload_n 1, 1) := by decide +kernel
theorem dJ6_numberOfTrailingZeros_0f7a4_75 : decode cJ6_numberOfTrailingZeros_0f7a4 75 = .ok (.iload_n 0, 1) := by decide +kernel
theorem dJ6_numberOfTrailingZeros_0f7a4_76 : decode cJ6_numberOfTrailingZeros_0f7a4 76 = .ok (.iconst 1, 1) := by decide +kernel
theorem dJ6_numberOfTrailingZeros_0f7a4_77 : decode cJ6_numberOfTrailingZeros_0f7a4 77 = .ok (.iushr, 1) := by decide +kernel
theorem dJ6_numberOfTrailingZeros_0f7a4_78 : decode cJ6_numberOfTrailingZeros_0f7a4 78 = .ok (.iadd, 1) := by decide +kernel
theorem dJ6_numberOfTrailingZeros_0f7a4_79 : decode cJ6_numberOfTrailingZeros_0f7a4 79 = .ok (.ireturn, 1) := by decide +kernel
theorem dJ6_bitCount_0f7a4_0 : decode cJ6_bitCount_0f7a4 0 = .ok (.iload_n 0, 1) := by decide +kernel
theorem dJ6_bitCount_0f7a4_1 : decode cJ6_bitCount_0f7a4 1 = .ok (.iload_n 0, 1) := by decide +kernel
theorem dJ6_bitCount_0f7a4_2 : decode cJ6_bitCount_0f7a4 2 = .ok (.iconst 1, 1) := by decide +kernel
theorem dJ6_bitCount_0f7a4_3 : decode cJ6_bitCount_0f7a4 3 = .ok (.iushr, 1) := by decide +kernel
theorem dJ6_bitCount_0f7a4_4 : decode cJ6_bitCount_0f7a4 4 = .ok (.ldc_w 265, 3) := by decide +kernel
theorem dJ6_bitCount_0f7a4_7 : decode cJ6_bitCount_0f7a4 7 = .ok (.iand, 1) := by decide +kernel
theorem dJ6_bitCount_0f7a4_8 : decode cJ6_bitCount_0f7a4 8 = .ok (.isub, 1) := by decide +kernel
theorem dJ6_bitCount_0f7a4_9 : decode cJ6_bitCount_0f7a4 9 = .ok (.istore_n 0, 1) := by decide +kernel
theorem dJ6_bitCount_0f7a4_10 : decode cJ6_bitCount_0f7a4 10 = .ok (.iload_n 0, 1) := by decide +kernel
theorem dJ6_bitCount_0f7a4_11 : decode cJ6_bitCount_0f7a4 11 = .ok (.ldc_w 266, 3) := by decide +kernel
theorem dJ6_bitCount_0f7a4_14 : decode cJ6_bitCount_0f7a4 14 = .ok (.iand, 1) := by decide +kernel
theorem dJ6_bitCount_0f7a4_15 : decode cJ6_bitCount_0f7a4 15 = .ok (.iload_n 0, 1) := by decide +kernel
theorem dJ6_bitCount_0f7a4_16 : decode cJ6_bitCount_0f7a4 16 = .ok (.iconst 2, 1) := by decide +kernel
theorem dJ6_bitCount_0f7a4_17 : decode cJ6_bitCount_0f7a4 17 = .ok (.iushr, 1) := by decide +kernel
theorem dJ6_bitCount_0f7a4_18 : decode cJ6_bitCount_0f7a4 18 = .ok (.ldc_w 266, 3) := by decide +kernel
theorem dJ6_bitCount_0f7a4_21 : decode cJ6_bitCount_0f7a4 21 = .ok (.iand, 1) := by decide +kernel
theorem dJ6_bitCount_0f7a4_22 : decode cJ6_bitCount_0f7a4 22 = .ok (.iadd, 1) := by decide +kernel
theorem dJ6_bitCount_0f7a4_23 : decode cJ6_bitCount_0f7a4 23 = .ok (.istore_n 0, 1) := by decide +kernel
theorem dJ6_bitCount_0f7a4_24 : decode cJ6_bitCount_0f7a4 24 = .ok (.iload_n 0, 1) := by decide +kernel
theorem dJ6_bitCount_0f7a4_25 : decode cJ6_bitCount_0f7a4 25 = .ok (.iload_n 0, 1) := by decide +kernel
theorem dJ6_bitCount_0f7a4_26 : decode cJ6_bitCount_0f7a4 26 = .ok (.iconst 4, 1) := by decide +kernel
theorem dJ6_bitCount_0f7a4_27 : decode cJ6_bitCount_0f7a4 27 = .ok (.iushr, 1) := by decide +kernel
theorem dJ6_bitCount_0f7a4_28 : decode cJ6_bitCount_0f7a4 28 = .ok (.iadd, 1) := by decide +kernel
theorem dJ6_bitCount_0f7a4_29 : decode cJ6_bitCount_0f7a4 29 = .ok (.ldc_w 267, 3) := by decide +kernel
theorem dJ6_bitCount_0f7a4_32 : decode cJ6_bitCount_0f7a4 32 = .ok (.iand, 1) := by decide +kernel
theorem dJ6_bitCount_0f7a4_33 : decode cJ6_bitCount_0f7a4 33 = .ok (.istore_n 0, 1) := by decide +kernel
theorem dJ6_bitCount_0f7a4_34 : decode cJ6_bitCount_0f7a4 34 = .ok (.iload_n 0, 1) := by decide +kernel
theorem dJ6_bitCount_0f7a4_35 : decode cJ6_bitCount_0f7a4 35 = .ok (.iload_n 0, 1) := by decide +kernel
theorem dJ6_bitCount_0f7a4_36 : decode cJ6_bitCount_0f7a4 36 = .ok (.bipush 8, 2) := by decide +kernel
theorem dJ6_bitCount_0f7a4_38 : decode cJ6_bitCount_0f7a4 38 = .ok (.iushr, 1) := by decide +kernel
theorem dJ6_bitCount_0f7a4_39 : decode cJ6_bitCount_0f7a4 39 = .ok (.iadd, 1) := by decide +kernel
theorem dJ6_bitCount_0f7a4_40 : decode cJ6_bitCount_0f7a4 40 = .ok (.istore_n 0, 1) := by decide +kernel
theorem dJ6_bitCount_0f7a4_41 : decode cJ6_bitCount_0f7a4 41 = .ok (.iload_n 0, 1) := by decide +kernel
theorem dJ6_bitCount_0f7a4_42 : decode cJ6_bitCount_0f7a4 42 = .ok (.iload_n 0, 1) := by decide +kernel
theorem dJ6_bitCount_0f7a4_43 : decode cJ6_bitCount_0f7a4 43 = .ok (.bipush 16, 2) := by decide +kernel
theorem dJ6_bitCount_0f7a4_45 : decode cJ6_bitCount_0f7a4 45 = .ok (.iushr, 1) := by decide +kernel
theorem dJ6_bitCount_0f7a4_46 : decode cJ6_bitCount_0f7a4 46 = .ok (.iadd, 1) := by decide +kernel
theorem dJ6_bitCount_0f7a4_47 : decode cJ6_bitCount_0f7a4 47 = .ok (.istore_n 0, 1) := by decide +kernel
theorem dJ6_bitCount_0f7a4_48 : decode cJ6_bitCount_0f7a4 48 = .ok (.iload_n 0, 1) := by decide +kernel
theorem dJ6_bitCount_0f7a4_49 : decode cJ6_bitCount_0f7a4 49 = .ok (.bipush 63, 2) := by decide +kernel
theorem dJ6_bitCount_0f7a4_51 : decode cJ6_bitCount_0f7a4 51 = .ok (.iand, 1) := by decide +kernel
theorem dJ6_bitCount_0f7a4_52 : decode cJ6_bitCount_0f7a4 52 = .ok (.ireturn, 1) := by decide +kernel
theorem dJ9_max_7cf53_0 : decode cJ9_max_7cf53 0 = .ok (.iload_n 0, 1) := by decide +kernel
theorem dJ9_max_7cf53_1 : decode cJ9_max_7cf53 1 = .ok (.iload_n 1, 1) := by decide +kernel
theorem dJ9_max_7cf53_2 : decode cJ9_max_7cf53 2 = .ok (.if_icmp .lt 7, 3) := by decide +kernel
theorem dJ9_max_7cf53_5 : decode cJ9_max_7cf53 5 = .ok (.iload_n 0, 1) := by decide +kernel
theorem dJ9_max_7cf53_6 : decode cJ9_max_7cf53 6 = .ok (.goto 4, 3) := by decide +kernel
theorem dJ9_max_7cf53_9 : decode cJ9_max_7cf53 9 = .ok (.iload_n 1, 1) := by decide +kernel
theorem dJ9_max_7cf53_10 : decode cJ9_max_7cf53 10 = .ok (.ireturn, 1) := by decide +kernel
theorem dJ9_max_f86c9_0 : decode cJ9_max_f86c9 0 = .ok (.lload_n 0, 1) := by decide +kernel
theorem dJ9_max_f86c9_1 : decode cJ9_max_f86c9 1 = .ok (.lload_n 2, 1) := by decide +kernel
theorem dJ9_max_f86c9_2 : decode cJ9_max_f86c9 2 = .ok (.lcmp, 1) := by decide +kernel
theorem dJ9_max_f86c9_3 : decode cJ9_max_f86c9 3 = .ok (.ifCond .lt 7, 3) := by decide +kernel
theorem dJ9_max_f86c9_6 : decode cJ9_max_f86c9 6 = .ok (.lload_n 0, 1) := by decide +kernel
theorem dJ9_max_f86c9_7 : decode cJ9_max_f86c9 7 = .ok (.goto 4, 3) := by decide +kernel
theorem dJ9_max_f86c9_10 : decode cJ9_max_f86c9 10 = .ok (.lload_n 2, 1) := by decide +kernel
theorem dJ9_max_f86c9_11 : decode cJ9_max_f86c9 11 = .ok (.lreturn, 1) := by decide +kernel
theorem dJ9_min_7cf53_0 : decode cJ9_min_7cf53 0 = .ok (.iload_n 0, 1) := by decide +kernel
theorem dJ9_min_7cf53_1 : decode cJ9_min_7cf53 1 = .ok (.iload_n 1, 1) := by decide +kernel
theorem dJ9_min_7cf53_2 : decode cJ9_min_7cf53 2 = .ok (.if_icmp .gt 7, 3) := by decide +kernel
theorem dJ9_min_7cf53_5 : decode cJ9_min_7cf53 5 = .ok (.iload_n 0, 1) := by decide +kernel
theorem dJ9_min_7cf53_6 : decode cJ9_min_7cf53 6 = .ok (.goto 4, 3) := by decide +kernel
theorem dJ9_min_7cf53_9 : decode cJ9_min_7cf53 9 = .ok (.iload_n 1, 1) := by decide +kernel
theorem dJ9_min_7cf53_10 : decode cJ9_min_7cf53 10 = .ok (.ireturn, 1) := by decide +kernel
theorem dJ7_fill_d0a16_0 : decode cJ7_fill_d0a16 0 = .ok (.iconst 0, 1) := by decide +kernel
theorem dJ7_fill_d0a16_1 : decode cJ7_fill_d0a16 1 = .ok (.istore_n 3, 1) := by decide +kernel
theorem dJ7_fill_d0a16_2 : decode cJ7_fill_d0a16 2 = .ok (.aload_n 0, 1) := by decide +kernel
theorem dJ7_fill_d0a16_3 : decode cJ7_fill_d0a16 3 = .ok (.arraylength, 1) := by decide +kernel
theorem dJ7_fill_d0a16_4 : decode cJ7_fill_d0a16 4 = .ok (.istore 4, 2) := by decide +kernel
theorem dJ7_fill_d0a16_6 : decode cJ7_fill_d0a16 6 = .ok (.iload_n 3, 1) := by decide +kernel
theorem dJ7_fill_d0a16_7 : decode cJ7_fill_d0a16 7 = .ok (.iload 4, 2) := by decide +kernel
theorem dJ7_fill_d0a16_9 : decode cJ7_fill_d0a16 9 = .ok (.if_icmp .ge 13, 3) := by decide +kernel
theorem dJ7_fill_d0a16_12 : decode cJ7_fill_d0a16 12 = .ok (.aload_n 0, 1) := by decide +kernel
theorem dJ7_fill_d0a16_13 : decode cJ7_fill_d0a16 13 = .ok (.iload_n 3, 1) := by decide +kernel
theorem dJ7_fill_d0a16_14 : decode cJ7_fill_d0a16 14 = .ok (.lload_n 1, 1) := by decide +kernel
theorem dJ7_fill_d0a16_15 : decode cJ7_fill_d0a16 15 = .ok (.lastore, 1) := by decide +kernel
theorem dJ7_fill_d0a16_16 : decode cJ7_fill_d0a16 16 = .ok (.iinc 3 1, 3) := by decide +kernel
theorem dJ7_fill_d0a16_19 : decode cJ7_fill_d0a16 19 = .ok (.goto (-13), 3) := by decide +kernel
theorem dJ7_fill_d0a16_22 : decode cJ7_fill_d0a16 22 = .ok (.return_, 1) := by decide +kernel
theorem dJ7_fill_53178_0 : decode cJ7_fill_53178 0 = .ok (.iconst 0, 1) := by decide +kernel
theorem dJ7_fill_53178_1 : decode cJ7_fill_53178 1 = .ok (.istore_n 2, 1) := by decide +kernel
theorem dJ7_fill_53178_2 : decode cJ7_fill_53178 2 = .ok (.aload_n 0, 1) := by decide +kernel
theorem dJ7_fill_53178_3 : decode cJ7_fill_53178 3 = .ok (.arraylength, 1) := by decide +kernel
theorem dJ7_fill_53178_4 : decode cJ7_fill_53178 4 = .ok (.istore_n 3, 1) := by decide +kernel
theorem dJ7_fill_53178_5 : decode cJ7_fill_53178 5 = .ok (.iload_n 2, 1) := by decide +kernel
theorem dJ7_fill_53178_6 : decode cJ7_fill_53178 6 = .ok (.iload_n 3, 1) := by decide +kernel
theorem dJ7_fill_53178_7 : decode cJ7_fill_53178 7 = .ok (.if_icmp .ge 13, 3) := by decide +kernel
theorem dJ7_fill_53178_10 : decode cJ7_fill_53178 10 = .ok (.aload_n 0, 1) := by decide +kernel
theorem dJ7_fill_53178_11 : decode cJ7_fill_53178 11 = .ok (.iload_n 2, 1) := by decide +kernel
theorem dJ7_fill_53178_12 : decode cJ7_fill_53178 12 = .ok (.iload_n 1, 1) := by decide +kernel
theorem dJ7_fill_53178_13 : decode cJ7_fill_53178 13 = .ok (.iastore, 1) := by decide +kernel
theorem dJ7_fill_53178_14 : decode cJ7_fill_53178 14 = .ok (.iinc 2 1, 3) := by decide +kernel
theorem dJ7_fill_53178_17 : decode cJ7_fill_53178 17 = .ok (.goto (-12), 3) := by decide +kernel
theorem dJ7_fill_53178_20 : decode cJ7_fill_53178 20 = .ok (.return_, 1) := by decide +kernel
theorem dL_cell_0 : decode cL_cell 0 = .ok (.iload_n 1, 1) := by decide +kernel
theorem dL_cell_1 : decode cL_cell 1 = .ok (.aload_n 0, 1) := by decide +kernel
theorem dL_cell_2 : decode cL_cell 2 = .ok (.arraylength, 1) := by decide +kernel
theorem dL_cell_3 : decode cL_cell 3 = .ok (.if_icmp .ge 9, 3) := by decide +kernel
theorem dL_cell_6 : decode cL_cell 6 = .ok (.aload_n 0, 1) := by decide +kernel
theorem dL_cell_7 : decode cL_cell 7 = .ok (.iload_n 1, 1) := by decide +kernel
theorem dL_cell_8 : decode cL_cell 8 = .ok (.iaload, 1) := by decide +kernel
theorem dL_cell_9 : decode cL_cell 9 = .ok (.goto 4, 3) := by decide +kernel
theorem dL_cell_12 : decode cL_cell 12 = .ok (.iconst 0, 1) := by decide +kernel
theorem dL_cell_13 : decode cL_cell 13 = .ok (.ireturn, 1) := by decide +kernel
theorem dL_way_0 : decode cL_way 0 = .ok (.aload_n 0, 1) := by decide +kernel
theorem dL_way_1 : decode cL_way 1 = .ok (.iload_n 1, 1) := by decide +kernel
theorem dL_way_2 : decode cL_way 2 = .ok (.iload_n 2, 1) := by decide +kernel
theorem dL_way_3 : decode cL_way 3 = .ok (.lload_n 3, 1) := by decide +kernel
theorem dL_way_4 : decode cL_way 4 = .ok (.invokevirtual 7, 3) := by decide +kernel
theorem dL_way_7 : decode cL_way 7 = .ok (.goto 7, 3) := by decide +kernel
theorem dL_way_10 : decode cL_way 10 = .ok (.astore 5, 2) := by decide +kernel
theorem dL_way_12 : decode cL_way 12 = .ok (.iconst 1, 1) := by decide +kernel
theorem dL_way_13 : decode cL_way 13 = .ok (.ireturn, 1) := by decide +kernel
theorem dL_way_14 : decode cL_way 14 = .ok (.iconst 0, 1) := by decide +kernel
theorem dL_way_15 : decode cL_way 15 = .ok (.ireturn, 1) := by decide +kernel
theorem dL_linear_0 : decode cL_linear 0 = .ok (.aload_n 2, 1) := by decide +kernel
theorem dL_linear_1 : decode cL_linear 1 = .ok (.iconst 0, 1) := by decide +kernel
theorem dL_linear_2 : decode cL_linear 2 = .ok (.aload_n 0, 1) := by decide +kernel
theorem dL_linear_3 : decode cL_linear 3 = .ok (.iload_n 1, 1) := by decide +kernel
theorem dL_linear_4 : decode cL_linear 4 = .ok (.invokevirtual 15, 3) := by decide +kernel
theorem dL_linear_7 : decode cL_linear 7 = .ok (.lastore, 1) := by decide +kernel
theorem dL_linear_8 : decode cL_linear 8 = .ok (.goto 6, 3) := by decide +kernel
theorem dL_linear_11 : decode cL_linear 11 = .ok (.astore_n 3, 1) := by decide +kernel
theorem dL_linear_12 : decode cL_linear 12 = .ok (.iconst 1, 1) := by decide +kernel
theorem dL_linear_13 : decode cL_linear 13 = .ok (.ireturn, 1) := by decide +kernel
theorem dL_linear_14 : decode cL_linear 14 = .ok (.iconst 0, 1) := by decide +kernel
theorem dL_linear_15 : decode cL_linear 15 = .ok (.ireturn, 1) := by decide +kernel
theorem dL_law_0 : decode cL_law 0 = .ok (.new 8, 3) := by decide +kernel
theorem dL_law_3 : decode cL_law 3 = .ok (.dup, 1) := by decide +kernel
theorem dL_law_4 : decode cL_law 4 = .ok (.aload_n 0, 1) := by decide +kernel
theorem dL_law_5 : decode cL_law 5 = .ok (.iconst 0, 1) := by decide +kernel
theorem dL_law_6 : decode cL_law 6 = .ok (.invokestatic 21, 3) := by decide +kernel
theorem dL_law_9 : decode cL_law 9 = .ok (.invokespecial 27, 3) := by decide +kernel
theorem dL_law_12 : decode cL_law 12 = .ok (.astore_n 1, 1) := by decide +kernel
theorem dL_law_13 : decode cL_law 13 = .ok (.new 30, 3) := by decide +kernel
theorem dL_law_16 : decode cL_law 16 = .ok (.dup, 1) := by decide +kernel
theorem dL_law_17 : decode cL_law 17 = .ok (.aload_n 0, 1) := by decide +kernel
theorem dL_law_18 : decode cL_law 18 = .ok (.iconst 0, 1) := by decide +kernel
theorem dL_law_19 : decode cL_law 19 = .ok (.invokestatic 21, 3) := by decide +kernel
theorem dL_law_22 : decode cL_law 22 = .ok (.invokespecial 32, 3) := by decide +kernel
theorem dL_law_25 : decode cL_law 25 = .ok (.astore_n 2, 1) := by decide +kernel
theorem dL_law_26 : decode cL_law 26 = .ok (.iconst 1, 1) := by decide +kernel
theorem dL_law_27 : decode cL_law 27 = .ok (.newarray .long, 2) := by decide +kernel
theorem dL_law_29 : decode cL_law 29 = .ok (.astore_n 3, 1) := by decide +kernel
theorem dL_law_30 : decode cL_law 30 = .ok (.iconst 1, 1) := by decide +kernel
theorem dL_law_31 : decode cL_law 31 = .ok (.istore 4, 2) := by decide +kernel
theorem dL_law_33 : decode cL_law 33 = .ok (.iload 4, 2) := by decide +kernel
theorem dL_law_35 : decode cL_law 35 = .ok (.aload_n 0, 1) := by decide +kernel
theorem dL_law_36 : decode cL_law 36 = .ok (.arraylength, 1) := by decide +kernel
theorem dL_law_37 : decode cL_law 37 = .ok (.iconst 5, 1) := by decide +kernel
theorem dL_law_38 : decode cL_law 38 = .ok (.isub, 1) := by decide +kernel
theorem dL_law_39 : decode cL_law 39 = .ok (.if_icmp .gt 427, 3) := by decide +kernel
theorem dL_law_42 : decode cL_law 42 = .ok (.aload_n 0, 1) := by decide +kernel
theorem dL_law_43 : decode cL_law 43 = .ok (.iload 4, 2) := by decide +kernel
theorem dL_law_45 : decode cL_law 45 = .ok (.iaload, 1) := by decide +kernel
theorem dL_law_46 : decode cL_law 46 = .ok (.bipush 15, 2) := by decide +kernel
theorem dL_law_48 : decode cL_law 48 = .ok (.iand, 1) := by decide +kernel
theorem dL_law_49 : decode cL_law 49 = .ok (.tableswitch 411 0 9 #[55, 147, 173, 186, 200, 238, 280, 317, 331, 386], 55) := by decide +kernel
theorem dL_law_104 : decode cL_law 104 = .ok (.aload_n 1, 1) := by decide +kernel
theorem dL_law_105 : decode cL_law 105 = .ok (.aload_n 0, 1) := by decide +kernel
theorem dL_law_106 : decode cL_law 106 = .ok (.iload 4, 2) := by decide +kernel
theorem dL_law_108 : decode cL_law 108 = .ok (.iconst 1, 1) := by decide +kernel
theorem dL_law_109 : decode cL_law 109 = .ok (.iadd, 1) := by decide +kernel
theorem dL_law_110 : decode cL_law 110 = .ok (.iaload, 1) := by decide +kernel
theorem dL_law_111 : decode cL_law 111 = .ok (.aload_n 0, 1) := by decide +kernel
theorem dL_law_112 : decode cL_law 112 = .ok (.iload 4, 2) := by decide +kernel
theorem dL_law_114 : decode cL_law 114 = .ok (.iconst 2, 1) := by decide +kernel
theorem dL_law_115 : decode cL_law 115 = .ok (.iadd, 1) := by decide +kernel
theorem dL_law_116 : decode cL_law 116 = .ok (.iaload, 1) := by decide +kernel
theorem dL_law_117 : decode cL_law 117 = .ok (.aload_n 0, 1) := by decide +kernel
theorem dL_law_118 : decode cL_law 118 = .ok (.iload 4, 2) := by decide +kernel
theorem dL_law_120 : decode cL_law 120 = .ok (.iconst 3, 1) := by decide +kernel
theorem dL_law_121 : decode cL_law 121 = .ok (.iadd, 1) := by decide +kernel
theorem dL_law_122 : decode cL_law 122 = .ok (.iaload, 1) := by decide +kernel
theorem dL_law_123 : decode cL_law 123 = .ok (.i2l, 1) := by decide +kernel
theorem dL_law_124 : decode cL_law 124 = .ok (.bipush 32, 2) := by decide +kernel
theorem dL_law_126 : decode cL_law 126 = .ok (.lshl, 1) := by decide +kernel
theorem dL_law_127 : decode cL_law 127 = .ok (.aload_n 0, 1) := by decide +kernel
theorem dL_law_128 : decode cL_law 128 = .ok (.iload 4, 2) := by decide +kernel
theorem dL_law_130 : decode cL_law 130 = .ok (.iconst 4, 1) := by decide +kernel
theorem dL_law_131 : decode cL_law 131 = .ok (.iadd, 1) := by decide +kernel
theorem dL_law_132 : decode cL_law 132 = .ok (.iaload, 1) := by decide +kernel
theorem dL_law_133 : decode cL_law 133 = .ok (.i2l, 1) := by decide +kernel
theorem dL_law_134 : decode cL_law 134 = .ok (.ldc2_w 33, 3) := by decide +kernel
theorem dL_law_137 : decode cL_law 137 = .ok (.land, 1) := by decide +kernel
theorem dL_law_138 : decode cL_law 138 = .ok (.lor, 1) := by decide +kernel
theorem dL_law_139 : decode cL_law 139 = .ok (.invokestatic 35, 3) := by decide +kernel
theorem dL_law_142 : decode cL_law 142 = .ok (.istore 5, 2) := by decide +kernel
theorem dL_law_144 : decode cL_law 144 = .ok (.aload_n 2, 1) := by decide +kernel
theorem dL_law_145 : decode cL_law 145 = .ok (.aload_n 0, 1) := by decide +kernel
theorem dL_law_146 : decode cL_law 146 = .ok (.iload 4, 2) := by decide +kernel
theorem dL_law_148 : decode cL_law 148 = .ok (.iconst 1, 1) := by decide +kernel
theorem dL_law_149 : decode cL_law 149 = .ok (.iadd, 1) := by decide +kernel
theorem dL_law_150 : decode cL_law 150 = .ok (.iaload, 1) := by decide +kernel
theorem dL_law_151 : decode cL_law 151 = .ok (.aload_n 0, 1) := by decide +kernel
theorem dL_law_152 : decode cL_law 152 = .ok (.iload 4, 2) := by decide +kernel
theorem dL_law_154 : decode cL_law 154 = .ok (.iconst 2, 1) := by decide +kernel
theorem dL_law_155 : decode cL_law 155 = .ok (.iadd, 1) := by decide +kernel
theorem dL_law_156 : decode cL_law 156 = .ok (.iaload, 1) := by decide +kernel
theorem dL_law_157 : decode cL_law 157 = .ok (.aload_n 0, 1) := by decide +kernel
theorem dL_law_158 : decode cL_law 158 = .ok (.iload 4, 2) := by decide +kernel
theorem dL_law_160 : decode cL_law 160 = .ok (.iconst 3, 1) := by decide +kernel
theorem dL_law_161 : decode cL_law 161 = .ok (.iadd, 1) := by decide +kernel
theorem dL_law_162 : decode cL_law 162 = .ok (.iaload, 1) := by decide +kernel
theorem dL_law_163 : decode cL_law 163 = .ok (.i2l, 1) := by decide +kernel
theorem dL_law_164 : decode cL_law 164 = .ok (.bipush 32, 2) := by decide +kernel
theorem dL_law_166 : decode cL_law 166 = .ok (.lshl, 1) := by decide +kernel
theorem dL_law_167 : decode cL_law 167 = .ok (.aload_n 0, 1) := by decide +kernel
theorem dL_law_168 : decode cL_law 168 = .ok (.iload 4, 2) := by decide +kernel
theorem dL_law_170 : decode cL_law 170 = .ok (.iconst 4, 1) := by decide +kernel
theorem dL_law_171 : decode cL_law 171 = .ok (.iadd, 1) := by decide +kernel
theorem dL_law_172 : decode cL_law 172 = .ok (.iaload, 1) := by decide +kernel
theorem dL_law_173 : decode cL_law 173 = .ok (.i2l, 1) := by decide +kernel
theorem dL_law_174 : decode cL_law 174 = .ok (.ldc2_w 33, 3) := by decide +kernel
theorem dL_law_177 : decode cL_law 177 = .ok (.land, 1) := by decide +kernel
theorem dL_law_178 : decode cL_law 178 = .ok (.lor, 1) := by decide +kernel
theorem dL_law_179 : decode cL_law 179 = .ok (.invokevirtual 38, 3) := by decide +kernel
theorem dL_law_182 : decode cL_law 182 = .ok (.aload_n 2, 1) := by decide +kernel
theorem dL_law_183 : decode cL_law 183 = .ok (.invokevirtual 39, 3) := by decide +kernel
theorem dL_law_186 : decode cL_law 186 = .ok (.iload 5, 2) := by decide +kernel
theorem dL_law_188 : decode cL_law 188 = .ok (.if_icmp .eq 5, 3) := by decide +kernel
theorem dL_law_191 : decode cL_law 191 = .ok (.iconst 0, 1) := by decide +kernel
theorem dL_law_192 : decode cL_law 192 = .ok (.ireturn, 1) := by decide +kernel
theorem dL_law_193 : decode cL_law 193 = .ok (.goto 267, 3) := by decide +kernel
theorem dL_law_196 : decode cL_law 196 = .ok (.aload_n 1, 1) := by decide +kernel
theorem dL_law_197 : decode cL_law 197 = .ok (.aload_n 0, 1) := by decide +kernel
theorem dL_law_198 : decode cL_law 198 = .ok (.iload 4, 2) := by decide +kernel
theorem dL_law_200 : decode cL_law 200 = .ok (.iconst 1, 1) := by decide +kernel
theorem dL_law_201 : decode cL_law 201 = .ok (.iadd, 1) := by decide +kernel
theorem dL_law_202 : decode cL_law 202 = .ok (.iaload, 1) := by decide +kernel
theorem dL_law_203 : decode cL_law 203 = .ok (.invokevirtual 43, 3) := by decide +kernel
theorem dL_law_206 : decode cL_law 206 = .ok (.aload_n 2, 1) := by decide +kernel
theorem dL_law_207 : decode cL_law 207 = .ok (.aload_n 0, 1) := by decide +kernel
theorem dL_law_208 : decode cL_law 208 = .ok (.iload 4, 2) := by decide +kernel
theorem dL_law_210 : decode cL_law 210 = .ok (.iconst 1, 1) := by decide +kernel
theorem dL_law_211 : decode cL_law 211 = .ok (.iadd, 1) := by decide +kernel
theorem dL_law_212 : decode cL_law 212 = .ok (.iaload, 1) := by decide +kernel
theorem dL_law_213 : decode cL_law 213 = .ok (.invokevirtual 46, 3) := by decide +kernel
theorem dL_law_216 : decode cL_law 216 = .ok (.lcmp, 1) := by decide +kernel
theorem dL_law_217 : decode cL_law 217 = .ok (.ifCond .eq 243, 3) := by decide +kernel
theorem dL_law_220 : decode cL_law 220 = .ok (.iconst 0, 1) := by decide +kernel
theorem dL_law_221 : decode cL_law 221 = .ok (.ireturn, 1) := by decide +kernel
theorem dL_law_222 : decode cL_law 222 = .ok (.aload_n 1, 1) := by decide +kernel
theorem dL_law_223 : decode cL_law 223 = .ok (.invokevirtual 47, 3) := by decide +kernel
theorem dL_law_226 : decode cL_law 226 = .ok (.aload_n 2, 1) := by decide +kernel
theorem dL_law_227 : decode cL_law 227 = .ok (.invokevirtual 50, 3) := by decide +kernel
theorem dL_law_230 : decode cL_law 230 = .ok (.if_icmp .eq 230, 3) := by decide +kernel
theorem dL_law_233 : decode cL_law 233 = .ok (.iconst 0, 1) := by decide +kernel
theorem dL_law_234 : decode cL_law 234 = .ok (.ireturn, 1) := by decide +kernel
theorem dL_law_235 : decode cL_law 235 = .ok (.aload_n 1, 1) := by decide +kernel
theorem dL_law_236 : decode cL_law 236 = .ok (.invokevirtual 51, 3) := by decide +kernel
theorem dL_law_239 : decode cL_law 239 = .ok (.aload_n 2, 1) := by decide +kernel
theorem dL_law_240 : decode cL_law 240 = .ok (.invokevirtual 55, 3) := by decide +kernel
theorem dL_law_243 : decode cL_law 243 = .ok (.lcmp, 1) := by decide +kernel
theorem dL_law_244 : decode cL_law 244 = .ok (.ifCond .eq 216, 3) := by decide +kernel
theorem dL_law_247 : decode cL_law 247 = .ok (.iconst 0, 1) := by decide +kernel
theorem dL_law_248 : decode cL_law 248 = .ok (.ireturn, 1) := by decide +kernel
theorem dL_law_249 : decode cL_law 249 = .ok (.aload_n 1, 1) := by decide +kernel
theorem dL_law_250 : decode cL_law 250 = .ok (.aload_n 0, 1) := by decide +kernel
theorem dL_law_251 : decode cL_law 251 = .ok (.iload 4, 2) := by decide +kernel
theorem dL_law_253 : decode cL_law 253 = .ok (.iconst 1, 1) := by decide +kernel
theorem dL_law_254 : decode cL_law 254 = .ok (.iadd, 1) := by decide +kernel
theorem dL_law_255 : decode cL_law 255 = .ok (.iaload, 1) := by decide +kernel
theorem dL_law_256 : decode cL_law 256 = .ok (.aload_n 0, 1) := by decide +kernel
theorem dL_law_257 : decode cL_law 257 = .ok (.iload 4, 2) := by decide +kernel
theorem dL_law_259 : decode cL_law 259 = .ok (.iconst 2, 1) := by decide +kernel
theorem dL_law_260 : decode cL_law 260 = .ok (.iadd, 1) := by decide +kernel
theorem dL_law_261 : decode cL_law 261 = .ok (.iaload, 1) := by decide +kernel
theorem dL_law_262 : decode cL_law 262 = .ok (.invokevirtual 56, 3) := by decide +kernel
theorem dL_law_265 : decode cL_law 265 = .ok (.aload_n 2, 1) := by decide +kernel
theorem dL_law_266 : decode cL_law 266 = .ok (.aload_n 0, 1) := by decide +kernel
theorem dL_law_267 : decode cL_law 267 = .ok (.iload 4, 2) := by decide +kernel
theorem dL_law_269 : decode cL_law 269 = .ok (.iconst 1, 1) := by decide +kernel
theorem dL_law_270 : decode cL_law 270 = .ok (.iadd, 1) := by decide +kernel
theorem dL_law_271 : decode cL_law 271 = .ok (.iaload, 1) := by decide +kernel
theorem dL_law_272 : decode cL_law 272 = .ok (.aload_n 0, 1) := by decide +kernel
theorem dL_law_273 : decode cL_law 273 = .ok (.iload 4, 2) := by decide +kernel
theorem dL_law_275 : decode cL_law 275 = .ok (.iconst 2, 1) := by decide +kernel
theorem dL_law_276 : decode cL_law 276 = .ok (.iadd, 1) := by decide +kernel
theorem dL_law_277 : decode cL_law 277 = .ok (.iaload, 1) := by decide +kernel
theorem dL_law_278 : decode cL_law 278 = .ok (.invokevirtual 60, 3) := by decide +kernel
theorem dL_law_281 : decode cL_law 281 = .ok (.lcmp, 1) := by decide +kernel
theorem dL_law_282 : decode cL_law 282 = .ok (.ifCond .eq 178, 3) := by decide +kernel
theorem dL_law_285 : decode cL_law 285 = .ok (.iconst 0, 1) := by decide +kernel
theorem dL_law_286 : decode cL_law 286 = .ok (.ireturn, 1) := by decide +kernel
theorem dL_law_287 : decode cL_law 287 = .ok (.aload_n 1, 1) := by decide +kernel
theorem dL_law_288 : decode cL_law 288 = .ok (.aload_n 0, 1) := by decide +kernel
theorem dL_law_289 : decode cL_law 289 = .ok (.iload 4, 2) := by decide +kernel
theorem dL_law_291 : decode cL_law 291 = .ok (.iconst 1, 1) := by decide +kernel
theorem dL_law_292 : decode cL_law 292 = .ok (.iadd, 1) := by decide +kernel
theorem dL_law_293 : decode cL_law 293 = .ok (.iaload, 1) := by decide +kernel
theorem dL_law_294 : decode cL_law 294 = .ok (.ifCond .eq 7, 3) := by decide +kernel
theorem dL_law_297 : decode cL_law 297 = .ok (.iconst 1, 1) := by decide +kernel
theorem dL_law_298 : decode cL_law 298 = .ok (.goto 4, 3) := by decide +kernel
theorem dL_law_301 : decode cL_law 301 = .ok (.iconst 0, 1) := by decide +kernel
theorem dL_law_302 : decode cL_law 302 = .ok (.invokevirtual 61, 3) := by decide +kernel
theorem dL_law_305 : decode cL_law 305 = .ok (.aload_n 2, 1) := by decide +kernel
theorem dL_law_306 : decode cL_law 306 = .ok (.aload_n 0, 1) := by decide +kernel
theorem dL_law_307 : decode cL_law 307 = .ok (.iload 4, 2) := by decide +kernel
theorem dL_law_309 : decode cL_law 309 = .ok (.iconst 1, 1) := by decide +kernel
theorem dL_law_310 : decode cL_law 310 = .ok (.iadd, 1) := by decide +kernel
theorem dL_law_311 : decode cL_law 311 = .ok (.iaload, 1) := by decide +kernel
theorem dL_law_312 : decode cL_law 312 = .ok (.ifCond .eq 7, 3) := by decide +kernel
theorem dL_law_315 : decode cL_law 315 = .ok (.iconst 1, 1) := by decide +kernel
theorem dL_law_316 : decode cL_law 316 = .ok (.goto 4, 3) := by decide +kernel
theorem dL_law_319 : decode cL_law 319 = .ok (.iconst 0, 1) := by decide +kernel
theorem dL_law_320 : decode cL_law 320 = .ok (.invokevirtual 65, 3) := by decide +kernel
end
section
theorem dL_law_323 : decode cL_law 323 = .ok (.lcmp, 1) := by decide +kernel
theorem dL_law_324 : decode cL_law 324 = .ok (.ifCond .eq 136, 3) := by decide +kernel
theorem dL_law_327 : decode cL_law 327 = .ok (.iconst 0, 1) := by decide +kernel
theorem dL_law_328 : decode cL_law 328 = .ok (.ireturn, 1) := by decide +kernel
theorem dL_law_329 : decode cL_law 329 = .ok (.aload_n 1, 1) := by decide +kernel
theorem dL_law_330 : decode cL_law 330 = .ok (.aload_n 0, 1) := by decide +kernel
theorem dL_law_331 : decode cL_law 331 = .ok (.iload 4, 2) := by decide +kernel
theorem dL_law_333 : decode cL_law 333 = .ok (.iconst 1, 1) := by decide +kernel
theorem dL_law_334 : decode cL_law 334 = .ok (.iadd, 1) := by decide +kernel
theorem dL_law_335 : decode cL_law 335 = .ok (.iaload, 1) := by decide +kernel
theorem dL_law_336 : decode cL_law 336 = .ok (.aload_n 0, 1) := by decide +kernel
theorem dL_law_337 : decode cL_law 337 = .ok (.iload 4, 2) := by decide +kernel
theorem dL_law_339 : decode cL_law 339 = .ok (.iconst 2, 1) := by decide +kernel
theorem dL_law_340 : decode cL_law 340 = .ok (.iadd, 1) := by decide +kernel
theorem dL_law_341 : decode cL_law 341 = .ok (.iaload, 1) := by decide +kernel
theorem dL_law_342 : decode cL_law 342 = .ok (.invokevirtual 66, 3) := by decide +kernel
theorem dL_law_345 : decode cL_law 345 = .ok (.aload_n 2, 1) := by decide +kernel
theorem dL_law_346 : decode cL_law 346 = .ok (.aload_n 0, 1) := by decide +kernel
theorem dL_law_347 : decode cL_law 347 = .ok (.iload 4, 2) := by decide +kernel
theorem dL_law_349 : decode cL_law 349 = .ok (.iconst 1, 1) := by decide +kernel
theorem dL_law_350 : decode cL_law 350 = .ok (.iadd, 1) := by decide +kernel
theorem dL_law_351 : decode cL_law 351 = .ok (.iaload, 1) := by decide +kernel
theorem dL_law_352 : decode cL_law 352 = .ok (.aload_n 0, 1) := by decide +kernel
theorem dL_law_353 : decode cL_law 353 = .ok (.iload 4, 2) := by decide +kernel
theorem dL_law_355 : decode cL_law 355 = .ok (.iconst 2, 1) := by decide +kernel
theorem dL_law_356 : decode cL_law 356 = .ok (.iadd, 1) := by decide +kernel
theorem dL_law_357 : decode cL_law 357 = .ok (.iaload, 1) := by decide +kernel
theorem dL_law_358 : decode cL_law 358 = .ok (.invokevirtual 70, 3) := by decide +kernel
theorem dL_law_361 : decode cL_law 361 = .ok (.if_icmp .eq 99, 3) := by decide +kernel
theorem dL_law_364 : decode cL_law 364 = .ok (.iconst 0, 1) := by decide +kernel
theorem dL_law_365 : decode cL_law 365 = .ok (.ireturn, 1) := by decide +kernel
theorem dL_law_366 : decode cL_law 366 = .ok (.aload_n 1, 1) := by decide +kernel
theorem dL_law_367 : decode cL_law 367 = .ok (.invokevirtual 71, 3) := by decide +kernel
theorem dL_law_370 : decode cL_law 370 = .ok (.aload_n 2, 1) := by decide +kernel
theorem dL_law_371 : decode cL_law 371 = .ok (.invokevirtual 74, 3) := by decide +kernel
theorem dL_law_374 : decode cL_law 374 = .ok (.lcmp, 1) := by decide +kernel
theorem dL_law_375 : decode cL_law 375 = .ok (.ifCond .eq 85, 3) := by decide +kernel
theorem dL_law_378 : decode cL_law 378 = .ok (.iconst 0, 1) := by decide +kernel
theorem dL_law_379 : decode cL_law 379 = .ok (.ireturn, 1) := by decide +kernel
theorem dL_law_380 : decode cL_law 380 = .ok (.aload_n 1, 1) := by decide +kernel
theorem dL_law_381 : decode cL_law 381 = .ok (.aload_n 0, 1) := by decide +kernel
theorem dL_law_382 : decode cL_law 382 = .ok (.iload 4, 2) := by decide +kernel
theorem dL_law_384 : decode cL_law 384 = .ok (.iconst 1, 1) := by decide +kernel
theorem dL_law_385 : decode cL_law 385 = .ok (.iadd, 1) := by decide +kernel
theorem dL_law_386 : decode cL_law 386 = .ok (.iaload, 1) := by decide +kernel
theorem dL_law_387 : decode cL_law 387 = .ok (.aload_n 3, 1) := by decide +kernel
theorem dL_law_388 : decode cL_law 388 = .ok (.invokestatic 75, 3) := by decide +kernel
theorem dL_law_391 : decode cL_law 391 = .ok (.istore 5, 2) := by decide +kernel
theorem dL_law_393 : decode cL_law 393 = .ok (.aload_n 2, 1) := by decide +kernel
theorem dL_law_394 : decode cL_law 394 = .ok (.aload_n 0, 1) := by decide +kernel
theorem dL_law_395 : decode cL_law 395 = .ok (.iload 4, 2) := by decide +kernel
theorem dL_law_397 : decode cL_law 397 = .ok (.iconst 1, 1) := by decide +kernel
theorem dL_law_398 : decode cL_law 398 = .ok (.iadd, 1) := by decide +kernel
theorem dL_law_399 : decode cL_law 399 = .ok (.iaload, 1) := by decide +kernel
theorem dL_law_400 : decode cL_law 400 = .ok (.invokevirtual 78, 3) := by decide +kernel
theorem dL_law_403 : decode cL_law 403 = .ok (.lstore 6, 2) := by decide +kernel
theorem dL_law_405 : decode cL_law 405 = .ok (.aload_n 2, 1) := by decide +kernel
theorem dL_law_406 : decode cL_law 406 = .ok (.invokevirtual 39, 3) := by decide +kernel
theorem dL_law_409 : decode cL_law 409 = .ok (.iload 5, 2) := by decide +kernel
theorem dL_law_411 : decode cL_law 411 = .ok (.if_icmp .eq 5, 3) := by decide +kernel
theorem dL_law_414 : decode cL_law 414 = .ok (.iconst 0, 1) := by decide +kernel
theorem dL_law_415 : decode cL_law 415 = .ok (.ireturn, 1) := by decide +kernel
theorem dL_law_416 : decode cL_law 416 = .ok (.iload 5, 2) := by decide +kernel
theorem dL_law_418 : decode cL_law 418 = .ok (.ifCond .ne 14, 3) := by decide +kernel
theorem dL_law_421 : decode cL_law 421 = .ok (.aload_n 3, 1) := by decide +kernel
theorem dL_law_422 : decode cL_law 422 = .ok (.iconst 0, 1) := by decide +kernel
theorem dL_law_423 : decode cL_law 423 = .ok (.laload, 1) := by decide +kernel
theorem dL_law_424 : decode cL_law 424 = .ok (.lload 6, 2) := by decide +kernel
theorem dL_law_426 : decode cL_law 426 = .ok (.lcmp, 1) := by decide +kernel
theorem dL_law_427 : decode cL_law 427 = .ok (.ifCond .eq 5, 3) := by decide +kernel
theorem dL_law_430 : decode cL_law 430 = .ok (.iconst 0, 1) := by decide +kernel
theorem dL_law_431 : decode cL_law 431 = .ok (.ireturn, 1) := by decide +kernel
theorem dL_law_432 : decode cL_law 432 = .ok (.goto 28, 3) := by decide +kernel
theorem dL_law_435 : decode cL_law 435 = .ok (.aload_n 1, 1) := by decide +kernel
theorem dL_law_436 : decode cL_law 436 = .ok (.aload_n 0, 1) := by decide +kernel
theorem dL_law_437 : decode cL_law 437 = .ok (.iload 4, 2) := by decide +kernel
theorem dL_law_439 : decode cL_law 439 = .ok (.iconst 1, 1) := by decide +kernel
theorem dL_law_440 : decode cL_law 440 = .ok (.iadd, 1) := by decide +kernel
theorem dL_law_441 : decode cL_law 441 = .ok (.iaload, 1) := by decide +kernel
theorem dL_law_442 : decode cL_law 442 = .ok (.invokevirtual 79, 3) := by decide +kernel
theorem dL_law_445 : decode cL_law 445 = .ok (.aload_n 2, 1) := by decide +kernel
theorem dL_law_446 : decode cL_law 446 = .ok (.aload_n 0, 1) := by decide +kernel
theorem dL_law_447 : decode cL_law 447 = .ok (.iload 4, 2) := by decide +kernel
theorem dL_law_449 : decode cL_law 449 = .ok (.iconst 1, 1) := by decide +kernel
theorem dL_law_450 : decode cL_law 450 = .ok (.iadd, 1) := by decide +kernel
theorem dL_law_451 : decode cL_law 451 = .ok (.iaload, 1) := by decide +kernel
theorem dL_law_452 : decode cL_law 452 = .ok (.invokevirtual 83, 3) := by decide +kernel
theorem dL_law_455 : decode cL_law 455 = .ok (.if_icmp .eq 5, 3) := by decide +kernel
theorem dL_law_458 : decode cL_law 458 = .ok (.iconst 0, 1) := by decide +kernel
theorem dL_law_459 : decode cL_law 459 = .ok (.ireturn, 1) := by decide +kernel
theorem dL_law_460 : decode cL_law 460 = .ok (.iinc 4 5, 3) := by decide +kernel
theorem dL_law_463 : decode cL_law 463 = .ok (.goto (-430), 3) := by decide +kernel
theorem dL_law_466 : decode cL_law 466 = .ok (.iconst 1, 1) := by decide +kernel
theorem dL_law_467 : decode cL_law 467 = .ok (.ireturn, 1) := by decide +kernel
end
section
/-! ===== uniform memory: every cell of the system has a number q, it lies at ad q; I, J: numbers in fields, A, B: rows of int and of long ===== -/
def mst : List Cond := [.fieldLinkNest RX0 15 "RoundBounds$Net" "n" "I" "RoundBounds", .fieldLinkNest RX2 15 "RoundBounds$Net" "n" "I" "RoundBounds", .fieldLinkNest RX1 15 "RoundBounds$Net" "n" "I" "RoundBounds", .fieldLinkNest RX4 15 "RoundBounds$Net" "n" "I" "RoundBounds", .fieldLinkNest RX5 15 "RoundBounds$Net" "n" "I" "RoundBounds", .fieldLinkNest RX5 64 "RoundBounds$Net" "ways" "[[I" "RoundBounds", .fieldLinkNest RX0 83 "RoundBounds$Net" "ways" "[[I" "RoundBounds", .fieldLinkNest RX6 133 "RoundBounds$Net" "ways" "[[I" "RoundBounds", .fieldLinkNest RX1 33 "RoundBounds$Net" "streets" "[[I" "RoundBounds", .fieldLinkNest RX4 68 "RoundBounds$Net" "streets" "[[I" "RoundBounds", .fieldLinkNest RX2 70 "RoundBounds$Net" "streets" "[[I" "RoundBounds", .fieldLinkNest RX6 93 "RoundBounds$LinkedTrees" "bestRound" "I" "RoundBounds"]
def mNst (U : State) : Prop := ∀ w ∈ mst, va_Nw w U
theorem mst_tab : ∀ w ∈ mst, w.onTables = true := by
  intro w hw
  simp only [mst, List.mem_cons, List.not_mem_nil, or_false] at hw
  rcases hw with rfl | rfl | rfl | rfl | rfl | rfl | rfl | rfl | rfl | rfl | rfl | rfl <;> rfl
theorem mNst.same {u U : State} (h : u.vm = U.vm) (hN : mNst u) : mNst U := fun w hw => va_Nw.same (mst_tab w hw) h (hN w hw)
theorem mNst.warm {s U : State} (hW : s.WarmedH U.vm) (hN : mNst s) : mNst U := by
  intro w hw
  have h0 := hN w hw
  simp only [mst, List.mem_cons, List.not_mem_nil, or_false] at hw
  rcases hw with rfl | rfl | rfl | rfl | rfl | rfl | rfl | rfl | rfl | rfl | rfl | rfl <;> exact va_Nw.warmF hW h0
def mri (nn : Nat) : List Nat := (List.range nn).flatMap fun i => [100 + i, 116 + i, 132 + i, 148 + i, 164 + i]
def mgo (nn : Nat) (ad : Nat → Nat) (b : Nat) : Nat → Option Nat := fun i => if i < nn then some (ad (b + i)) else none
def mrw (y : Nat → ClassId) (nn : Nat) (ad : Nat → Nat) (A : Nat → Nat → Int32) : va_W := (mri nn).map fun q => (ad q, .inl (y 0, nn, .inl (A q)))
def mo (y : Nat → ClassId) (nn : Nat) (ad : Nat → Nat) (I : Nat → Int32) (J : Nat → Int64) (A : Nat → Nat → Int32) (B : Nat → Nat → Int64) : va_W := [(ad 0, .inr (7, [.ref (ad 1), .ref (ad 2), .ref (ad 3), .ref (ad 4), .ref (ad 5), .ref (ad 6), .ref (ad 33), .int (I 4)])),
  (ad 1, .inr (4, [.int (I 0), .ref (ad 8), .ref (ad 9)])),
  (ad 2, .inr (3, [.ref (ad 1), .ref (ad 20), .ref (ad 21), .ref (ad 22), .long (J 0), .int (I 1)])),
  (ad 3, .inr (1, [.ref (ad 1), .ref (ad 50), .ref (ad 51), .ref (ad 52), .ref (ad 23), .ref (ad 24), .ref (ad 25)])),
  (ad 4, .inr (2, [.ref (ad 1), .ref (ad 10), .ref (ad 26), .ref (ad 27)])),
  (ad 5, .inr (5, [.ref (ad 1), .ref (ad 11), .ref (ad 28), .int (I 2), .ref (ad 29), .ref (ad 30), .int (I 3)])),
  (ad 6, .inr (6, [.ref (ad 1), .ref (ad 12), .ref (ad 31), .ref (ad 53), .ref (ad 32)])),
  (ad 7, .inr (8, [.int (I 5), .int (I 6), .ref (ad 54), .int (I 7), .int (I 8), .ref (ad 34), .ref (ad 55), .ref (ad 35), .ref (ad 36), .long (J 1), .ref (ad 56), .ref (ad 57), .ref (ad 37), .ref (ad 38), .ref (ad 39), .ref (ad 58), .ref (ad 40)])),
  (ad 8, .inl (y 3, nn, .inr (.inr (.inr (.inr (mgo nn ad 100)))))),
  (ad 9, .inl (y 3, nn, .inr (.inr (.inr (.inr (mgo nn ad 116)))))),
  (ad 10, .inl (y 3, nn, .inr (.inr (.inr (.inr (mgo nn ad 132)))))),
  (ad 11, .inl (y 3, nn, .inr (.inr (.inr (.inr (mgo nn ad 148)))))),
  (ad 12, .inl (y 3, nn, .inr (.inr (.inr (.inr (mgo nn ad 164)))))),
  (ad 20, .inl (y 0, nn, .inl (A 20))),
  (ad 21, .inl (y 0, nn, .inl (A 21))),
  (ad 22, .inl (y 0, nn, .inl (A 22))),
  (ad 23, .inl (y 0, (nn + 1), .inl (A 23))),
  (ad 24, .inl (y 0, (nn + 1), .inl (A 24))),
  (ad 25, .inl (y 2, (nn + 1), .inl (A 25))),
  (ad 26, .inl (y 0, nn, .inl (A 26))),
  (ad 27, .inl (y 0, nn, .inl (A 27))),
  (ad 28, .inl (y 0, nn, .inl (A 28))),
  (ad 29, .inl (y 0, (2 ^ (nn - 1)), .inl (A 29))),
  (ad 30, .inl (y 0, nn, .inl (A 30))),
  (ad 31, .inl (y 0, nn, .inl (A 31))),
  (ad 32, .inl (y 0, nn, .inl (A 32))),
  (ad 33, .inl (y 0, nn, .inl (A 33))),
  (ad 34, .inl (y 0, 12, .inl (A 34))),
  (ad 35, .inl (y 0, 12, .inl (A 35))),
  (ad 36, .inl (y 2, 12, .inl (A 36))),
  (ad 37, .inl (y 0, 144, .inl (A 37))),
  (ad 38, .inl (y 0, 12, .inl (A 38))),
  (ad 39, .inl (y 0, 12, .inl (A 39))),
  (ad 40, .inl (y 0, 24, .inl (A 40))),
  (ad 50, .inl (y 1, (nn + 1), .inr (.inl (B 50)))),
  (ad 51, .inl (y 1, (nn + 1), .inr (.inl (B 51)))),
  (ad 52, .inl (y 1, (nn + 1), .inr (.inl (B 52)))),
  (ad 53, .inl (y 1, nn, .inr (.inl (B 53)))),
  (ad 54, .inl (y 1, 144, .inr (.inl (B 54)))),
  (ad 55, .inl (y 1, 12, .inr (.inl (B 55)))),
  (ad 56, .inl (y 1, 4096, .inr (.inl (B 56)))),
  (ad 57, .inl (y 1, 144, .inr (.inl (B 57)))),
  (ad 58, .inl (y 1, 24, .inr (.inl (B 58)))),
  (ad 59, .inl (y 1, 1, .inr (.inl (B 59))))]
def mw (y : Nat → ClassId) (nn : Nat) (ad : Nat → Nat) (I : Nat → Int32) (J : Nat → Int64) (A : Nat → Nat → Int32) (B : Nat → Nat → Int64) : va_W := mo y nn ad I J A B ++ mrw y nn ad A
theorem mri_ge {nn q : Nat} (h : q ∈ mri nn) : 100 ≤ q := by
  obtain ⟨i, hi, hq⟩ := List.mem_flatMap.mp h
  simp only [List.mem_cons, List.not_mem_nil, or_false] at hq
  omega
theorem mri_in {nn b i : Nat} (hb : b = 100 ∨ b = 116 ∨ b = 132 ∨ b = 148 ∨ b = 164) (hi : i < nn) : b + i ∈ mri nn := by
  refine List.mem_flatMap.mpr ⟨i, List.mem_range.mpr hi, ?_⟩
  rcases hb with rfl | rfl | rfl | rfl | rfl <;> simp
theorem mrw_up {y : Nat → ClassId} {nn : Nat} {ad : Nat → Nat} {A : Nat → Nat → Int32} {q : Nat} {f : Nat → Int32} (h : q < 100) : mrw y nn ad (va_up A q f) = mrw y nn ad A := by
  unfold mrw
  apply List.map_congr_left
  intro r hr
  have := mri_ge hr
  rw [va_up_ne A f (by omega)]
theorem mg_0 {y : Nat → ClassId} {nn : Nat} {ad : Nat → Nat} {I : Nat → Int32} {J : Nat → Int64} {A : Nat → Nat → Int32} {B : Nat → Nat → Int64} : (mw y nn ad I J A B)[0]? = some (ad 0, .inr (7, [.ref (ad 1), .ref (ad 2), .ref (ad 3), .ref (ad 4), .ref (ad 5), .ref (ad 6), .ref (ad 33), .int (I 4)])) := rfl
theorem ms_0_7 {y : Nat → ClassId} {nn : Nat} {ad : Nat → Nat} {I : Nat → Int32} {J : Nat → Int64} {A : Nat → Nat → Int32} {B : Nat → Nat → Int64} (v : Int32) : (mw y nn ad I J A B).set 0 (ad 0, .inr (7, [.ref (ad 1), .ref (ad 2), .ref (ad 3), .ref (ad 4), .ref (ad 5), .ref (ad 6), .ref (ad 33), .int v])) = mw y nn ad (va_up I 4 v) J A B := rfl
theorem mg_1 {y : Nat → ClassId} {nn : Nat} {ad : Nat → Nat} {I : Nat → Int32} {J : Nat → Int64} {A : Nat → Nat → Int32} {B : Nat → Nat → Int64} : (mw y nn ad I J A B)[1]? = some (ad 1, .inr (4, [.int (I 0), .ref (ad 8), .ref (ad 9)])) := rfl
theorem ms_1_0 {y : Nat → ClassId} {nn : Nat} {ad : Nat → Nat} {I : Nat → Int32} {J : Nat → Int64} {A : Nat → Nat → Int32} {B : Nat → Nat → Int64} (v : Int32) : (mw y nn ad I J A B).set 1 (ad 1, .inr (4, [.int v, .ref (ad 8), .ref (ad 9)])) = mw y nn ad (va_up I 0 v) J A B := rfl
theorem mg_2 {y : Nat → ClassId} {nn : Nat} {ad : Nat → Nat} {I : Nat → Int32} {J : Nat → Int64} {A : Nat → Nat → Int32} {B : Nat → Nat → Int64} : (mw y nn ad I J A B)[2]? = some (ad 2, .inr (3, [.ref (ad 1), .ref (ad 20), .ref (ad 21), .ref (ad 22), .long (J 0), .int (I 1)])) := rfl
theorem ms_2_4 {y : Nat → ClassId} {nn : Nat} {ad : Nat → Nat} {I : Nat → Int32} {J : Nat → Int64} {A : Nat → Nat → Int32} {B : Nat → Nat → Int64} (v : Int64) : (mw y nn ad I J A B).set 2 (ad 2, .inr (3, [.ref (ad 1), .ref (ad 20), .ref (ad 21), .ref (ad 22), .long v, .int (I 1)])) = mw y nn ad I (va_up J 0 v) A B := rfl
theorem ms_2_5 {y : Nat → ClassId} {nn : Nat} {ad : Nat → Nat} {I : Nat → Int32} {J : Nat → Int64} {A : Nat → Nat → Int32} {B : Nat → Nat → Int64} (v : Int32) : (mw y nn ad I J A B).set 2 (ad 2, .inr (3, [.ref (ad 1), .ref (ad 20), .ref (ad 21), .ref (ad 22), .long (J 0), .int v])) = mw y nn ad (va_up I 1 v) J A B := rfl
theorem mg_3 {y : Nat → ClassId} {nn : Nat} {ad : Nat → Nat} {I : Nat → Int32} {J : Nat → Int64} {A : Nat → Nat → Int32} {B : Nat → Nat → Int64} : (mw y nn ad I J A B)[3]? = some (ad 3, .inr (1, [.ref (ad 1), .ref (ad 50), .ref (ad 51), .ref (ad 52), .ref (ad 23), .ref (ad 24), .ref (ad 25)])) := rfl
theorem mg_4 {y : Nat → ClassId} {nn : Nat} {ad : Nat → Nat} {I : Nat → Int32} {J : Nat → Int64} {A : Nat → Nat → Int32} {B : Nat → Nat → Int64} : (mw y nn ad I J A B)[4]? = some (ad 4, .inr (2, [.ref (ad 1), .ref (ad 10), .ref (ad 26), .ref (ad 27)])) := rfl
theorem mg_5 {y : Nat → ClassId} {nn : Nat} {ad : Nat → Nat} {I : Nat → Int32} {J : Nat → Int64} {A : Nat → Nat → Int32} {B : Nat → Nat → Int64} : (mw y nn ad I J A B)[5]? = some (ad 5, .inr (5, [.ref (ad 1), .ref (ad 11), .ref (ad 28), .int (I 2), .ref (ad 29), .ref (ad 30), .int (I 3)])) := rfl
theorem ms_5_3 {y : Nat → ClassId} {nn : Nat} {ad : Nat → Nat} {I : Nat → Int32} {J : Nat → Int64} {A : Nat → Nat → Int32} {B : Nat → Nat → Int64} (v : Int32) : (mw y nn ad I J A B).set 5 (ad 5, .inr (5, [.ref (ad 1), .ref (ad 11), .ref (ad 28), .int v, .ref (ad 29), .ref (ad 30), .int (I 3)])) = mw y nn ad (va_up I 2 v) J A B := rfl
theorem ms_5_6 {y : Nat → ClassId} {nn : Nat} {ad : Nat → Nat} {I : Nat → Int32} {J : Nat → Int64} {A : Nat → Nat → Int32} {B : Nat → Nat → Int64} (v : Int32) : (mw y nn ad I J A B).set 5 (ad 5, .inr (5, [.ref (ad 1), .ref (ad 11), .ref (ad 28), .int (I 2), .ref (ad 29), .ref (ad 30), .int v])) = mw y nn ad (va_up I 3 v) J A B := rfl
theorem mg_6 {y : Nat → ClassId} {nn : Nat} {ad : Nat → Nat} {I : Nat → Int32} {J : Nat → Int64} {A : Nat → Nat → Int32} {B : Nat → Nat → Int64} : (mw y nn ad I J A B)[6]? = some (ad 6, .inr (6, [.ref (ad 1), .ref (ad 12), .ref (ad 31), .ref (ad 53), .ref (ad 32)])) := rfl
theorem mg_7 {y : Nat → ClassId} {nn : Nat} {ad : Nat → Nat} {I : Nat → Int32} {J : Nat → Int64} {A : Nat → Nat → Int32} {B : Nat → Nat → Int64} : (mw y nn ad I J A B)[7]? = some (ad 7, .inr (8, [.int (I 5), .int (I 6), .ref (ad 54), .int (I 7), .int (I 8), .ref (ad 34), .ref (ad 55), .ref (ad 35), .ref (ad 36), .long (J 1), .ref (ad 56), .ref (ad 57), .ref (ad 37), .ref (ad 38), .ref (ad 39), .ref (ad 58), .ref (ad 40)])) := rfl
theorem ms_7_0 {y : Nat → ClassId} {nn : Nat} {ad : Nat → Nat} {I : Nat → Int32} {J : Nat → Int64} {A : Nat → Nat → Int32} {B : Nat → Nat → Int64} (v : Int32) : (mw y nn ad I J A B).set 7 (ad 7, .inr (8, [.int v, .int (I 6), .ref (ad 54), .int (I 7), .int (I 8), .ref (ad 34), .ref (ad 55), .ref (ad 35), .ref (ad 36), .long (J 1), .ref (ad 56), .ref (ad 57), .ref (ad 37), .ref (ad 38), .ref (ad 39), .ref (ad 58), .ref (ad 40)])) = mw y nn ad (va_up I 5 v) J A B := rfl
theorem ms_7_1 {y : Nat → ClassId} {nn : Nat} {ad : Nat → Nat} {I : Nat → Int32} {J : Nat → Int64} {A : Nat → Nat → Int32} {B : Nat → Nat → Int64} (v : Int32) : (mw y nn ad I J A B).set 7 (ad 7, .inr (8, [.int (I 5), .int v, .ref (ad 54), .int (I 7), .int (I 8), .ref (ad 34), .ref (ad 55), .ref (ad 35), .ref (ad 36), .long (J 1), .ref (ad 56), .ref (ad 57), .ref (ad 37), .ref (ad 38), .ref (ad 39), .ref (ad 58), .ref (ad 40)])) = mw y nn ad (va_up I 6 v) J A B := rfl
theorem ms_7_3 {y : Nat → ClassId} {nn : Nat} {ad : Nat → Nat} {I : Nat → Int32} {J : Nat → Int64} {A : Nat → Nat → Int32} {B : Nat → Nat → Int64} (v : Int32) : (mw y nn ad I J A B).set 7 (ad 7, .inr (8, [.int (I 5), .int (I 6), .ref (ad 54), .int v, .int (I 8), .ref (ad 34), .ref (ad 55), .ref (ad 35), .ref (ad 36), .long (J 1), .ref (ad 56), .ref (ad 57), .ref (ad 37), .ref (ad 38), .ref (ad 39), .ref (ad 58), .ref (ad 40)])) = mw y nn ad (va_up I 7 v) J A B := rfl
theorem ms_7_4 {y : Nat → ClassId} {nn : Nat} {ad : Nat → Nat} {I : Nat → Int32} {J : Nat → Int64} {A : Nat → Nat → Int32} {B : Nat → Nat → Int64} (v : Int32) : (mw y nn ad I J A B).set 7 (ad 7, .inr (8, [.int (I 5), .int (I 6), .ref (ad 54), .int (I 7), .int v, .ref (ad 34), .ref (ad 55), .ref (ad 35), .ref (ad 36), .long (J 1), .ref (ad 56), .ref (ad 57), .ref (ad 37), .ref (ad 38), .ref (ad 39), .ref (ad 58), .ref (ad 40)])) = mw y nn ad (va_up I 8 v) J A B := rfl
theorem ms_7_9 {y : Nat → ClassId} {nn : Nat} {ad : Nat → Nat} {I : Nat → Int32} {J : Nat → Int64} {A : Nat → Nat → Int32} {B : Nat → Nat → Int64} (v : Int64) : (mw y nn ad I J A B).set 7 (ad 7, .inr (8, [.int (I 5), .int (I 6), .ref (ad 54), .int (I 7), .int (I 8), .ref (ad 34), .ref (ad 55), .ref (ad 35), .ref (ad 36), .long v, .ref (ad 56), .ref (ad 57), .ref (ad 37), .ref (ad 38), .ref (ad 39), .ref (ad 58), .ref (ad 40)])) = mw y nn ad I (va_up J 1 v) A B := rfl
theorem mg_8 {y : Nat → ClassId} {nn : Nat} {ad : Nat → Nat} {I : Nat → Int32} {J : Nat → Int64} {A : Nat → Nat → Int32} {B : Nat → Nat → Int64} : (mw y nn ad I J A B)[8]? = some (ad 8, .inl (y 3, nn, .inr (.inr (.inr (.inr (mgo nn ad 100)))))) := rfl
theorem mg_9 {y : Nat → ClassId} {nn : Nat} {ad : Nat → Nat} {I : Nat → Int32} {J : Nat → Int64} {A : Nat → Nat → Int32} {B : Nat → Nat → Int64} : (mw y nn ad I J A B)[9]? = some (ad 9, .inl (y 3, nn, .inr (.inr (.inr (.inr (mgo nn ad 116)))))) := rfl
theorem mg_10 {y : Nat → ClassId} {nn : Nat} {ad : Nat → Nat} {I : Nat → Int32} {J : Nat → Int64} {A : Nat → Nat → Int32} {B : Nat → Nat → Int64} : (mw y nn ad I J A B)[10]? = some (ad 10, .inl (y 3, nn, .inr (.inr (.inr (.inr (mgo nn ad 132)))))) := rfl
theorem mg_11 {y : Nat → ClassId} {nn : Nat} {ad : Nat → Nat} {I : Nat → Int32} {J : Nat → Int64} {A : Nat → Nat → Int32} {B : Nat → Nat → Int64} : (mw y nn ad I J A B)[11]? = some (ad 11, .inl (y 3, nn, .inr (.inr (.inr (.inr (mgo nn ad 148)))))) := rfl
theorem mg_12 {y : Nat → ClassId} {nn : Nat} {ad : Nat → Nat} {I : Nat → Int32} {J : Nat → Int64} {A : Nat → Nat → Int32} {B : Nat → Nat → Int64} : (mw y nn ad I J A B)[12]? = some (ad 12, .inl (y 3, nn, .inr (.inr (.inr (.inr (mgo nn ad 164)))))) := rfl
theorem mg_20 {y : Nat → ClassId} {nn : Nat} {ad : Nat → Nat} {I : Nat → Int32} {J : Nat → Int64} {A : Nat → Nat → Int32} {B : Nat → Nat → Int64} : (mw y nn ad I J A B)[13]? = some (ad 20, .inl (y 0, nn, .inl (A 20))) := rfl
theorem ms_20 {y : Nat → ClassId} {nn : Nat} {ad : Nat → Nat} {I : Nat → Int32} {J : Nat → Int64} {A : Nat → Nat → Int32} {B : Nat → Nat → Int64} (f : Nat → Int32) : (mw y nn ad I J A B).set 13 (ad 20, .inl (y 0, nn, .inl f)) = mw y nn ad I J (va_up A 20 f) B := by
  rw [show mw y nn ad I J (va_up A 20 f) B = mo y nn ad I J (va_up A 20 f) B ++ mrw y nn ad (va_up A 20 f) from rfl, mrw_up (by decide)]
  rfl
theorem mg_21 {y : Nat → ClassId} {nn : Nat} {ad : Nat → Nat} {I : Nat → Int32} {J : Nat → Int64} {A : Nat → Nat → Int32} {B : Nat → Nat → Int64} : (mw y nn ad I J A B)[14]? = some (ad 21, .inl (y 0, nn, .inl (A 21))) := rfl
theorem ms_21 {y : Nat → ClassId} {nn : Nat} {ad : Nat → Nat} {I : Nat → Int32} {J : Nat → Int64} {A : Nat → Nat → Int32} {B : Nat → Nat → Int64} (f : Nat → Int32) : (mw y nn ad I J A B).set 14 (ad 21, .inl (y 0, nn, .inl f)) = mw y nn ad I J (va_up A 21 f) B := by
  rw [show mw y nn ad I J (va_up A 21 f) B = mo y nn ad I J (va_up A 21 f) B ++ mrw y nn ad (va_up A 21 f) from rfl, mrw_up (by decide)]
  rfl
theorem mg_22 {y : Nat → ClassId} {nn : Nat} {ad : Nat → Nat} {I : Nat → Int32} {J : Nat → Int64} {A : Nat → Nat → Int32} {B : Nat → Nat → Int64} : (mw y nn ad I J A B)[15]? = some (ad 22, .inl (y 0, nn, .inl (A 22))) := rfl
theorem ms_22 {y : Nat → ClassId} {nn : Nat} {ad : Nat → Nat} {I : Nat → Int32} {J : Nat → Int64} {A : Nat → Nat → Int32} {B : Nat → Nat → Int64} (f : Nat → Int32) : (mw y nn ad I J A B).set 15 (ad 22, .inl (y 0, nn, .inl f)) = mw y nn ad I J (va_up A 22 f) B := by
  rw [show mw y nn ad I J (va_up A 22 f) B = mo y nn ad I J (va_up A 22 f) B ++ mrw y nn ad (va_up A 22 f) from rfl, mrw_up (by decide)]
  rfl
theorem mg_23 {y : Nat → ClassId} {nn : Nat} {ad : Nat → Nat} {I : Nat → Int32} {J : Nat → Int64} {A : Nat → Nat → Int32} {B : Nat → Nat → Int64} : (mw y nn ad I J A B)[16]? = some (ad 23, .inl (y 0, (nn + 1), .inl (A 23))) := rfl
theorem ms_23 {y : Nat → ClassId} {nn : Nat} {ad : Nat → Nat} {I : Nat → Int32} {J : Nat → Int64} {A : Nat → Nat → Int32} {B : Nat → Nat → Int64} (f : Nat → Int32) : (mw y nn ad I J A B).set 16 (ad 23, .inl (y 0, (nn + 1), .inl f)) = mw y nn ad I J (va_up A 23 f) B := by
  rw [show mw y nn ad I J (va_up A 23 f) B = mo y nn ad I J (va_up A 23 f) B ++ mrw y nn ad (va_up A 23 f) from rfl, mrw_up (by decide)]
  rfl
theorem mg_24 {y : Nat → ClassId} {nn : Nat} {ad : Nat → Nat} {I : Nat → Int32} {J : Nat → Int64} {A : Nat → Nat → Int32} {B : Nat → Nat → Int64} : (mw y nn ad I J A B)[17]? = some (ad 24, .inl (y 0, (nn + 1), .inl (A 24))) := rfl
theorem ms_24 {y : Nat → ClassId} {nn : Nat} {ad : Nat → Nat} {I : Nat → Int32} {J : Nat → Int64} {A : Nat → Nat → Int32} {B : Nat → Nat → Int64} (f : Nat → Int32) : (mw y nn ad I J A B).set 17 (ad 24, .inl (y 0, (nn + 1), .inl f)) = mw y nn ad I J (va_up A 24 f) B := by
  rw [show mw y nn ad I J (va_up A 24 f) B = mo y nn ad I J (va_up A 24 f) B ++ mrw y nn ad (va_up A 24 f) from rfl, mrw_up (by decide)]
  rfl
theorem mg_25 {y : Nat → ClassId} {nn : Nat} {ad : Nat → Nat} {I : Nat → Int32} {J : Nat → Int64} {A : Nat → Nat → Int32} {B : Nat → Nat → Int64} : (mw y nn ad I J A B)[18]? = some (ad 25, .inl (y 2, (nn + 1), .inl (A 25))) := rfl
theorem ms_25 {y : Nat → ClassId} {nn : Nat} {ad : Nat → Nat} {I : Nat → Int32} {J : Nat → Int64} {A : Nat → Nat → Int32} {B : Nat → Nat → Int64} (f : Nat → Int32) : (mw y nn ad I J A B).set 18 (ad 25, .inl (y 2, (nn + 1), .inl f)) = mw y nn ad I J (va_up A 25 f) B := by
  rw [show mw y nn ad I J (va_up A 25 f) B = mo y nn ad I J (va_up A 25 f) B ++ mrw y nn ad (va_up A 25 f) from rfl, mrw_up (by decide)]
  rfl
theorem mg_26 {y : Nat → ClassId} {nn : Nat} {ad : Nat → Nat} {I : Nat → Int32} {J : Nat → Int64} {A : Nat → Nat → Int32} {B : Nat → Nat → Int64} : (mw y nn ad I J A B)[19]? = some (ad 26, .inl (y 0, nn, .inl (A 26))) := rfl
theorem ms_26 {y : Nat → ClassId} {nn : Nat} {ad : Nat → Nat} {I : Nat → Int32} {J : Nat → Int64} {A : Nat → Nat → Int32} {B : Nat → Nat → Int64} (f : Nat → Int32) : (mw y nn ad I J A B).set 19 (ad 26, .inl (y 0, nn, .inl f)) = mw y nn ad I J (va_up A 26 f) B := by
  rw [show mw y nn ad I J (va_up A 26 f) B = mo y nn ad I J (va_up A 26 f) B ++ mrw y nn ad (va_up A 26 f) from rfl, mrw_up (by decide)]
  rfl
theorem mg_27 {y : Nat → ClassId} {nn : Nat} {ad : Nat → Nat} {I : Nat → Int32} {J : Nat → Int64} {A : Nat → Nat → Int32} {B : Nat → Nat → Int64} : (mw y nn ad I J A B)[20]? = some (ad 27, .inl (y 0, nn, .inl (A 27))) := rfl
theorem ms_27 {y : Nat → ClassId} {nn : Nat} {ad : Nat → Nat} {I : Nat → Int32} {J : Nat → Int64} {A : Nat → Nat → Int32} {B : Nat → Nat → Int64} (f : Nat → Int32) : (mw y nn ad I J A B).set 20 (ad 27, .inl (y 0, nn, .inl f)) = mw y nn ad I J (va_up A 27 f) B := by
  rw [show mw y nn ad I J (va_up A 27 f) B = mo y nn ad I J (va_up A 27 f) B ++ mrw y nn ad (va_up A 27 f) from rfl, mrw_up (by decide)]
  rfl
theorem mg_28 {y : Nat → ClassId} {nn : Nat} {ad : Nat → Nat} {I : Nat → Int32} {J : Nat → Int64} {A : Nat → Nat → Int32} {B : Nat → Nat → Int64} : (mw y nn ad I J A B)[21]? = some (ad 28, .inl (y 0, nn, .inl (A 28))) := rfl
theorem ms_28 {y : Nat → ClassId} {nn : Nat} {ad : Nat → Nat} {I : Nat → Int32} {J : Nat → Int64} {A : Nat → Nat → Int32} {B : Nat → Nat → Int64} (f : Nat → Int32) : (mw y nn ad I J A B).set 21 (ad 28, .inl (y 0, nn, .inl f)) = mw y nn ad I J (va_up A 28 f) B := by
  rw [show mw y nn ad I J (va_up A 28 f) B = mo y nn ad I J (va_up A 28 f) B ++ mrw y nn ad (va_up A 28 f) from rfl, mrw_up (by decide)]
  rfl
theorem mg_29 {y : Nat → ClassId} {nn : Nat} {ad : Nat → Nat} {I : Nat → Int32} {J : Nat → Int64} {A : Nat → Nat → Int32} {B : Nat → Nat → Int64} : (mw y nn ad I J A B)[22]? = some (ad 29, .inl (y 0, (2 ^ (nn - 1)), .inl (A 29))) := rfl
theorem ms_29 {y : Nat → ClassId} {nn : Nat} {ad : Nat → Nat} {I : Nat → Int32} {J : Nat → Int64} {A : Nat → Nat → Int32} {B : Nat → Nat → Int64} (f : Nat → Int32) : (mw y nn ad I J A B).set 22 (ad 29, .inl (y 0, (2 ^ (nn - 1)), .inl f)) = mw y nn ad I J (va_up A 29 f) B := by
  rw [show mw y nn ad I J (va_up A 29 f) B = mo y nn ad I J (va_up A 29 f) B ++ mrw y nn ad (va_up A 29 f) from rfl, mrw_up (by decide)]
  rfl
theorem mg_30 {y : Nat → ClassId} {nn : Nat} {ad : Nat → Nat} {I : Nat → Int32} {J : Nat → Int64} {A : Nat → Nat → Int32} {B : Nat → Nat → Int64} : (mw y nn ad I J A B)[23]? = some (ad 30, .inl (y 0, nn, .inl (A 30))) := rfl
theorem ms_30 {y : Nat → ClassId} {nn : Nat} {ad : Nat → Nat} {I : Nat → Int32} {J : Nat → Int64} {A : Nat → Nat → Int32} {B : Nat → Nat → Int64} (f : Nat → Int32) : (mw y nn ad I J A B).set 23 (ad 30, .inl (y 0, nn, .inl f)) = mw y nn ad I J (va_up A 30 f) B := by
  rw [show mw y nn ad I J (va_up A 30 f) B = mo y nn ad I J (va_up A 30 f) B ++ mrw y nn ad (va_up A 30 f) from rfl, mrw_up (by decide)]
  rfl
theorem mg_31 {y : Nat → ClassId} {nn : Nat} {ad : Nat → Nat} {I : Nat → Int32} {J : Nat → Int64} {A : Nat → Nat → Int32} {B : Nat → Nat → Int64} : (mw y nn ad I J A B)[24]? = some (ad 31, .inl (y 0, nn, .inl (A 31))) := rfl
theorem ms_31 {y : Nat → ClassId} {nn : Nat} {ad : Nat → Nat} {I : Nat → Int32} {J : Nat → Int64} {A : Nat → Nat → Int32} {B : Nat → Nat → Int64} (f : Nat → Int32) : (mw y nn ad I J A B).set 24 (ad 31, .inl (y 0, nn, .inl f)) = mw y nn ad I J (va_up A 31 f) B := by
  rw [show mw y nn ad I J (va_up A 31 f) B = mo y nn ad I J (va_up A 31 f) B ++ mrw y nn ad (va_up A 31 f) from rfl, mrw_up (by decide)]
  rfl
theorem mg_32 {y : Nat → ClassId} {nn : Nat} {ad : Nat → Nat} {I : Nat → Int32} {J : Nat → Int64} {A : Nat → Nat → Int32} {B : Nat → Nat → Int64} : (mw y nn ad I J A B)[25]? = some (ad 32, .inl (y 0, nn, .inl (A 32))) := rfl
theorem ms_32 {y : Nat → ClassId} {nn : Nat} {ad : Nat → Nat} {I : Nat → Int32} {J : Nat → Int64} {A : Nat → Nat → Int32} {B : Nat → Nat → Int64} (f : Nat → Int32) : (mw y nn ad I J A B).set 25 (ad 32, .inl (y 0, nn, .inl f)) = mw y nn ad I J (va_up A 32 f) B := by
  rw [show mw y nn ad I J (va_up A 32 f) B = mo y nn ad I J (va_up A 32 f) B ++ mrw y nn ad (va_up A 32 f) from rfl, mrw_up (by decide)]
  rfl
theorem mg_33 {y : Nat → ClassId} {nn : Nat} {ad : Nat → Nat} {I : Nat → Int32} {J : Nat → Int64} {A : Nat → Nat → Int32} {B : Nat → Nat → Int64} : (mw y nn ad I J A B)[26]? = some (ad 33, .inl (y 0, nn, .inl (A 33))) := rfl
theorem ms_33 {y : Nat → ClassId} {nn : Nat} {ad : Nat → Nat} {I : Nat → Int32} {J : Nat → Int64} {A : Nat → Nat → Int32} {B : Nat → Nat → Int64} (f : Nat → Int32) : (mw y nn ad I J A B).set 26 (ad 33, .inl (y 0, nn, .inl f)) = mw y nn ad I J (va_up A 33 f) B := by
  rw [show mw y nn ad I J (va_up A 33 f) B = mo y nn ad I J (va_up A 33 f) B ++ mrw y nn ad (va_up A 33 f) from rfl, mrw_up (by decide)]
  rfl
theorem mg_34 {y : Nat → ClassId} {nn : Nat} {ad : Nat → Nat} {I : Nat → Int32} {J : Nat → Int64} {A : Nat → Nat → Int32} {B : Nat → Nat → Int64} : (mw y nn ad I J A B)[27]? = some (ad 34, .inl (y 0, 12, .inl (A 34))) := rfl
theorem ms_34 {y : Nat → ClassId} {nn : Nat} {ad : Nat → Nat} {I : Nat → Int32} {J : Nat → Int64} {A : Nat → Nat → Int32} {B : Nat → Nat → Int64} (f : Nat → Int32) : (mw y nn ad I J A B).set 27 (ad 34, .inl (y 0, 12, .inl f)) = mw y nn ad I J (va_up A 34 f) B := by
  rw [show mw y nn ad I J (va_up A 34 f) B = mo y nn ad I J (va_up A 34 f) B ++ mrw y nn ad (va_up A 34 f) from rfl, mrw_up (by decide)]
  rfl
theorem mg_35 {y : Nat → ClassId} {nn : Nat} {ad : Nat → Nat} {I : Nat → Int32} {J : Nat → Int64} {A : Nat → Nat → Int32} {B : Nat → Nat → Int64} : (mw y nn ad I J A B)[28]? = some (ad 35, .inl (y 0, 12, .inl (A 35))) := rfl
theorem ms_35 {y : Nat → ClassId} {nn : Nat} {ad : Nat → Nat} {I : Nat → Int32} {J : Nat → Int64} {A : Nat → Nat → Int32} {B : Nat → Nat → Int64} (f : Nat → Int32) : (mw y nn ad I J A B).set 28 (ad 35, .inl (y 0, 12, .inl f)) = mw y nn ad I J (va_up A 35 f) B := by
  rw [show mw y nn ad I J (va_up A 35 f) B = mo y nn ad I J (va_up A 35 f) B ++ mrw y nn ad (va_up A 35 f) from rfl, mrw_up (by decide)]
  rfl
theorem mg_36 {y : Nat → ClassId} {nn : Nat} {ad : Nat → Nat} {I : Nat → Int32} {J : Nat → Int64} {A : Nat → Nat → Int32} {B : Nat → Nat → Int64} : (mw y nn ad I J A B)[29]? = some (ad 36, .inl (y 2, 12, .inl (A 36))) := rfl
theorem ms_36 {y : Nat → ClassId} {nn : Nat} {ad : Nat → Nat} {I : Nat → Int32} {J : Nat → Int64} {A : Nat → Nat → Int32} {B : Nat → Nat → Int64} (f : Nat → Int32) : (mw y nn ad I J A B).set 29 (ad 36, .inl (y 2, 12, .inl f)) = mw y nn ad I J (va_up A 36 f) B := by
  rw [show mw y nn ad I J (va_up A 36 f) B = mo y nn ad I J (va_up A 36 f) B ++ mrw y nn ad (va_up A 36 f) from rfl, mrw_up (by decide)]
  rfl
theorem mg_37 {y : Nat → ClassId} {nn : Nat} {ad : Nat → Nat} {I : Nat → Int32} {J : Nat → Int64} {A : Nat → Nat → Int32} {B : Nat → Nat → Int64} : (mw y nn ad I J A B)[30]? = some (ad 37, .inl (y 0, 144, .inl (A 37))) := rfl
theorem ms_37 {y : Nat → ClassId} {nn : Nat} {ad : Nat → Nat} {I : Nat → Int32} {J : Nat → Int64} {A : Nat → Nat → Int32} {B : Nat → Nat → Int64} (f : Nat → Int32) : (mw y nn ad I J A B).set 30 (ad 37, .inl (y 0, 144, .inl f)) = mw y nn ad I J (va_up A 37 f) B := by
  rw [show mw y nn ad I J (va_up A 37 f) B = mo y nn ad I J (va_up A 37 f) B ++ mrw y nn ad (va_up A 37 f) from rfl, mrw_up (by decide)]
  rfl
theorem mg_38 {y : Nat → ClassId} {nn : Nat} {ad : Nat → Nat} {I : Nat → Int32} {J : Nat → Int64} {A : Nat → Nat → Int32} {B : Nat → Nat → Int64} : (mw y nn ad I J A B)[31]? = some (ad 38, .inl (y 0, 12, .inl (A 38))) := rfl
theorem ms_38 {y : Nat → ClassId} {nn : Nat} {ad : Nat → Nat} {I : Nat → Int32} {J : Nat → Int64} {A : Nat → Nat → Int32} {B : Nat → Nat → Int64} (f : Nat → Int32) : (mw y nn ad I J A B).set 31 (ad 38, .inl (y 0, 12, .inl f)) = mw y nn ad I J (va_up A 38 f) B := by
  rw [show mw y nn ad I J (va_up A 38 f) B = mo y nn ad I J (va_up A 38 f) B ++ mrw y nn ad (va_up A 38 f) from rfl, mrw_up (by decide)]
  rfl
theorem mg_39 {y : Nat → ClassId} {nn : Nat} {ad : Nat → Nat} {I : Nat → Int32} {J : Nat → Int64} {A : Nat → Nat → Int32} {B : Nat → Nat → Int64} : (mw y nn ad I J A B)[32]? = some (ad 39, .inl (y 0, 12, .inl (A 39))) := rfl
theorem ms_39 {y : Nat → ClassId} {nn : Nat} {ad : Nat → Nat} {I : Nat → Int32} {J : Nat → Int64} {A : Nat → Nat → Int32} {B : Nat → Nat → Int64} (f : Nat → Int32) : (mw y nn ad I J A B).set 32 (ad 39, .inl (y 0, 12, .inl f)) = mw y nn ad I J (va_up A 39 f) B := by
  rw [show mw y nn ad I J (va_up A 39 f) B = mo y nn ad I J (va_up A 39 f) B ++ mrw y nn ad (va_up A 39 f) from rfl, mrw_up (by decide)]
  rfl
theorem mg_40 {y : Nat → ClassId} {nn : Nat} {ad : Nat → Nat} {I : Nat → Int32} {J : Nat → Int64} {A : Nat → Nat → Int32} {B : Nat → Nat → Int64} : (mw y nn ad I J A B)[33]? = some (ad 40, .inl (y 0, 24, .inl (A 40))) := rfl
theorem ms_40 {y : Nat → ClassId} {nn : Nat} {ad : Nat → Nat} {I : Nat → Int32} {J : Nat → Int64} {A : Nat → Nat → Int32} {B : Nat → Nat → Int64} (f : Nat → Int32) : (mw y nn ad I J A B).set 33 (ad 40, .inl (y 0, 24, .inl f)) = mw y nn ad I J (va_up A 40 f) B := by
  rw [show mw y nn ad I J (va_up A 40 f) B = mo y nn ad I J (va_up A 40 f) B ++ mrw y nn ad (va_up A 40 f) from rfl, mrw_up (by decide)]
  rfl
theorem mg_50 {y : Nat → ClassId} {nn : Nat} {ad : Nat → Nat} {I : Nat → Int32} {J : Nat → Int64} {A : Nat → Nat → Int32} {B : Nat → Nat → Int64} : (mw y nn ad I J A B)[34]? = some (ad 50, .inl (y 1, (nn + 1), .inr (.inl (B 50)))) := rfl
theorem ms_50 {y : Nat → ClassId} {nn : Nat} {ad : Nat → Nat} {I : Nat → Int32} {J : Nat → Int64} {A : Nat → Nat → Int32} {B : Nat → Nat → Int64} (f : Nat → Int64) : (mw y nn ad I J A B).set 34 (ad 50, .inl (y 1, (nn + 1), .inr (.inl f))) = mw y nn ad I J A (va_up B 50 f) := rfl
theorem mg_51 {y : Nat → ClassId} {nn : Nat} {ad : Nat → Nat} {I : Nat → Int32} {J : Nat → Int64} {A : Nat → Nat → Int32} {B : Nat → Nat → Int64} : (mw y nn ad I J A B)[35]? = some (ad 51, .inl (y 1, (nn + 1), .inr (.inl (B 51)))) := rfl
theorem ms_51 {y : Nat → ClassId} {nn : Nat} {ad : Nat → Nat} {I : Nat → Int32} {J : Nat → Int64} {A : Nat → Nat → Int32} {B : Nat → Nat → Int64} (f : Nat → Int64) : (mw y nn ad I J A B).set 35 (ad 51, .inl (y 1, (nn + 1), .inr (.inl f))) = mw y nn ad I J A (va_up B 51 f) := rfl
theorem mg_52 {y : Nat → ClassId} {nn : Nat} {ad : Nat → Nat} {I : Nat → Int32} {J : Nat → Int64} {A : Nat → Nat → Int32} {B : Nat → Nat → Int64} : (mw y nn ad I J A B)[36]? = some (ad 52, .inl (y 1, (nn + 1), .inr (.inl (B 52)))) := rfl
theorem ms_52 {y : Nat → ClassId} {nn : Nat} {ad : Nat → Nat} {I : Nat → Int32} {J : Nat → Int64} {A : Nat → Nat → Int32} {B : Nat → Nat → Int64} (f : Nat → Int64) : (mw y nn ad I J A B).set 36 (ad 52, .inl (y 1, (nn + 1), .inr (.inl f))) = mw y nn ad I J A (va_up B 52 f) := rfl
theorem mg_53 {y : Nat → ClassId} {nn : Nat} {ad : Nat → Nat} {I : Nat → Int32} {J : Nat → Int64} {A : Nat → Nat → Int32} {B : Nat → Nat → Int64} : (mw y nn ad I J A B)[37]? = some (ad 53, .inl (y 1, nn, .inr (.inl (B 53)))) := rfl
theorem ms_53 {y : Nat → ClassId} {nn : Nat} {ad : Nat → Nat} {I : Nat → Int32} {J : Nat → Int64} {A : Nat → Nat → Int32} {B : Nat → Nat → Int64} (f : Nat → Int64) : (mw y nn ad I J A B).set 37 (ad 53, .inl (y 1, nn, .inr (.inl f))) = mw y nn ad I J A (va_up B 53 f) := rfl
theorem mg_54 {y : Nat → ClassId} {nn : Nat} {ad : Nat → Nat} {I : Nat → Int32} {J : Nat → Int64} {A : Nat → Nat → Int32} {B : Nat → Nat → Int64} : (mw y nn ad I J A B)[38]? = some (ad 54, .inl (y 1, 144, .inr (.inl (B 54)))) := rfl
theorem ms_54 {y : Nat → ClassId} {nn : Nat} {ad : Nat → Nat} {I : Nat → Int32} {J : Nat → Int64} {A : Nat → Nat → Int32} {B : Nat → Nat → Int64} (f : Nat → Int64) : (mw y nn ad I J A B).set 38 (ad 54, .inl (y 1, 144, .inr (.inl f))) = mw y nn ad I J A (va_up B 54 f) := rfl
theorem mg_55 {y : Nat → ClassId} {nn : Nat} {ad : Nat → Nat} {I : Nat → Int32} {J : Nat → Int64} {A : Nat → Nat → Int32} {B : Nat → Nat → Int64} : (mw y nn ad I J A B)[39]? = some (ad 55, .inl (y 1, 12, .inr (.inl (B 55)))) := rfl
theorem ms_55 {y : Nat → ClassId} {nn : Nat} {ad : Nat → Nat} {I : Nat → Int32} {J : Nat → Int64} {A : Nat → Nat → Int32} {B : Nat → Nat → Int64} (f : Nat → Int64) : (mw y nn ad I J A B).set 39 (ad 55, .inl (y 1, 12, .inr (.inl f))) = mw y nn ad I J A (va_up B 55 f) := rfl
theorem mg_56 {y : Nat → ClassId} {nn : Nat} {ad : Nat → Nat} {I : Nat → Int32} {J : Nat → Int64} {A : Nat → Nat → Int32} {B : Nat → Nat → Int64} : (mw y nn ad I J A B)[40]? = some (ad 56, .inl (y 1, 4096, .inr (.inl (B 56)))) := rfl
theorem ms_56 {y : Nat → ClassId} {nn : Nat} {ad : Nat → Nat} {I : Nat → Int32} {J : Nat → Int64} {A : Nat → Nat → Int32} {B : Nat → Nat → Int64} (f : Nat → Int64) : (mw y nn ad I J A B).set 40 (ad 56, .inl (y 1, 4096, .inr (.inl f))) = mw y nn ad I J A (va_up B 56 f) := rfl
theorem mg_57 {y : Nat → ClassId} {nn : Nat} {ad : Nat → Nat} {I : Nat → Int32} {J : Nat → Int64} {A : Nat → Nat → Int32} {B : Nat → Nat → Int64} : (mw y nn ad I J A B)[41]? = some (ad 57, .inl (y 1, 144, .inr (.inl (B 57)))) := rfl
theorem ms_57 {y : Nat → ClassId} {nn : Nat} {ad : Nat → Nat} {I : Nat → Int32} {J : Nat → Int64} {A : Nat → Nat → Int32} {B : Nat → Nat → Int64} (f : Nat → Int64) : (mw y nn ad I J A B).set 41 (ad 57, .inl (y 1, 144, .inr (.inl f))) = mw y nn ad I J A (va_up B 57 f) := rfl
theorem mg_58 {y : Nat → ClassId} {nn : Nat} {ad : Nat → Nat} {I : Nat → Int32} {J : Nat → Int64} {A : Nat → Nat → Int32} {B : Nat → Nat → Int64} : (mw y nn ad I J A B)[42]? = some (ad 58, .inl (y 1, 24, .inr (.inl (B 58)))) := rfl
theorem ms_58 {y : Nat → ClassId} {nn : Nat} {ad : Nat → Nat} {I : Nat → Int32} {J : Nat → Int64} {A : Nat → Nat → Int32} {B : Nat → Nat → Int64} (f : Nat → Int64) : (mw y nn ad I J A B).set 42 (ad 58, .inl (y 1, 24, .inr (.inl f))) = mw y nn ad I J A (va_up B 58 f) := rfl
theorem mg_59 {y : Nat → ClassId} {nn : Nat} {ad : Nat → Nat} {I : Nat → Int32} {J : Nat → Int64} {A : Nat → Nat → Int32} {B : Nat → Nat → Int64} : (mw y nn ad I J A B)[43]? = some (ad 59, .inl (y 1, 1, .inr (.inl (B 59)))) := rfl
theorem ms_59 {y : Nat → ClassId} {nn : Nat} {ad : Nat → Nat} {I : Nat → Int32} {J : Nat → Int64} {A : Nat → Nat → Int32} {B : Nat → Nat → Int64} (f : Nat → Int64) : (mw y nn ad I J A B).set 43 (ad 59, .inl (y 1, 1, .inr (.inl f))) = mw y nn ad I J A (va_up B 59 f) := rfl
theorem mo_len {y : Nat → ClassId} {nn : Nat} {ad : Nat → Nat} {I : Nat → Int32} {J : Nat → Int64} {A : Nat → Nat → Int32} {B : Nat → Nat → Int64} : (mo y nn ad I J A B).length = 44 := rfl
theorem mr_get {y : Nat → ClassId} {nn : Nat} {ad : Nat → Nat} {I : Nat → Int32} {J : Nat → Int64} {A : Nat → Nat → Int32} {B : Nat → Nat → Int64} {q : Nat} (h : q ∈ mri nn) : ∃ k : Nat, (mw y nn ad I J A B)[k]? = some (ad q, .inl (y 0, nn, .inl (A q))) := by
  obtain ⟨j, hj⟩ := List.mem_iff_getElem?.mp h
  refine ⟨44 + j, ?_⟩
  unfold mw
  rw [List.getElem?_append_right (by rw [mo_len]; omega), mo_len, show 44 + j - 44 = j by omega]
  unfold mrw
  rw [List.getElem?_map, hj]
  rfl
theorem mr_set {y : Nat → ClassId} {nn : Nat} {ad : Nat → Nat} {I : Nat → Int32} {J : Nat → Int64} {A : Nat → Nat → Int32} {B : Nat → Nat → Int64} {A0 : Nat → Prop} {q k : Nat} (h : q ∈ mri nn) (hD : va_D A0 (mw y nn ad I J A B)) (hk : (mw y nn ad I J A B)[k]? = some (ad q, .inl (y 0, nn, .inl (A q)))) (f : Nat → Int32) : (mw y nn ad I J A B).set k (ad q, .inl (y 0, nn, .inl f)) = mw y nn ad I J (va_up A q f) B := by
  have hq := mri_ge h
  obtain ⟨j, hj⟩ := List.mem_iff_getElem?.mp h
  have hat : (mw y nn ad I J A B)[44 + j]? = some (ad q, .inl (y 0, nn, .inl (A q))) := by
    unfold mw
    rw [List.getElem?_append_right (by rw [mo_len]; omega), mo_len, show 44 + j - 44 = j by omega]
    unfold mrw
    rw [List.getElem?_map, hj]
    rfl
  have hkj : k = 44 + j := hD.1 k (44 + j) _ _ hk hat rfl
  subst hkj
  have h0 : mw y nn ad I J (va_up A q f) B = mo y nn ad I J A B ++ mrw y nn ad (va_up A q f) := by
    show mo y nn ad I J (va_up A q f) B ++ _ = _
    congr 1
    unfold mo
    rw [va_up_ne A f (show 20 ≠ q by omega), va_up_ne A f (show 21 ≠ q by omega), va_up_ne A f (show 22 ≠ q by omega), va_up_ne A f (show 23 ≠ q by omega), va_up_ne A f (show 24 ≠ q by omega), va_up_ne A f (show 25 ≠ q by omega), va_up_ne A f (show 26 ≠ q by omega), va_up_ne A f (show 27 ≠ q by omega), va_up_ne A f (show 28 ≠ q by omega), va_up_ne A f (show 29 ≠ q by omega), va_up_ne A f (show 30 ≠ q by omega), va_up_ne A f (show 31 ≠ q by omega), va_up_ne A f (show 32 ≠ q by omega), va_up_ne A f (show 33 ≠ q by omega), va_up_ne A f (show 34 ≠ q by omega), va_up_ne A f (show 35 ≠ q by omega), va_up_ne A f (show 36 ≠ q by omega), va_up_ne A f (show 37 ≠ q by omega), va_up_ne A f (show 38 ≠ q by omega), va_up_ne A f (show 39 ≠ q by omega), va_up_ne A f (show 40 ≠ q by omega)]
  rw [h0]
  unfold mw
  rw [List.set_append_right _ _ (by rw [mo_len]; omega), mo_len, show 44 + j - 44 = j by omega]
  congr 1
  apply List.ext_getElem?
  intro t
  by_cases ht : j = t
  · subst ht
    have hlt : j < (mrw y nn ad A).length := by
      unfold mrw
      rw [List.length_map]
      exact (List.getElem?_eq_some_iff.mp hj).1
    rw [List.getElem?_set_self hlt]
    unfold mrw
    rw [List.getElem?_map, hj]
    show _ = some (ad q, Sum.inl (y 0, nn, Sum.inl (va_up A q f q)))
    rw [va_up_self]
  · rw [List.getElem?_set_ne ht]
    unfold mrw
    rw [List.getElem?_map, List.getElem?_map]
    cases hr : (mri nn)[t]? with
    | none => rfl
    | some r =>
      have hne : r ≠ q := by
        intro e
        subst e
        have hat2 : (mw y nn ad I J A B)[44 + t]? = some (ad r, .inl (y 0, nn, .inl (A r))) := by
          unfold mw
          rw [List.getElem?_append_right (by rw [mo_len]; omega), mo_len, show 44 + t - 44 = t by omega]
          unfold mrw
          rw [List.getElem?_map, hr]
          rfl
        have := hD.1 (44 + j) (44 + t) _ _ hat hat2 rfl
        omega
      show some (ad r, Sum.inl (y 0, nn, Sum.inl (A r))) = some (ad r, Sum.inl (y 0, nn, Sum.inl (va_up A q f r)))
      rw [va_up_ne A f hne]
/-! ===== rows over the uniform memory ===== -/
def mtys (y : Nat → ClassId) : List (ClassId × FieldType) := [(y 0, .int), (y 1, .long), (y 2, .boolean), (y 3, .array .int)]
/-- what holds all through a method's walk -/
def Fx (p : Program) (s : State) (m : MethodId) (args : Array Value) (meth : Method) (c : Code) (cc : ByteArray) (nL : Nat) (Ts : List Cond) (own : String) (D : va_G) (y : Nat → ClassId) (A0 : Nat → Prop) : Prop :=
  CallFix p m c cc nL s args Ts own ∧ va_K D vwCl (mtys y) s ∧ mNst s ∧ (∀ q, s.heap.size ≤ q → A0 q) ∧ meth.locks = false
/-- the heap holds the memory -/
def MM (D : va_G) (y : Nat → ClassId) (nn : Nat) (ad : Nat → Nat) (A0 : Nat → Prop) (H0 : Heap) (I : Nat → Int32) (J : Nat → Int64) (A : Nat → Nat → Int32) (B : Nat → Nat → Int64) (H : Heap) (locs : List Loc) : Prop :=
  va_P D vwCl (mw y nn ad I J A B) H ∧ va_D A0 (mw y nn ad I J A B) ∧ va_S A0 H0 H locs
abbrev mSt : Type := (Nat → Int32) × (Nat → Int64) × (Nat → Nat → Int32) × (Nat → Nat → Int64)
def mPc (av : List Value) (D : va_G) (y : Nat → ClassId) (nn : Nat) (ad : Nat → Nat) (sz : Nat) (I : Nat → Int32) (J : Nat → Int64) (A : Nat → Nat → Int32) (B : Nat → Nat → Int64) : Array Value → State → Prop :=
  va_Pc av (fun U => U.heap.size = sz ∧ va_P D vwCl (mw y nn ad I J A B) U.heap ∧ va_K D vwCl (mtys y) U ∧ va_D (fun _ => True) (mw y nn ad I J A B) ∧ mNst U)
def mB (D : va_G) (y : Nat → ClassId) (nn : Nat) (ad : Nat → Nat) (A0 : Nat → Prop) (u : mSt) (t : State) : Prop :=
  va_P D vwCl (mw y nn ad u.1 u.2.1 u.2.2.1 u.2.2.2) t.heap ∧ va_K D vwCl (mtys y) t ∧ va_D A0 (mw y nn ad u.1 u.2.1 u.2.2.1 u.2.2.2)
/-- the cells that a method may change -/
def mA (y : Nat → ClassId) (nn : Nat) (ad : Nat → Nat) (I : Nat → Int32) (J : Nat → Int64) (A : Nat → Nat → Int32) (B : Nat → Nat → Int64) (sz : Nat) : Nat → Prop := va_A (mw y nn ad I J A B) sz
def mQi (D : va_G) (y : Nat → ClassId) (nn : Nat) (ad : Nat → Nat) (A0 : Nat → Prop) (r0 : Int32) (u0 : mSt) : Array Value → State → Outcome → State → Prop := va_Qi (fun r u => r = r0 ∧ u = u0) (mB D y nn ad A0) A0
def mQl (D : va_G) (y : Nat → ClassId) (nn : Nat) (ad : Nat → Nat) (A0 : Nat → Prop) (r0 : Int64) (u0 : mSt) : Array Value → State → Outcome → State → Prop := va_Ql (fun r u => r = r0 ∧ u = u0) (mB D y nn ad A0) A0
def mQv (D : va_G) (y : Nat → ClassId) (nn : Nat) (ad : Nat → Nat) (A0 : Nat → Prop) (u0 : mSt) : Array Value → State → Outcome → State → Prop := va_Qv (fun u => u = u0) (mB D y nn ad A0) A0
theorem mPc_blind {av : List Value} {D : va_G} {y : Nat → ClassId} {nn : Nat} {ad : Nat → Nat} {sz : Nat} {I : Nat → Int32} {J : Nat → Int64} {A : Nat → Nat → Int32} {B : Nat → Nat → Int64} : FrameBlind (mPc av D y nn ad sz I J A B) := by
  intro a U g mk q
  obtain ⟨q0, q1, qP, qK, qD, qN⟩ := q
  exact ⟨q0, q1, qP, va_K.moved (u := U) (U := U.calling g mk a) (Vm.Alike.refl U.vm) qK, qD, mNst.same (u := U) (U := U.calling g mk a) rfl qN⟩
/-! the pure side: a check of an index, of a divisor, a name, a call, a loop -/
def ck {ρ : Type} (i : Int32) (n : Nat) (k : Option ρ) : Option ρ := if i < 0 ∨ n ≤ i.toNatClampNeg then none else k
theorem ck_some {ρ : Type} {i : Int32} {n : Nat} {k : Option ρ} {r : ρ} (h : ck i n k = some r) : vp_in i n ∧ k = some r := by
  unfold ck at h
  by_cases q : i < 0 ∨ n ≤ i.toNatClampNeg
  · rw [if_pos q] at h; cases h
  · rw [if_neg q] at h; exact ⟨q, h⟩
def dv {ρ : Type} (x : Int32) (k : Option ρ) : Option ρ := if x = 0 then none else k
theorem dv_some {ρ : Type} {x : Int32} {k : Option ρ} {r : ρ} (h : dv x k = some r) : ¬ x = 0 ∧ k = some r := by
  unfold dv at h
  by_cases q : x = 0
  · rw [if_pos q] at h; cases h
  · rw [if_neg q] at h; exact ⟨q, h⟩
def dvl {ρ : Type} (x : Int64) (k : Option ρ) : Option ρ := if x = 0 then none else k
theorem dvl_some {ρ : Type} {x : Int64} {k : Option ρ} {r : ρ} (h : dvl x k = some r) : ¬ x = 0 ∧ k = some r := by
  unfold dvl at h
  by_cases q : x = 0
  · rw [if_pos q] at h; cases h
  · rw [if_neg q] at h; exact ⟨q, h⟩
def nmd {α ρ : Type} (e : α) (k : α → Option ρ) : Option ρ := k e
theorem nmd_some {α ρ : Type} {e : α} {k : α → Option ρ} {r : ρ} (h : nmd e k = some r) : ∃ x, x = e ∧ k x = some r := ⟨e, rfl, h⟩
def bd {α ρ : Type} (o : Option α) (k : α → Option ρ) : Option ρ := match o with
  | none => none
  | some x => k x
theorem bd_some {α ρ : Type} {o : Option α} {k : α → Option ρ} {r : ρ} (h : bd o k = some r) : ∃ x, o = some x ∧ k x = some r := by
  cases o with
  | none => cases h
  | some x => exact ⟨x, rfl, h⟩
/-- a grid (rows b .. b + 15 of A) as a function, and A with a grid laid over it -/
def mgv (A : Nat → Nat → Int32) (b : Nat) : Nat → Nat → Int32 := fun i => A (b + i)
def mgr (A : Nat → Nat → Int32) (b : Nat) (M : Nat → Nat → Int32) : Nat → Nat → Int32 := fun q => if b ≤ q ∧ q < b + 16 then M (q - b) else A q
theorem mgr_at {A : Nat → Nat → Int32} {b : Nat} {M : Nat → Nat → Int32} {i : Nat} (h : i < 16) : mgr A b M (b + i) = M i := by
  unfold mgr
  rw [if_pos ⟨by omega, by omega⟩, show b + i - b = i by omega]
theorem mgr_out {A : Nat → Nat → Int32} {b : Nat} {M : Nat → Nat → Int32} {q : Nat} (h : q < b ∨ b + 16 ≤ q) : mgr A b M q = A q := by
  unfold mgr
  rw [if_neg (by omega)]
theorem mgr_id {A : Nat → Nat → Int32} {b : Nat} : mgr A b (mgv A b) = A := by
  funext q
  by_cases h : b ≤ q ∧ q < b + 16
  · unfold mgr
    rw [if_pos h]
    show A (b + (q - b)) = A q
    rw [show b + (q - b) = q by omega]
  · unfold mgr
    rw [if_neg h]
theorem mgr_up {A : Nat → Nat → Int32} {b : Nat} {M : Nat → Nat → Int32} {i : Nat} (h : i < 16) (f : Nat → Int32) : va_up (mgr A b M) (b + i) f = mgr A b (va_up M i f) := by
  funext q
  by_cases e : q = b + i
  · subst e
    rw [va_up_self, mgr_at h, va_up_self]
  · rw [va_up_ne _ _ e]
    by_cases h2 : b ≤ q ∧ q < b + 16
    · unfold mgr
      rw [if_pos h2, if_pos h2, va_up_ne _ _ (by omega)]
    · unfold mgr
      rw [if_neg h2, if_neg h2]
theorem up_id {α : Type} {f : Nat → α} {k : Nat} : va_up f k (f k) = f := by
  funext q
  by_cases e : q = k
  · subst e; rw [va_up_self]
  · rw [va_up_ne _ _ e]
theorem vp_lt {i : Int32} {n : Nat} (h : vp_in i n) : i.toNatClampNeg < n := Nat.not_le.mp fun q => h (Or.inr q)
section MR
variable {p : Program} {l : Launch} {e : Env} {R : Room} {s : State} {m : MethodId} {args : Array Value} {below : List Frame} {meth : Method} {c : Code} {H : Heap} {locs : List Loc} {cells slots : Nat} {Q : State → Prop} {cc : ByteArray} {nL : Nat} {Ts : List Cond} {own : String} {D : va_G} {y : Nat → ClassId} {nn : Nat} {ad : Nat → Nat} {A0 : Nat → Prop} {I : Nat → Int32} {J : Nat → Int64} {A : Nat → Nat → Int32} {B : Nat → Nat → Int64} {pc : Nat} {ls : Array Slot} {rest : List Value}
theorem m_get (F : Fx p s m args meth c cc nL Ts own D y A0) (hM : MM D y nn ad A0 s.heap I J A B H locs) {C : String} {T : u_T} {N ci index a : Nat} (q0 : Nat) {fs : List Value} (he : (mw y nn ad I J A B)[q0]? = some (a, .inr (ci, fs))) (hc : vwCl[ci]? = some (C, T, N)) (k : Nat) (hk : k < N) (hin : ∀ w ∈ u_ws C T N, w ∈ Ts) (hl : Cond.fieldLink own index (T k).1 (T k).2.1 (T k).2.2.1 ∈ Ts) {v : Value} (hv : fs[k]? = some v) (hdg : decode cc pc = .ok (.getfield index, 3))
    (kk : W p l e R s m args below meth c H locs cells slots Q (F0 m (pc + 3) ls (v :: rest))) : W p l e R s m args below meth c H locs cells slots Q (F0 m pc ls (.ref a :: rest)) :=
  va_get F.1.1 F.1.2.1 F.1.2.2.2.2 hin F.1.2.2.2.1 F.2.1 hM.1 q0 he hc k hk (F.1.2.2.2.2 _ hl) (fun _ h => h) hv hdg kk
theorem m_getN (F : Fx p s m args meth c cc nL Ts own D y A0) (hM : MM D y nn ad A0 s.heap I J A B H locs) {C : String} {T : u_T} {N ci index a : Nat} (q0 : Nat) {fs : List Value} (he : (mw y nn ad I J A B)[q0]? = some (a, .inr (ci, fs))) (hc : vwCl[ci]? = some (C, T, N)) (k : Nat) (hk : k < N) (hin : ∀ w ∈ u_ws C T N, w ∈ Ts) (hl : Cond.fieldLinkNest own index (T k).1 (T k).2.1 (T k).2.2.1 "RoundBounds" ∈ mst) {v : Value} (hv : fs[k]? = some v) (hdg : decode cc pc = .ok (.getfield index, 3))
    (kk : W p l e R s m args below meth c H locs cells slots Q (F0 m (pc + 3) ls (v :: rest))) : W p l e R s m args below meth c H locs cells slots Q (F0 m pc ls (.ref a :: rest)) :=
  va_getN F.1.1 F.1.2.1 F.1.2.2.2.2 hin F.1.2.2.2.1 F.2.1 hM.1 q0 he hc k hk (va_Nw.use (mst_tab _ hl) (F.2.2.1 _ hl)) (fun _ h => h) hv hdg kk
theorem m_put (F : Fx p s m args meth c cc nL Ts own D y A0) (hM : MM D y nn ad A0 s.heap I J A B H locs) {C : String} {T : u_T} {N ci index a : Nat} (q0 : Nat) {fs : List Value} (he : (mw y nn ad I J A B)[q0]? = some (a, .inr (ci, fs))) (hc : vwCl[ci]? = some (C, T, N)) (ty0 : Nat → FieldType) (hty : ∀ k, k < N → parseFieldDescriptor (T k).2.2.1 = some (ty0 k)) (hnm : ∀ a, a < N → ∀ b, b < N → a ≠ b → (T a).2.1 ≠ (T b).2.1) (k : Nat) (hk : k < N) (hin : ∀ w ∈ u_ws C T N, w ∈ Ts) (hl : Cond.fieldLink own index (T k).1 (T k).2.1 (T k).2.2.1 ∈ Ts) (hfin : (T k).2.2.2 = false) {ty : FieldType} {v : Value} (hd : parseFieldDescriptor (T k).2.2.1 = some ty) (hn : narrow ty v = v) (hfit : fits ty v = true) (hle : k < fs.length) {I' : Nat → Int32} {J' : Nat → Int64} (hs : (mw y nn ad I J A B).set q0 (a, .inr (ci, fs.set k v)) = mw y nn ad I' J' A B) (hdg : decode cc pc = .ok (.putfield index, 3))
    (kk : ∀ (H1 : Heap) (locs1 : List Loc), MM D y nn ad A0 s.heap I' J' A B H1 locs1 → W p l e R s m args below meth c H1 locs1 cells slots Q (F0 m (pc + 3) ls rest)) : W p l e R s m args below meth c H locs cells slots Q (F0 m pc ls (v :: .ref a :: rest)) :=
  va_put F.1.1 F.1.2.1 F.1.2.2.2.2 hin ty0 hty hnm F.1.2.2.2.1 F.2.1 hM.1 hM.2.1 hM.2.2 q0 he hc k hk (F.1.2.2.2.2 _ hl) (fun _ h => h) hfin hd hn hfit hle hdg (fun H1 locs1 hP hD hS => kk H1 locs1 ⟨hs ▸ hP, hs ▸ hD, hS⟩)
theorem m_iald (F : Fx p s m args meth c cc nL Ts own D y A0) (hM : MM D y nn ad A0 s.heap I J A B H locs) {k a n : Nat} {f g : Nat → Int32} (hq : (mw y nn ad I J A B)[k]? = some (a, .inl (y 0, n, .inl f))) (hf : f = g) {i : Int32} (hin : vp_in i n) (hdg : decode cc pc = .ok (.iaload, 1))
    (kk : W p l e R s m args below meth c H locs cells slots Q (F0 m (pc + 1) ls (.int (g i.toNatClampNeg) :: rest))) : W p l e R s m args below meth c H locs cells slots Q (F0 m pc ls (.int i :: .ref a :: rest)) :=
  va_iald F.1.1 F.1.2.1 F.2.1 hM.1 k 0 hq rfl hin hdg (hf ▸ kk)
theorem m_zald (F : Fx p s m args meth c cc nL Ts own D y A0) (hM : MM D y nn ad A0 s.heap I J A B H locs) {k a n : Nat} {f g : Nat → Int32} (hq : (mw y nn ad I J A B)[k]? = some (a, .inl (y 2, n, .inl f))) (hf : f = g) {i : Int32} (hin : vp_in i n) (hdg : decode cc pc = .ok (.baload, 1))
    (kk : W p l e R s m args below meth c H locs cells slots Q (F0 m (pc + 1) ls (.int (g i.toNatClampNeg) :: rest))) : W p l e R s m args below meth c H locs cells slots Q (F0 m pc ls (.int i :: .ref a :: rest)) :=
  va_zald F.1.1 F.1.2.1 F.2.1 hM.1 k 2 hq rfl hin hdg (hf ▸ kk)
theorem m_lald (F : Fx p s m args meth c cc nL Ts own D y A0) (hM : MM D y nn ad A0 s.heap I J A B H locs) {k a n : Nat} {f g : Nat → Int64} (hq : (mw y nn ad I J A B)[k]? = some (a, .inl (y 1, n, .inr (.inl f)))) (hf : f = g) {i : Int32} (hin : vp_in i n) (hdg : decode cc pc = .ok (.laload, 1))
    (kk : W p l e R s m args below meth c H locs cells slots Q (F0 m (pc + 1) ls (.long (g i.toNatClampNeg) :: rest))) : W p l e R s m args below meth c H locs cells slots Q (F0 m pc ls (.int i :: .ref a :: rest)) :=
  va_lald F.1.1 F.1.2.1 F.2.1 hM.1 k 1 hq rfl hin hdg (hf ▸ kk)
theorem m_aald (F : Fx p s m args meth c cc nL Ts own D y A0) (hM : MM D y nn ad A0 s.heap I J A B H locs) {k a b : Nat} (hq : (mw y nn ad I J A B)[k]? = some (a, .inl (y 3, nn, .inr (.inr (.inr (.inr (mgo nn ad b))))))) {i : Int32} (hin : vp_in i nn) (hdg : decode cc pc = .ok (.aaload, 1))
    (kk : W p l e R s m args below meth c H locs cells slots Q (F0 m (pc + 1) ls (.ref (ad (b + i.toNatClampNeg)) :: rest))) : W p l e R s m args below meth c H locs cells slots Q (F0 m pc ls (.int i :: .ref a :: rest)) := by
  have hlt : i.toNatClampNeg < nn := vp_lt hin
  have hv : va_rf (mgo nn ad b i.toNatClampNeg) = .ref (ad (b + i.toNatClampNeg)) := by
    unfold mgo
    rw [if_pos hlt]
    rfl
  exact W.aald (v := .ref (ad (b + i.toNatClampNeg))) (ty := .array .int) F.1.1 F.1.2.1 (hM.1 k _ hq) ((F.2.1.2 3 _ rfl).1 nn (fun j => va_rf (mgo nn ad b j))) rfl (fun q => by cases q) (by show ¬ (i < 0 ∨ (arrV _ _ _).slots.size ≤ _); rw [arrV_size]; exact hin) (by show (arrV _ _ _).slots[_]? = _; rw [arrV_read _ _ hlt, hv]) rfl rfl hdg kk
theorem m_rald (F : Fx p s m args meth c cc nL Ts own D y A0) (hM : MM D y nn ad A0 s.heap I J A B H locs) {b i0 : Nat} (hb : b = 100 ∨ b = 116 ∨ b = 132 ∨ b = 148 ∨ b = 164) (h0 : i0 < nn) {g : Nat → Int32} (hf : A (b + i0) = g) {i : Int32} (hin : vp_in i nn) (hdg : decode cc pc = .ok (.iaload, 1))
    (kk : W p l e R s m args below meth c H locs cells slots Q (F0 m (pc + 1) ls (.int (g i.toNatClampNeg) :: rest))) : W p l e R s m args below meth c H locs cells slots Q (F0 m pc ls (.int i :: .ref (ad (b + i0)) :: rest)) := by
  obtain ⟨k, hk⟩ := mr_get (y := y) (nn := nn) (ad := ad) (I := I) (J := J) (A := A) (B := B) (mri_in hb h0)
  exact m_iald F hM hk hf hin hdg kk
theorem m_iast (F : Fx p s m args meth c cc nL Ts own D y A0) (hM : MM D y nn ad A0 s.heap I J A B H locs) {k a n : Nat} {f : Nat → Int32} {A' : Nat → Nat → Int32} (hq : (mw y nn ad I J A B)[k]? = some (a, .inl (y 0, n, .inl f))) {i x : Int32} (hs : (mw y nn ad I J A B).set k (a, .inl (y 0, n, .inl (upd f i.toNatClampNeg x))) = mw y nn ad I J A' B) (hin : vp_in i n) (hdg : decode cc pc = .ok (.iastore, 1))
    (kk : ∀ (H1 : Heap) (locs1 : List Loc), MM D y nn ad A0 s.heap I J A' B H1 locs1 → W p l e R s m args below meth c H1 locs1 cells slots Q (F0 m (pc + 1) ls rest)) : W p l e R s m args below meth c H locs cells slots Q (F0 m pc ls (.int x :: .int i :: .ref a :: rest)) :=
  va_iast F.1.1 F.1.2.1 F.2.1 hM.1 hM.2.1 hM.2.2 k 0 hq rfl hin hdg (fun H1 locs1 hP hD hS => kk H1 locs1 ⟨hs ▸ hP, hs ▸ hD, hS⟩)
theorem m_zast (F : Fx p s m args meth c cc nL Ts own D y A0) (hM : MM D y nn ad A0 s.heap I J A B H locs) {k a n : Nat} {f : Nat → Int32} {A' : Nat → Nat → Int32} (hq : (mw y nn ad I J A B)[k]? = some (a, .inl (y 2, n, .inl f))) {i x : Int32} (hs : (mw y nn ad I J A B).set k (a, .inl (y 2, n, .inl (upd f i.toNatClampNeg (vp_nar .boolean x)))) = mw y nn ad I J A' B) (hin : vp_in i n) (hdg : decode cc pc = .ok (.bastore, 1))
    (kk : ∀ (H1 : Heap) (locs1 : List Loc), MM D y nn ad A0 s.heap I J A' B H1 locs1 → W p l e R s m args below meth c H1 locs1 cells slots Q (F0 m (pc + 1) ls rest)) : W p l e R s m args below meth c H locs cells slots Q (F0 m pc ls (.int x :: .int i :: .ref a :: rest)) :=
  va_zast F.1.1 F.1.2.1 F.2.1 hM.1 hM.2.1 hM.2.2 k 2 hq rfl hin hdg (fun H1 locs1 hP hD hS => kk H1 locs1 ⟨hs ▸ hP, hs ▸ hD, hS⟩)
theorem m_last (F : Fx p s m args meth c cc nL Ts own D y A0) (hM : MM D y nn ad A0 s.heap I J A B H locs) {k a n : Nat} {f : Nat → Int64} {B' : Nat → Nat → Int64} (hq : (mw y nn ad I J A B)[k]? = some (a, .inl (y 1, n, .inr (.inl f)))) {i : Int32} {x : Int64} (hs : (mw y nn ad I J A B).set k (a, .inl (y 1, n, .inr (.inl (vp_updL f i.toNatClampNeg x)))) = mw y nn ad I J A B') (hin : vp_in i n) (hdg : decode cc pc = .ok (.lastore, 1))
    (kk : ∀ (H1 : Heap) (locs1 : List Loc), MM D y nn ad A0 s.heap I J A B' H1 locs1 → W p l e R s m args below meth c H1 locs1 cells slots Q (F0 m (pc + 1) ls rest)) : W p l e R s m args below meth c H locs cells slots Q (F0 m pc ls (.long x :: .int i :: .ref a :: rest)) :=
  va_last F.1.1 F.1.2.1 F.2.1 hM.1 hM.2.1 hM.2.2 k 1 hq rfl hin hdg (fun H1 locs1 hP hD hS => kk H1 locs1 ⟨hs ▸ hP, hs ▸ hD, hS⟩)
theorem m_rast (F : Fx p s m args meth c cc nL Ts own D y A0) (hM : MM D y nn ad A0 s.heap I J A B H locs) {b i0 : Nat} (hb : b = 100 ∨ b = 116 ∨ b = 132 ∨ b = 148 ∨ b = 164) (h0 : i0 < nn) {A' : Nat → Nat → Int32} {i x : Int32} (hA : va_up A (b + i0) (upd (A (b + i0)) i.toNatClampNeg x) = A') (hin : vp_in i nn) (hdg : decode cc pc = .ok (.iastore, 1))
    (kk : ∀ (H1 : Heap) (locs1 : List Loc), MM D y nn ad A0 s.heap I J A' B H1 locs1 → W p l e R s m args below meth c H1 locs1 cells slots Q (F0 m (pc + 1) ls rest)) : W p l e R s m args below meth c H locs cells slots Q (F0 m pc ls (.int x :: .int i :: .ref (ad (b + i0)) :: rest)) := by
  have hm := mri_in hb h0
  obtain ⟨k, hk⟩ := mr_get (y := y) (nn := nn) (ad := ad) (I := I) (J := J) (A := A) (B := B) hm
  exact m_iast F hM hk (by rw [mr_set hm hM.2.1 hk, hA]) hin hdg kk
theorem m_alen (F : Fx p s m args meth c cc nL Ts own D y A0) (hM : MM D y nn ad A0 s.heap I J A B H locs) {k a n t : Nat} {x : Nat ⊕ Nat} {z : vp_A} {ty : FieldType} (hq : (mw y nn ad I J A B)[k]? = some (a, .inl (y t, z))) (ht : (mtys y)[t]? = some (y t, ty)) {v : Int32} (hv : Int32.ofNat z.1 = v) (hdg : decode cc pc = .ok (.arraylength, 1))
    (kk : W p l e R s m args below meth c H locs cells slots Q (F0 m (pc + 1) ls (.int v :: rest))) : W p l e R s m args below meth c H locs cells slots Q (F0 m pc ls (.ref a :: rest)) :=
  va_alen F.1.1 F.1.2.1 F.2.1 hM.1 k t hq ht hv hdg kk
/-! comparisons of longs, with the branch behind -/
theorem m_llt (F : Fx p s m args meth c cc nL Ts own D y A0) {a b : Int64} {off : Int} {tgt : Nat} (h1 : decode cc pc = .ok (.lcmp, 1)) (h2 : decode cc (pc + 1) = .ok (.ifCond .lt off, 3)) (ht : ((pc + 1 : Nat) : Int) + off = (tgt : Int)) (kt : a < b → W p l e R s m args below meth c H locs cells slots Q (F0 m tgt ls rest)) (kf : ¬ a < b → W p l e R s m args below meth c H locs cells slots Q (F0 m (pc + 1 + 3) ls rest)) : W p l e R s m args below meth c H locs cells slots Q (F0 m pc ls (.long b :: .long a :: rest)) :=
  W.lcmp F.1.1 F.1.2.1 h1 (lv_if_lt F.1.1 F.1.2.1 h2 ht (fun q => kt ((lg_cmp_lt a b).mp q)) (fun q => kf (fun z => q ((lg_cmp_lt a b).mpr z))))
theorem m_lge (F : Fx p s m args meth c cc nL Ts own D y A0) {a b : Int64} {off : Int} {tgt : Nat} (h1 : decode cc pc = .ok (.lcmp, 1)) (h2 : decode cc (pc + 1) = .ok (.ifCond .ge off, 3)) (ht : ((pc + 1 : Nat) : Int) + off = (tgt : Int)) (kt : b ≤ a → W p l e R s m args below meth c H locs cells slots Q (F0 m tgt ls rest)) (kf : ¬ b ≤ a → W p l e R s m args below meth c H locs cells slots Q (F0 m (pc + 1 + 3) ls rest)) : W p l e R s m args below meth c H locs cells slots Q (F0 m pc ls (.long b :: .long a :: rest)) :=
  W.lcmp F.1.1 F.1.2.1 h1 (lv_if_ge F.1.1 F.1.2.1 h2 ht (fun q => kt ((lg_cmp_ge a b).mp q)) (fun q => kf (fun z => q ((lg_cmp_ge a b).mpr z))))
theorem m_lgt (F : Fx p s m args meth c cc nL Ts own D y A0) {a b : Int64} {off : Int} {tgt : Nat} (h1 : decode cc pc = .ok (.lcmp, 1)) (h2 : decode cc (pc + 1) = .ok (.ifCond .gt off, 3)) (ht : ((pc + 1 : Nat) : Int) + off = (tgt : Int)) (kt : b < a → W p l e R s m args below meth c H locs cells slots Q (F0 m tgt ls rest)) (kf : ¬ b < a → W p l e R s m args below meth c H locs cells slots Q (F0 m (pc + 1 + 3) ls rest)) : W p l e R s m args below meth c H locs cells slots Q (F0 m pc ls (.long b :: .long a :: rest)) :=
  W.lcmp F.1.1 F.1.2.1 h1 (lv_if_gt F.1.1 F.1.2.1 h2 ht (fun q => kt ((lg_cmp_gt a b).mp q)) (fun q => kf (fun z => q ((lg_cmp_gt a b).mpr z))))
theorem m_lle (F : Fx p s m args meth c cc nL Ts own D y A0) {a b : Int64} {off : Int} {tgt : Nat} (h1 : decode cc pc = .ok (.lcmp, 1)) (h2 : decode cc (pc + 1) = .ok (.ifCond .le off, 3)) (ht : ((pc + 1 : Nat) : Int) + off = (tgt : Int)) (kt : a ≤ b → W p l e R s m args below meth c H locs cells slots Q (F0 m tgt ls rest)) (kf : ¬ a ≤ b → W p l e R s m args below meth c H locs cells slots Q (F0 m (pc + 1 + 3) ls rest)) : W p l e R s m args below meth c H locs cells slots Q (F0 m pc ls (.long b :: .long a :: rest)) :=
  W.lcmp F.1.1 F.1.2.1 h1 (lv_if_le F.1.1 F.1.2.1 h2 ht (fun q => kt ((lg_cmp_le a b).mp q)) (fun q => kf (fun z => q ((lg_cmp_le a b).mpr z))))
theorem m_leq (F : Fx p s m args meth c cc nL Ts own D y A0) {a b : Int64} {off : Int} {tgt : Nat} (h1 : decode cc pc = .ok (.lcmp, 1)) (h2 : decode cc (pc + 1) = .ok (.ifCond .eq off, 3)) (ht : ((pc + 1 : Nat) : Int) + off = (tgt : Int)) (kt : a = b → W p l e R s m args below meth c H locs cells slots Q (F0 m tgt ls rest)) (kf : ¬ a = b → W p l e R s m args below meth c H locs cells slots Q (F0 m (pc + 1 + 3) ls rest)) : W p l e R s m args below meth c H locs cells slots Q (F0 m pc ls (.long b :: .long a :: rest)) :=
  W.lcmp F.1.1 F.1.2.1 h1 (lv_if_eq F.1.1 F.1.2.1 h2 ht (fun q => kt ((lg_cmp_eq a b).mp q)) (fun q => kf (fun z => q ((lg_cmp_eq a b).mpr z))))
theorem m_lne (F : Fx p s m args meth c cc nL Ts own D y A0) {a b : Int64} {off : Int} {tgt : Nat} (h1 : decode cc pc = .ok (.lcmp, 1)) (h2 : decode cc (pc + 1) = .ok (.ifCond .ne off, 3)) (ht : ((pc + 1 : Nat) : Int) + off = (tgt : Int)) (kt : ¬ a = b → W p l e R s m args below meth c H locs cells slots Q (F0 m tgt ls rest)) (kf : a = b → W p l e R s m args below meth c H locs cells slots Q (F0 m (pc + 1 + 3) ls rest)) : W p l e R s m args below meth c H locs cells slots Q (F0 m pc ls (.long b :: .long a :: rest)) :=
  W.lcmp F.1.1 F.1.2.1 h1 (lv_if_ne F.1.1 F.1.2.1 h2 ht (fun q => kt (fun z => q ((lg_cmp_eq a b).mpr z))) (fun q => kf ((lg_cmp_eq a b).mp q)))
theorem m_iret (F : Fx p s m args meth c cc nL Ts own D y A0) (hM : MM D y nn ad A0 s.heap I J A B H locs) (hr : meth.sig.returnType = some .int) {r0 v : Int32} {u0 : mSt} (hv : v = r0) (hu : (I, J, A, B) = u0) (hdg : decode cc pc = .ok (.ireturn, 1)) : W p l e R s m args below meth c H locs 0 0 (MQ below (mQi D y nn ad A0 r0 u0) args s 0 0 A0) (F0 m pc ls [.int v]) := by
  have hlk := F.2.2.2.2
  exact W.iret F.1.1 F.1.2.1 hr (fun t ht hW => ⟨⟨v, (I, J, A, B), rfl, ⟨hv, hu⟩, by rw [ht]; exact hM.1, va_K.moved hW.alike F.2.1, hM.2.1⟩, hM.2.2.F ht⟩) hM.2.2.2.2 hdg hlk
theorem m_zret (F : Fx p s m args meth c cc nL Ts own D y A0) (hM : MM D y nn ad A0 s.heap I J A B H locs) (hr : meth.sig.returnType = some .boolean) {r0 v : Int32} {u0 : mSt} (hz : v = 0 ∨ v = 1) (hv : v = r0) (hu : (I, J, A, B) = u0) (hdg : decode cc pc = .ok (.ireturn, 1)) : W p l e R s m args below meth c H locs 0 0 (MQ below (mQi D y nn ad A0 r0 u0) args s 0 0 A0) (F0 m pc ls [.int v]) := by
  have hlk := F.2.2.2.2
  have hn : narrow .boolean (.int v) = .int v := by rcases hz with rfl | rfl <;> rfl
  exact W.zret F.1.1 F.1.2.1 hr hn (fun t ht hW => ⟨⟨v, (I, J, A, B), rfl, ⟨hv, hu⟩, by rw [ht]; exact hM.1, va_K.moved hW.alike F.2.1, hM.2.1⟩, hM.2.2.F ht⟩) hM.2.2.2.2 hdg hlk
theorem m_lret (F : Fx p s m args meth c cc nL Ts own D y A0) (hM : MM D y nn ad A0 s.heap I J A B H locs) (hr : meth.sig.returnType = some .long) {r0 v : Int64} {u0 : mSt} (hv : v = r0) (hu : (I, J, A, B) = u0) (hdg : decode cc pc = .ok (.lreturn, 1)) : W p l e R s m args below meth c H locs 0 0 (MQ below (mQl D y nn ad A0 r0 u0) args s 0 0 A0) (F0 m pc ls [.long v]) := by
  have hlk := F.2.2.2.2
  exact W.lret F.1.1 F.1.2.1 hr (fun t ht hW => ⟨⟨v, (I, J, A, B), rfl, ⟨hv, hu⟩, by rw [ht]; exact hM.1, va_K.moved hW.alike F.2.1, hM.2.1⟩, hM.2.2.F ht⟩) hM.2.2.2.2 hdg hlk
theorem m_vret (F : Fx p s m args meth c cc nL Ts own D y A0) (hM : MM D y nn ad A0 s.heap I J A B H locs) (hr : meth.sig.returnType = none) {u0 : mSt} (hu : (I, J, A, B) = u0) (hdg : decode cc pc = .ok (.return_, 1)) : W p l e R s m args below meth c H locs 0 0 (MQ below (mQv D y nn ad A0 u0) args s 0 0 A0) (F0 m pc ls []) := by
  have hlk := F.2.2.2.2
  exact W.vret F.1.1 F.1.2.1 hr (fun t ht hW => ⟨⟨(I, J, A, B), rfl, hu, by rw [ht]; exact hM.1, va_K.moved hW.alike F.2.1, hM.2.1⟩, hM.2.2.F ht⟩) hM.2.2.2.2 hdg hlk
theorem m_callVi (F : Fx p s m args meth c cc nL Ts own D y A0) (hM : MM D y nn ad A0 s.heap I J A B H locs) {ym : MethodName} {bytes : ByteArray} {maxL n index b : Nat} {C : String} {ret : Option FieldType} {ws : List Cond} {rm : Room} {r0 : Int32} {I1 : Nat → Int32} {J1 : Nat → Int64} {A1 : Nat → Nat → Int32} {B1 : Nat → Nat → Int64} {As : List Value} (hMet : Met l ym ws rm (mPc (Value.ref b :: As) D y nn ad H.size I J A B) (mQi D y nn ad (mA y nn ad I J A B H.size) r0 (I1, J1, A1, B1)) 0 0 (mA y nn ad I J A B H.size)) (cw : CallW R s args own C index ym bytes maxL ret ws rm 0 0 n) (hv : ∃ cell : Cell, H[b]? = some cell ∧ cell.vm.isStatics = false ∧ s.vm.findClass C = some cell.cls) (hn : As.length = n) (hl : ls.size = nL) (hw8 : (rest.map fun v => v.category).sum ≤ 8) (hdg : decode cc pc = .ok (.invokevirtual index, 3)) (hf : cells ≤ R.cells ∧ slots ≤ R.slots)
    (kk : ∀ (H1 : Heap) (locs1 : List Loc), MM D y nn ad A0 s.heap I1 J1 A1 B1 H1 locs1 → W p l e R s m args below meth c H1 locs1 cells slots Q (F0 m (pc + 3) ls (.int r0 :: rest))) : W p l e R s m args below meth c H locs cells slots Q (F0 m pc ls (As.reverse ++ .ref b :: rest)) := by
  have hFc : ∀ q, mA y nn ad I J A B H.size q → A0 q := by
    intro q h
    rcases h with ⟨k, e, h⟩ | h
    · exact hM.2.1.2 k (q, e) h
    · exact F.2.2.2.1 q (Nat.le_trans hM.2.2.1 h)
  refine va_calli (va_runV (As := As) (rest := rest) F.1 hMet cw ⟨mPc_blind, hv, fun U hU hW => ⟨rfl, by rw [hU], by rw [hU]; exact hM.1, va_K.moved hW.alike F.2.1, hM.2.1.weaken (fun _ _ _ _ => trivial), F.2.2.1.warm hW⟩⟩ rfl hn hl rfl (lv_room hw8) hdg hf) hM.2.2 (fun q _ h => hFc q h) hFc (fun r u t H1 locs1 ht hvm hw hB hz1 hk1 hS1 => ?_)
  obtain ⟨rfl, rfl⟩ := hw
  obtain ⟨hP1, hK1, hD1⟩ := hB
  rw [ht] at hP1
  exact kk H1 locs1 ⟨hP1, hD1.weaken (fun _ _ _ h => hFc _ h), hS1⟩
theorem m_callVl (F : Fx p s m args meth c cc nL Ts own D y A0) (hM : MM D y nn ad A0 s.heap I J A B H locs) {ym : MethodName} {bytes : ByteArray} {maxL n index b : Nat} {C : String} {ret : Option FieldType} {ws : List Cond} {rm : Room} {r0 : Int64} {I1 : Nat → Int32} {J1 : Nat → Int64} {A1 : Nat → Nat → Int32} {B1 : Nat → Nat → Int64} {As : List Value} (hMet : Met l ym ws rm (mPc (Value.ref b :: As) D y nn ad H.size I J A B) (mQl D y nn ad (mA y nn ad I J A B H.size) r0 (I1, J1, A1, B1)) 0 0 (mA y nn ad I J A B H.size)) (cw : CallW R s args own C index ym bytes maxL ret ws rm 0 0 n) (hv : ∃ cell : Cell, H[b]? = some cell ∧ cell.vm.isStatics = false ∧ s.vm.findClass C = some cell.cls) (hn : As.length = n) (hl : ls.size = nL) (hw8 : (rest.map fun v => v.category).sum ≤ 8) (hdg : decode cc pc = .ok (.invokevirtual index, 3)) (hf : cells ≤ R.cells ∧ slots ≤ R.slots)
    (kk : ∀ (H1 : Heap) (locs1 : List Loc), MM D y nn ad A0 s.heap I1 J1 A1 B1 H1 locs1 → W p l e R s m args below meth c H1 locs1 cells slots Q (F0 m (pc + 3) ls (.long r0 :: rest))) : W p l e R s m args below meth c H locs cells slots Q (F0 m pc ls (As.reverse ++ .ref b :: rest)) := by
  have hFc : ∀ q, mA y nn ad I J A B H.size q → A0 q := by
    intro q h
    rcases h with ⟨k, e, h⟩ | h
    · exact hM.2.1.2 k (q, e) h
    · exact F.2.2.2.1 q (Nat.le_trans hM.2.2.1 h)
  refine va_calll (va_runV (As := As) (rest := rest) F.1 hMet cw ⟨mPc_blind, hv, fun U hU hW => ⟨rfl, by rw [hU], by rw [hU]; exact hM.1, va_K.moved hW.alike F.2.1, hM.2.1.weaken (fun _ _ _ _ => trivial), F.2.2.1.warm hW⟩⟩ rfl hn hl rfl (lv_room hw8) hdg hf) hM.2.2 (fun q _ h => hFc q h) hFc (fun r u t H1 locs1 ht hvm hw hB hz1 hk1 hS1 => ?_)
  obtain ⟨rfl, rfl⟩ := hw
  obtain ⟨hP1, hK1, hD1⟩ := hB
  rw [ht] at hP1
  exact kk H1 locs1 ⟨hP1, hD1.weaken (fun _ _ _ h => hFc _ h), hS1⟩
theorem m_callVv (F : Fx p s m args meth c cc nL Ts own D y A0) (hM : MM D y nn ad A0 s.heap I J A B H locs) {ym : MethodName} {bytes : ByteArray} {maxL n index b : Nat} {C : String} {ret : Option FieldType} {ws : List Cond} {rm : Room} {I1 : Nat → Int32} {J1 : Nat → Int64} {A1 : Nat → Nat → Int32} {B1 : Nat → Nat → Int64} {As : List Value} (hMet : Met l ym ws rm (mPc (Value.ref b :: As) D y nn ad H.size I J A B) (mQv D y nn ad (mA y nn ad I J A B H.size) (I1, J1, A1, B1)) 0 0 (mA y nn ad I J A B H.size)) (cw : CallW R s args own C index ym bytes maxL ret ws rm 0 0 n) (hv : ∃ cell : Cell, H[b]? = some cell ∧ cell.vm.isStatics = false ∧ s.vm.findClass C = some cell.cls) (hn : As.length = n) (hl : ls.size = nL) (hw8 : (rest.map fun v => v.category).sum ≤ 8) (hdg : decode cc pc = .ok (.invokevirtual index, 3)) (hf : cells ≤ R.cells ∧ slots ≤ R.slots)
    (kk : ∀ (H1 : Heap) (locs1 : List Loc), MM D y nn ad A0 s.heap I1 J1 A1 B1 H1 locs1 → W p l e R s m args below meth c H1 locs1 cells slots Q (F0 m (pc + 3) ls (rest))) : W p l e R s m args below meth c H locs cells slots Q (F0 m pc ls (As.reverse ++ .ref b :: rest)) := by
  have hFc : ∀ q, mA y nn ad I J A B H.size q → A0 q := by
    intro q h
    rcases h with ⟨k, e, h⟩ | h
    · exact hM.2.1.2 k (q, e) h
    · exact F.2.2.2.1 q (Nat.le_trans hM.2.2.1 h)
  refine va_callv (va_runV (As := As) (rest := rest) F.1 hMet cw ⟨mPc_blind, hv, fun U hU hW => ⟨rfl, by rw [hU], by rw [hU]; exact hM.1, va_K.moved hW.alike F.2.1, hM.2.1.weaken (fun _ _ _ _ => trivial), F.2.2.1.warm hW⟩⟩ rfl hn hl rfl (lv_room hw8) hdg hf) hM.2.2 (fun q _ h => hFc q h) hFc (fun u t H1 locs1 ht hvm hw hB hz1 hk1 hS1 => ?_)
  obtain rfl := hw
  obtain ⟨hP1, hK1, hD1⟩ := hB
  rw [ht] at hP1
  exact kk H1 locs1 ⟨hP1, hD1.weaken (fun _ _ _ h => hFc _ h), hS1⟩
theorem m_callSi (F : Fx p s m args meth c cc nL Ts own D y A0) (hM : MM D y nn ad A0 s.heap I J A B H locs) {ym : MethodName} {bytes : ByteArray} {maxL n index b : Nat} {C : String} {ret : Option FieldType} {ws : List Cond} {rm : Room} {r0 : Int32} {I1 : Nat → Int32} {J1 : Nat → Int64} {A1 : Nat → Nat → Int32} {B1 : Nat → Nat → Int64} {As : List Value} (hMet : Met l ym ws rm (mPc As D y nn ad H.size I J A B) (mQi D y nn ad (mA y nn ad I J A B H.size) r0 (I1, J1, A1, B1)) 0 0 (mA y nn ad I J A B H.size)) (cw : CallB R s args own index ym bytes maxL ret ws rm 0 0 n ∧ (Cond.static ym).before args s = true) (hn : As.length = n) (hl : ls.size = nL) (hw8 : (rest.map fun v => v.category).sum ≤ 8) (hdg : decode cc pc = .ok (.invokestatic index, 3)) (hf : cells ≤ R.cells ∧ slots ≤ R.slots)
    (kk : ∀ (H1 : Heap) (locs1 : List Loc), MM D y nn ad A0 s.heap I1 J1 A1 B1 H1 locs1 → W p l e R s m args below meth c H1 locs1 cells slots Q (F0 m (pc + 3) ls (.int r0 :: rest))) : W p l e R s m args below meth c H locs cells slots Q (F0 m pc ls (As.reverse ++ rest)) := by
  have hFc : ∀ q, mA y nn ad I J A B H.size q → A0 q := by
    intro q h
    rcases h with ⟨k, e, h⟩ | h
    · exact hM.2.1.2 k (q, e) h
    · exact F.2.2.2.1 q (Nat.le_trans hM.2.2.1 h)
  refine va_calli (va_runS (As := As) (rest := rest) F.1 hMet cw ⟨mPc_blind, fun U hU hW => ⟨rfl, by rw [hU], by rw [hU]; exact hM.1, va_K.moved hW.alike F.2.1, hM.2.1.weaken (fun _ _ _ _ => trivial), F.2.2.1.warm hW⟩⟩ rfl hn hl rfl (lv_room hw8) hdg hf) hM.2.2 (fun q _ h => hFc q h) hFc (fun r u t H1 locs1 ht hvm hw hB hz1 hk1 hS1 => ?_)
  obtain ⟨rfl, rfl⟩ := hw
  obtain ⟨hP1, hK1, hD1⟩ := hB
  rw [ht] at hP1
  exact kk H1 locs1 ⟨hP1, hD1.weaken (fun _ _ _ h => hFc _ h), hS1⟩
theorem m_callSl (F : Fx p s m args meth c cc nL Ts own D y A0) (hM : MM D y nn ad A0 s.heap I J A B H locs) {ym : MethodName} {bytes : ByteArray} {maxL n index b : Nat} {C : String} {ret : Option FieldType} {ws : List Cond} {rm : Room} {r0 : Int64} {I1 : Nat → Int32} {J1 : Nat → Int64} {A1 : Nat → Nat → Int32} {B1 : Nat → Nat → Int64} {As : List Value} (hMet : Met l ym ws rm (mPc As D y nn ad H.size I J A B) (mQl D y nn ad (mA y nn ad I J A B H.size) r0 (I1, J1, A1, B1)) 0 0 (mA y nn ad I J A B H.size)) (cw : CallB R s args own index ym bytes maxL ret ws rm 0 0 n ∧ (Cond.static ym).before args s = true) (hn : As.length = n) (hl : ls.size = nL) (hw8 : (rest.map fun v => v.category).sum ≤ 8) (hdg : decode cc pc = .ok (.invokestatic index, 3)) (hf : cells ≤ R.cells ∧ slots ≤ R.slots)
    (kk : ∀ (H1 : Heap) (locs1 : List Loc), MM D y nn ad A0 s.heap I1 J1 A1 B1 H1 locs1 → W p l e R s m args below meth c H1 locs1 cells slots Q (F0 m (pc + 3) ls (.long r0 :: rest))) : W p l e R s m args below meth c H locs cells slots Q (F0 m pc ls (As.reverse ++ rest)) := by
  have hFc : ∀ q, mA y nn ad I J A B H.size q → A0 q := by
    intro q h
    rcases h with ⟨k, e, h⟩ | h
    · exact hM.2.1.2 k (q, e) h
    · exact F.2.2.2.1 q (Nat.le_trans hM.2.2.1 h)
  refine va_calll (va_runS (As := As) (rest := rest) F.1 hMet cw ⟨mPc_blind, fun U hU hW => ⟨rfl, by rw [hU], by rw [hU]; exact hM.1, va_K.moved hW.alike F.2.1, hM.2.1.weaken (fun _ _ _ _ => trivial), F.2.2.1.warm hW⟩⟩ rfl hn hl rfl (lv_room hw8) hdg hf) hM.2.2 (fun q _ h => hFc q h) hFc (fun r u t H1 locs1 ht hvm hw hB hz1 hk1 hS1 => ?_)
  obtain ⟨rfl, rfl⟩ := hw
  obtain ⟨hP1, hK1, hD1⟩ := hB
  rw [ht] at hP1
  exact kk H1 locs1 ⟨hP1, hD1.weaken (fun _ _ _ h => hFc _ h), hS1⟩
theorem m_callSv (F : Fx p s m args meth c cc nL Ts own D y A0) (hM : MM D y nn ad A0 s.heap I J A B H locs) {ym : MethodName} {bytes : ByteArray} {maxL n index b : Nat} {C : String} {ret : Option FieldType} {ws : List Cond} {rm : Room} {I1 : Nat → Int32} {J1 : Nat → Int64} {A1 : Nat → Nat → Int32} {B1 : Nat → Nat → Int64} {As : List Value} (hMet : Met l ym ws rm (mPc As D y nn ad H.size I J A B) (mQv D y nn ad (mA y nn ad I J A B H.size) (I1, J1, A1, B1)) 0 0 (mA y nn ad I J A B H.size)) (cw : CallB R s args own index ym bytes maxL ret ws rm 0 0 n ∧ (Cond.static ym).before args s = true) (hn : As.length = n) (hl : ls.size = nL) (hw8 : (rest.map fun v => v.category).sum ≤ 8) (hdg : decode cc pc = .ok (.invokestatic index, 3)) (hf : cells ≤ R.cells ∧ slots ≤ R.slots)
    (kk : ∀ (H1 : Heap) (locs1 : List Loc), MM D y nn ad A0 s.heap I1 J1 A1 B1 H1 locs1 → W p l e R s m args below meth c H1 locs1 cells slots Q (F0 m (pc + 3) ls (rest))) : W p l e R s m args below meth c H locs cells slots Q (F0 m pc ls (As.reverse ++ rest)) := by
  have hFc : ∀ q, mA y nn ad I J A B H.size q → A0 q := by
    intro q h
    rcases h with ⟨k, e, h⟩ | h
    · exact hM.2.1.2 k (q, e) h
    · exact F.2.2.2.1 q (Nat.le_trans hM.2.2.1 h)
  refine va_callv (va_runS (As := As) (rest := rest) F.1 hMet cw ⟨mPc_blind, fun U hU hW => ⟨rfl, by rw [hU], by rw [hU]; exact hM.1, va_K.moved hW.alike F.2.1, hM.2.1.weaken (fun _ _ _ _ => trivial), F.2.2.1.warm hW⟩⟩ rfl hn hl rfl (lv_room hw8) hdg hf) hM.2.2 (fun q _ h => hFc q h) hFc (fun u t H1 locs1 ht hvm hw hB hz1 hk1 hS1 => ?_)
  obtain rfl := hw
  obtain ⟨hP1, hK1, hD1⟩ := hB
  rw [ht] at hP1
  exact kk H1 locs1 ⟨hP1, hD1.weaken (fun _ _ _ h => hFc _ h), hS1⟩
theorem m_recv (F : Fx p s m args meth c cc nL Ts own D y A0) (hM : MM D y nn ad A0 s.heap I J A B H locs) {q : vw_C} {k a ci : Nat} {fs : List Value} (he : (mw y nn ad I J A B)[k]? = some (a, .inr (ci, fs))) (hc : vwCl[ci]? = some q) : ∃ cell : Cell, H[a]? = some cell ∧ cell.vm.isStatics = false ∧ s.vm.findClass q.1 = some cell.cls := va_recv F.2.1 hM.1 hc he
theorem m_start {sz : Nat} (hsz : s.heap.size = sz) (hP : va_P D vwCl (mw y nn ad I J A B) s.heap) (hD : va_D (fun _ => True) (mw y nn ad I J A B)) : MM D y nn ad (mA y nn ad I J A B sz) s.heap I J A B s.heap [] := ⟨hP, hD.self, va_S.rf⟩
end MR
end
