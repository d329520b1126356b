/-! ===== uniform memory: every cell of the system has a number q, it lies at ad q; I, J: numbers in fields, A, B: rows of int and of long ===== -/
def mst : List Cond := [.fieldLinkNest RX0 15 "RoundBounds$Net" "n" "I" "RoundBounds", .fieldLinkNest RX2 15 "RoundBounds$Net" "n" "I" "RoundBounds", .fieldLinkNest RX1 15 "RoundBounds$Net" "n" "I" "RoundBounds", .fieldLinkNest RX4 15 "RoundBounds$Net" "n" "I" "RoundBounds", .fieldLinkNest RX5 15 "RoundBounds$Net" "n" "I" "RoundBounds", .fieldLinkNest RX5 64 "RoundBounds$Net" "ways" "[[I" "RoundBounds", .fieldLinkNest RX0 83 "RoundBounds$Net" "ways" "[[I" "RoundBounds", .fieldLinkNest RX6 133 "RoundBounds$Net" "ways" "[[I" "RoundBounds", .fieldLinkNest RX1 33 "RoundBounds$Net" "streets" "[[I" "RoundBounds", .fieldLinkNest RX4 68 "RoundBounds$Net" "streets" "[[I" "RoundBounds", .fieldLinkNest RX2 70 "RoundBounds$Net" "streets" "[[I" "RoundBounds", .fieldLinkNest RX6 93 "RoundBounds$LinkedTrees" "bestRound" "I" "RoundBounds"]
def mNst (U : State) : Prop := ∀ w ∈ mst, va_Nw w U
theorem mst_tab : ∀ w ∈ mst, w.onTables = true := by
  intro w hw
  simp only [mst, List.mem_cons, List.not_mem_nil, or_false] at hw
  rcases hw with rfl | rfl | rfl | rfl | rfl | rfl | rfl | rfl | rfl | rfl | rfl | rfl <;> rfl
theorem mNst.same {u U : State} (h : u.vm = U.vm) (hN : mNst u) : mNst U := fun w hw => va_Nw.same (mst_tab w hw) h (hN w hw)
theorem mNst.warm {s U : State} (hW : s.WarmedH U.vm) (hN : mNst s) : mNst U := by
  intro w hw
  have h0 := hN w hw
  simp only [mst, List.mem_cons, List.not_mem_nil, or_false] at hw
  rcases hw with rfl | rfl | rfl | rfl | rfl | rfl | rfl | rfl | rfl | rfl | rfl | rfl <;> exact va_Nw.warmF hW h0
def mri (nn : Nat) : List (Nat × Nat) := (List.range nn).flatMap fun i => [(0, i), (1, i), (2, i), (3, i), (4, i)]
def rad (ad : Nat → Nat) (g i : Nat) : Nat := ad (100 + 16 * g + i)
def mgo (nn : Nat) (ad : Nat → Nat) (g : Nat) : Nat → Option Nat := fun i => if i < nn then some (rad ad g i) else none
def mrw (y : Nat → ClassId) (nn : Nat) (ad : Nat → Nat) (G : Nat → Nat → Nat → Int32) : va_W := (mri nn).map fun q => (rad ad q.1 q.2, .inl (y 0, nn, .inl (G q.1 q.2)))
def mo (y : Nat → ClassId) (nn : Nat) (ad : Nat → Nat) (I : Nat → Int32) (J : Nat → Int64) (A : Nat → Nat → Int32) (B : Nat → Nat → Int64) : va_W := [(ad 0, .inr (7, [.ref (ad 1), .ref (ad 2), .ref (ad 3), .ref (ad 4), .ref (ad 5), .ref (ad 6), .ref (ad 33), .int (I 4)])),
  (ad 1, .inr (4, [.int (I 0), .ref (ad 8), .ref (ad 9)])),
  (ad 2, .inr (3, [.ref (ad 1), .ref (ad 20), .ref (ad 21), .ref (ad 22), .long (J 0), .int (I 1)])),
  (ad 3, .inr (1, [.ref (ad 1), .ref (ad 50), .ref (ad 51), .ref (ad 52), .ref (ad 23), .ref (ad 24), .ref (ad 25)])),
  (ad 4, .inr (2, [.ref (ad 1), .ref (ad 10), .ref (ad 26), .ref (ad 27)])),
  (ad 5, .inr (5, [.ref (ad 1), .ref (ad 11), .ref (ad 28), .int (I 2), .ref (ad 29), .ref (ad 30), .int (I 3)])),
  (ad 6, .inr (6, [.ref (ad 1), .ref (ad 12), .ref (ad 31), .ref (ad 53), .ref (ad 32)])),
  (ad 7, .inr (8, [.int (I 5), .int (I 6), .ref (ad 54), .int (I 7), .int (I 8), .ref (ad 34), .ref (ad 55), .ref (ad 35), .ref (ad 36), .long (J 1), .ref (ad 56), .ref (ad 57), .ref (ad 37), .ref (ad 38), .ref (ad 39), .ref (ad 58), .ref (ad 40)])),
  (ad 8, .inl (y 3, nn, .inr (.inr (.inr (.inr (mgo nn ad 0)))))),
  (ad 9, .inl (y 3, nn, .inr (.inr (.inr (.inr (mgo nn ad 1)))))),
  (ad 10, .inl (y 3, nn, .inr (.inr (.inr (.inr (mgo nn ad 2)))))),
  (ad 11, .inl (y 3, nn, .inr (.inr (.inr (.inr (mgo nn ad 3)))))),
  (ad 12, .inl (y 3, nn, .inr (.inr (.inr (.inr (mgo nn ad 4)))))),
  (ad 20, .inl (y 0, nn, .inl (A 20))),
  (ad 21, .inl (y 0, nn, .inl (A 21))),
  (ad 22, .inl (y 0, nn, .inl (A 22))),
  (ad 23, .inl (y 0, (nn + 1), .inl (A 23))),
  (ad 24, .inl (y 0, (nn + 1), .inl (A 24))),
  (ad 25, .inl (y 2, (nn + 1), .inl (A 25))),
  (ad 26, .inl (y 0, nn, .inl (A 26))),
  (ad 27, .inl (y 0, nn, .inl (A 27))),
  (ad 28, .inl (y 0, nn, .inl (A 28))),
  (ad 29, .inl (y 0, (2 ^ (nn - 1)), .inl (A 29))),
  (ad 30, .inl (y 0, nn, .inl (A 30))),
  (ad 31, .inl (y 0, nn, .inl (A 31))),
  (ad 32, .inl (y 0, nn, .inl (A 32))),
  (ad 33, .inl (y 0, nn, .inl (A 33))),
  (ad 34, .inl (y 0, 12, .inl (A 34))),
  (ad 35, .inl (y 0, 12, .inl (A 35))),
  (ad 36, .inl (y 2, 12, .inl (A 36))),
  (ad 37, .inl (y 0, 144, .inl (A 37))),
  (ad 38, .inl (y 0, 12, .inl (A 38))),
  (ad 39, .inl (y 0, 12, .inl (A 39))),
  (ad 40, .inl (y 0, 24, .inl (A 40))),
  (ad 50, .inl (y 1, (nn + 1), .inr (.inl (B 50)))),
  (ad 51, .inl (y 1, (nn + 1), .inr (.inl (B 51)))),
  (ad 52, .inl (y 1, (nn + 1), .inr (.inl (B 52)))),
  (ad 53, .inl (y 1, nn, .inr (.inl (B 53)))),
  (ad 54, .inl (y 1, 144, .inr (.inl (B 54)))),
  (ad 55, .inl (y 1, 12, .inr (.inl (B 55)))),
  (ad 56, .inl (y 1, 4096, .inr (.inl (B 56)))),
  (ad 57, .inl (y 1, 144, .inr (.inl (B 57)))),
  (ad 58, .inl (y 1, 24, .inr (.inl (B 58)))),
  (ad 59, .inl (y 1, 1, .inr (.inl (B 59))))]
def mw (y : Nat → ClassId) (nn : Nat) (ad : Nat → Nat) (I : Nat → Int32) (J : Nat → Int64) (A : Nat → Nat → Int32) (B : Nat → Nat → Int64) (G : Nat → Nat → Nat → Int32) : va_W := mo y nn ad I J A B ++ mrw y nn ad G
theorem mri_in {nn g i : Nat} (hg : g < 5) (hi : i < nn) : (g, i) ∈ mri nn := by
  refine List.mem_flatMap.mpr ⟨i, List.mem_range.mpr hi, ?_⟩
  rcases (show g = 0 ∨ g = 1 ∨ g = 2 ∨ g = 3 ∨ g = 4 by omega) with rfl | rfl | rfl | rfl | rfl <;> simp
theorem mg_0 {y : Nat → ClassId} {nn : Nat} {ad : Nat → Nat} {I : Nat → Int32} {J : Nat → Int64} {A : Nat → Nat → Int32} {B : Nat → Nat → Int64} {G : Nat → Nat → Nat → Int32} : (mw y nn ad I J A B G)[0]? = some (ad 0, .inr (7, [.ref (ad 1), .ref (ad 2), .ref (ad 3), .ref (ad 4), .ref (ad 5), .ref (ad 6), .ref (ad 33), .int (I 4)])) := rfl
theorem ms_0_7 {y : Nat → ClassId} {nn : Nat} {ad : Nat → Nat} {I : Nat → Int32} {J : Nat → Int64} {A : Nat → Nat → Int32} {B : Nat → Nat → Int64} {G : Nat → Nat → Nat → Int32} (v : Int32) : (mw y nn ad I J A B G).set 0 (ad 0, .inr (7, [.ref (ad 1), .ref (ad 2), .ref (ad 3), .ref (ad 4), .ref (ad 5), .ref (ad 6), .ref (ad 33), .int v])) = mw y nn ad (va_up I 4 v) J A B G := rfl
theorem mg_1 {y : Nat → ClassId} {nn : Nat} {ad : Nat → Nat} {I : Nat → Int32} {J : Nat → Int64} {A : Nat → Nat → Int32} {B : Nat → Nat → Int64} {G : Nat → Nat → Nat → Int32} : (mw y nn ad I J A B G)[1]? = some (ad 1, .inr (4, [.int (I 0), .ref (ad 8), .ref (ad 9)])) := rfl
theorem ms_1_0 {y : Nat → ClassId} {nn : Nat} {ad : Nat → Nat} {I : Nat → Int32} {J : Nat → Int64} {A : Nat → Nat → Int32} {B : Nat → Nat → Int64} {G : Nat → Nat → Nat → Int32} (v : Int32) : (mw y nn ad I J A B G).set 1 (ad 1, .inr (4, [.int v, .ref (ad 8), .ref (ad 9)])) = mw y nn ad (va_up I 0 v) J A B G := rfl
theorem mg_2 {y : Nat → ClassId} {nn : Nat} {ad : Nat → Nat} {I : Nat → Int32} {J : Nat → Int64} {A : Nat → Nat → Int32} {B : Nat → Nat → Int64} {G : Nat → Nat → Nat → Int32} : (mw y nn ad I J A B G)[2]? = some (ad 2, .inr (3, [.ref (ad 1), .ref (ad 20), .ref (ad 21), .ref (ad 22), .long (J 0), .int (I 1)])) := rfl
theorem ms_2_4 {y : Nat → ClassId} {nn : Nat} {ad : Nat → Nat} {I : Nat → Int32} {J : Nat → Int64} {A : Nat → Nat → Int32} {B : Nat → Nat → Int64} {G : Nat → Nat → Nat → Int32} (v : Int64) : (mw y nn ad I J A B G).set 2 (ad 2, .inr (3, [.ref (ad 1), .ref (ad 20), .ref (ad 21), .ref (ad 22), .long v, .int (I 1)])) = mw y nn ad I (va_up J 0 v) A B G := rfl
theorem ms_2_5 {y : Nat → ClassId} {nn : Nat} {ad : Nat → Nat} {I : Nat → Int32} {J : Nat → Int64} {A : Nat → Nat → Int32} {B : Nat → Nat → Int64} {G : Nat → Nat → Nat → Int32} (v : Int32) : (mw y nn ad I J A B G).set 2 (ad 2, .inr (3, [.ref (ad 1), .ref (ad 20), .ref (ad 21), .ref (ad 22), .long (J 0), .int v])) = mw y nn ad (va_up I 1 v) J A B G := rfl
theorem mg_3 {y : Nat → ClassId} {nn : Nat} {ad : Nat → Nat} {I : Nat → Int32} {J : Nat → Int64} {A : Nat → Nat → Int32} {B : Nat → Nat → Int64} {G : Nat → Nat → Nat → Int32} : (mw y nn ad I J A B G)[3]? = some (ad 3, .inr (1, [.ref (ad 1), .ref (ad 50), .ref (ad 51), .ref (ad 52), .ref (ad 23), .ref (ad 24), .ref (ad 25)])) := rfl
theorem mg_4 {y : Nat → ClassId} {nn : Nat} {ad : Nat → Nat} {I : Nat → Int32} {J : Nat → Int64} {A : Nat → Nat → Int32} {B : Nat → Nat → Int64} {G : Nat → Nat → Nat → Int32} : (mw y nn ad I J A B G)[4]? = some (ad 4, .inr (2, [.ref (ad 1), .ref (ad 10), .ref (ad 26), .ref (ad 27)])) := rfl
theorem mg_5 {y : Nat → ClassId} {nn : Nat} {ad : Nat → Nat} {I : Nat → Int32} {J : Nat → Int64} {A : Nat → Nat → Int32} {B : Nat → Nat → Int64} {G : Nat → Nat → Nat → Int32} : (mw y nn ad I J A B G)[5]? = some (ad 5, .inr (5, [.ref (ad 1), .ref (ad 11), .ref (ad 28), .int (I 2), .ref (ad 29), .ref (ad 30), .int (I 3)])) := rfl
theorem ms_5_3 {y : Nat → ClassId} {nn : Nat} {ad : Nat → Nat} {I : Nat → Int32} {J : Nat → Int64} {A : Nat → Nat → Int32} {B : Nat → Nat → Int64} {G : Nat → Nat → Nat → Int32} (v : Int32) : (mw y nn ad I J A B G).set 5 (ad 5, .inr (5, [.ref (ad 1), .ref (ad 11), .ref (ad 28), .int v, .ref (ad 29), .ref (ad 30), .int (I 3)])) = mw y nn ad (va_up I 2 v) J A B G := rfl
theorem ms_5_6 {y : Nat → ClassId} {nn : Nat} {ad : Nat → Nat} {I : Nat → Int32} {J : Nat → Int64} {A : Nat → Nat → Int32} {B : Nat → Nat → Int64} {G : Nat → Nat → Nat → Int32} (v : Int32) : (mw y nn ad I J A B G).set 5 (ad 5, .inr (5, [.ref (ad 1), .ref (ad 11), .ref (ad 28), .int (I 2), .ref (ad 29), .ref (ad 30), .int v])) = mw y nn ad (va_up I 3 v) J A B G := rfl
theorem mg_6 {y : Nat → ClassId} {nn : Nat} {ad : Nat → Nat} {I : Nat → Int32} {J : Nat → Int64} {A : Nat → Nat → Int32} {B : Nat → Nat → Int64} {G : Nat → Nat → Nat → Int32} : (mw y nn ad I J A B G)[6]? = some (ad 6, .inr (6, [.ref (ad 1), .ref (ad 12), .ref (ad 31), .ref (ad 53), .ref (ad 32)])) := rfl
theorem mg_7 {y : Nat → ClassId} {nn : Nat} {ad : Nat → Nat} {I : Nat → Int32} {J : Nat → Int64} {A : Nat → Nat → Int32} {B : Nat → Nat → Int64} {G : Nat → Nat → Nat → Int32} : (mw y nn ad I J A B G)[7]? = some (ad 7, .inr (8, [.int (I 5), .int (I 6), .ref (ad 54), .int (I 7), .int (I 8), .ref (ad 34), .ref (ad 55), .ref (ad 35), .ref (ad 36), .long (J 1), .ref (ad 56), .ref (ad 57), .ref (ad 37), .ref (ad 38), .ref (ad 39), .ref (ad 58), .ref (ad 40)])) := rfl
theorem ms_7_0 {y : Nat → ClassId} {nn : Nat} {ad : Nat → Nat} {I : Nat → Int32} {J : Nat → Int64} {A : Nat → Nat → Int32} {B : Nat → Nat → Int64} {G : Nat → Nat → Nat → Int32} (v : Int32) : (mw y nn ad I J A B G).set 7 (ad 7, .inr (8, [.int v, .int (I 6), .ref (ad 54), .int (I 7), .int (I 8), .ref (ad 34), .ref (ad 55), .ref (ad 35), .ref (ad 36), .long (J 1), .ref (ad 56), .ref (ad 57), .ref (ad 37), .ref (ad 38), .ref (ad 39), .ref (ad 58), .ref (ad 40)])) = mw y nn ad (va_up I 5 v) J A B G := rfl
theorem ms_7_1 {y : Nat → ClassId} {nn : Nat} {ad : Nat → Nat} {I : Nat → Int32} {J : Nat → Int64} {A : Nat → Nat → Int32} {B : Nat → Nat → Int64} {G : Nat → Nat → Nat → Int32} (v : Int32) : (mw y nn ad I J A B G).set 7 (ad 7, .inr (8, [.int (I 5), .int v, .ref (ad 54), .int (I 7), .int (I 8), .ref (ad 34), .ref (ad 55), .ref (ad 35), .ref (ad 36), .long (J 1), .ref (ad 56), .ref (ad 57), .ref (ad 37), .ref (ad 38), .ref (ad 39), .ref (ad 58), .ref (ad 40)])) = mw y nn ad (va_up I 6 v) J A B G := rfl
theorem ms_7_3 {y : Nat → ClassId} {nn : Nat} {ad : Nat → Nat} {I : Nat → Int32} {J : Nat → Int64} {A : Nat → Nat → Int32} {B : Nat → Nat → Int64} {G : Nat → Nat → Nat → Int32} (v : Int32) : (mw y nn ad I J A B G).set 7 (ad 7, .inr (8, [.int (I 5), .int (I 6), .ref (ad 54), .int v, .int (I 8), .ref (ad 34), .ref (ad 55), .ref (ad 35), .ref (ad 36), .long (J 1), .ref (ad 56), .ref (ad 57), .ref (ad 37), .ref (ad 38), .ref (ad 39), .ref (ad 58), .ref (ad 40)])) = mw y nn ad (va_up I 7 v) J A B G := rfl
theorem ms_7_4 {y : Nat → ClassId} {nn : Nat} {ad : Nat → Nat} {I : Nat → Int32} {J : Nat → Int64} {A : Nat → Nat → Int32} {B : Nat → Nat → Int64} {G : Nat → Nat → Nat → Int32} (v : Int32) : (mw y nn ad I J A B G).set 7 (ad 7, .inr (8, [.int (I 5), .int (I 6), .ref (ad 54), .int (I 7), .int v, .ref (ad 34), .ref (ad 55), .ref (ad 35), .ref (ad 36), .long (J 1), .ref (ad 56), .ref (ad 57), .ref (ad 37), .ref (ad 38), .ref (ad 39), .ref (ad 58), .ref (ad 40)])) = mw y nn ad (va_up I 8 v) J A B G := rfl
theorem ms_7_9 {y : Nat → ClassId} {nn : Nat} {ad : Nat → Nat} {I : Nat → Int32} {J : Nat → Int64} {A : Nat → Nat → Int32} {B : Nat → Nat → Int64} {G : Nat → Nat → Nat → Int32} (v : Int64) : (mw y nn ad I J A B G).set 7 (ad 7, .inr (8, [.int (I 5), .int (I 6), .ref (ad 54), .int (I 7), .int (I 8), .ref (ad 34), .ref (ad 55), .ref (ad 35), .ref (ad 36), .long v, .ref (ad 56), .ref (ad 57), .ref (ad 37), .ref (ad 38), .ref (ad 39), .ref (ad 58), .ref (ad 40)])) = mw y nn ad I (va_up J 1 v) A B G := rfl
theorem mg_8 {y : Nat → ClassId} {nn : Nat} {ad : Nat → Nat} {I : Nat → Int32} {J : Nat → Int64} {A : Nat → Nat → Int32} {B : Nat → Nat → Int64} {G : Nat → Nat → Nat → Int32} : (mw y nn ad I J A B G)[8]? = some (ad 8, .inl (y 3, nn, .inr (.inr (.inr (.inr (mgo nn ad 0)))))) := rfl
theorem mg_9 {y : Nat → ClassId} {nn : Nat} {ad : Nat → Nat} {I : Nat → Int32} {J : Nat → Int64} {A : Nat → Nat → Int32} {B : Nat → Nat → Int64} {G : Nat → Nat → Nat → Int32} : (mw y nn ad I J A B G)[9]? = some (ad 9, .inl (y 3, nn, .inr (.inr (.inr (.inr (mgo nn ad 1)))))) := rfl
theorem mg_10 {y : Nat → ClassId} {nn : Nat} {ad : Nat → Nat} {I : Nat → Int32} {J : Nat → Int64} {A : Nat → Nat → Int32} {B : Nat → Nat → Int64} {G : Nat → Nat → Nat → Int32} : (mw y nn ad I J A B G)[10]? = some (ad 10, .inl (y 3, nn, .inr (.inr (.inr (.inr (mgo nn ad 2)))))) := rfl
theorem mg_11 {y : Nat → ClassId} {nn : Nat} {ad : Nat → Nat} {I : Nat → Int32} {J : Nat → Int64} {A : Nat → Nat → Int32} {B : Nat → Nat → Int64} {G : Nat → Nat → Nat → Int32} : (mw y nn ad I J A B G)[11]? = some (ad 11, .inl (y 3, nn, .inr (.inr (.inr (.inr (mgo nn ad 3)))))) := rfl
theorem mg_12 {y : Nat → ClassId} {nn : Nat} {ad : Nat → Nat} {I : Nat → Int32} {J : Nat → Int64} {A : Nat → Nat → Int32} {B : Nat → Nat → Int64} {G : Nat → Nat → Nat → Int32} : (mw y nn ad I J A B G)[12]? = some (ad 12, .inl (y 3, nn, .inr (.inr (.inr (.inr (mgo nn ad 4)))))) := rfl
theorem mg_20 {y : Nat → ClassId} {nn : Nat} {ad : Nat → Nat} {I : Nat → Int32} {J : Nat → Int64} {A : Nat → Nat → Int32} {B : Nat → Nat → Int64} {G : Nat → Nat → Nat → Int32} : (mw y nn ad I J A B G)[13]? = some (ad 20, .inl (y 0, nn, .inl (A 20))) := rfl
theorem ms_20 {y : Nat → ClassId} {nn : Nat} {ad : Nat → Nat} {I : Nat → Int32} {J : Nat → Int64} {A : Nat → Nat → Int32} {B : Nat → Nat → Int64} {G : Nat → Nat → Nat → Int32} (f : Nat → Int32) : (mw y nn ad I J A B G).set 13 (ad 20, .inl (y 0, nn, .inl f)) = mw y nn ad I J (va_up A 20 f) B G := rfl
theorem mg_21 {y : Nat → ClassId} {nn : Nat} {ad : Nat → Nat} {I : Nat → Int32} {J : Nat → Int64} {A : Nat → Nat → Int32} {B : Nat → Nat → Int64} {G : Nat → Nat → Nat → Int32} : (mw y nn ad I J A B G)[14]? = some (ad 21, .inl (y 0, nn, .inl (A 21))) := rfl
theorem ms_21 {y : Nat → ClassId} {nn : Nat} {ad : Nat → Nat} {I : Nat → Int32} {J : Nat → Int64} {A : Nat → Nat → Int32} {B : Nat → Nat → Int64} {G : Nat → Nat → Nat → Int32} (f : Nat → Int32) : (mw y nn ad I J A B G).set 14 (ad 21, .inl (y 0, nn, .inl f)) = mw y nn ad I J (va_up A 21 f) B G := rfl
theorem mg_22 {y : Nat → ClassId} {nn : Nat} {ad : Nat → Nat} {I : Nat → Int32} {J : Nat → Int64} {A : Nat → Nat → Int32} {B : Nat → Nat → Int64} {G : Nat → Nat → Nat → Int32} : (mw y nn ad I J A B G)[15]? = some (ad 22, .inl (y 0, nn, .inl (A 22))) := rfl
theorem ms_22 {y : Nat → ClassId} {nn : Nat} {ad : Nat → Nat} {I : Nat → Int32} {J : Nat → Int64} {A : Nat → Nat → Int32} {B : Nat → Nat → Int64} {G : Nat → Nat → Nat → Int32} (f : Nat → Int32) : (mw y nn ad I J A B G).set 15 (ad 22, .inl (y 0, nn, .inl f)) = mw y nn ad I J (va_up A 22 f) B G := rfl
theorem mg_23 {y : Nat → ClassId} {nn : Nat} {ad : Nat → Nat} {I : Nat → Int32} {J : Nat → Int64} {A : Nat → Nat → Int32} {B : Nat → Nat → Int64} {G : Nat → Nat → Nat → Int32} : (mw y nn ad I J A B G)[16]? = some (ad 23, .inl (y 0, (nn + 1), .inl (A 23))) := rfl
theorem ms_23 {y : Nat → ClassId} {nn : Nat} {ad : Nat → Nat} {I : Nat → Int32} {J : Nat → Int64} {A : Nat → Nat → Int32} {B : Nat → Nat → Int64} {G : Nat → Nat → Nat → Int32} (f : Nat → Int32) : (mw y nn ad I J A B G).set 16 (ad 23, .inl (y 0, (nn + 1), .inl f)) = mw y nn ad I J (va_up A 23 f) B G := rfl
theorem mg_24 {y : Nat → ClassId} {nn : Nat} {ad : Nat → Nat} {I : Nat → Int32} {J : Nat → Int64} {A : Nat → Nat → Int32} {B : Nat → Nat → Int64} {G : Nat → Nat → Nat → Int32} : (mw y nn ad I J A B G)[17]? = some (ad 24, .inl (y 0, (nn + 1), .inl (A 24))) := rfl
theorem ms_24 {y : Nat → ClassId} {nn : Nat} {ad : Nat → Nat} {I : Nat → Int32} {J : Nat → Int64} {A : Nat → Nat → Int32} {B : Nat → Nat → Int64} {G : Nat → Nat → Nat → Int32} (f : Nat → Int32) : (mw y nn ad I J A B G).set 17 (ad 24, .inl (y 0, (nn + 1), .inl f)) = mw y nn ad I J (va_up A 24 f) B G := rfl
theorem mg_25 {y : Nat → ClassId} {nn : Nat} {ad : Nat → Nat} {I : Nat → Int32} {J : Nat → Int64} {A : Nat → Nat → Int32} {B : Nat → Nat → Int64} {G : Nat → Nat → Nat → Int32} : (mw y nn ad I J A B G)[18]? = some (ad 25, .inl (y 2, (nn + 1), .inl (A 25))) := rfl
theorem ms_25 {y : Nat → ClassId} {nn : Nat} {ad : Nat → Nat} {I : Nat → Int32} {J : Nat → Int64} {A : Nat → Nat → Int32} {B : Nat → Nat → Int64} {G : Nat → Nat → Nat → Int32} (f : Nat → Int32) : (mw y nn ad I J A B G).set 18 (ad 25, .inl (y 2, (nn + 1), .inl f)) = mw y nn ad I J (va_up A 25 f) B G := rfl
theorem mg_26 {y : Nat → ClassId} {nn : Nat} {ad : Nat → Nat} {I : Nat → Int32} {J : Nat → Int64} {A : Nat → Nat → Int32} {B : Nat → Nat → Int64} {G : Nat → Nat → Nat → Int32} : (mw y nn ad I J A B G)[19]? = some (ad 26, .inl (y 0, nn, .inl (A 26))) := rfl
theorem ms_26 {y : Nat → ClassId} {nn : Nat} {ad : Nat → Nat} {I : Nat → Int32} {J : Nat → Int64} {A : Nat → Nat → Int32} {B : Nat → Nat → Int64} {G : Nat → Nat → Nat → Int32} (f : Nat → Int32) : (mw y nn ad I J A B G).set 19 (ad 26, .inl (y 0, nn, .inl f)) = mw y nn ad I J (va_up A 26 f) B G := rfl
theorem mg_27 {y : Nat → ClassId} {nn : Nat} {ad : Nat → Nat} {I : Nat → Int32} {J : Nat → Int64} {A : Nat → Nat → Int32} {B : Nat → Nat → Int64} {G : Nat → Nat → Nat → Int32} : (mw y nn ad I J A B G)[20]? = some (ad 27, .inl (y 0, nn, .inl (A 27))) := rfl
theorem ms_27 {y : Nat → ClassId} {nn : Nat} {ad : Nat → Nat} {I : Nat → Int32} {J : Nat → Int64} {A : Nat → Nat → Int32} {B : Nat → Nat → Int64} {G : Nat → Nat → Nat → Int32} (f : Nat → Int32) : (mw y nn ad I J A B G).set 20 (ad 27, .inl (y 0, nn, .inl f)) = mw y nn ad I J (va_up A 27 f) B G := rfl
theorem mg_28 {y : Nat → ClassId} {nn : Nat} {ad : Nat → Nat} {I : Nat → Int32} {J : Nat → Int64} {A : Nat → Nat → Int32} {B : Nat → Nat → Int64} {G : Nat → Nat → Nat → Int32} : (mw y nn ad I J A B G)[21]? = some (ad 28, .inl (y 0, nn, .inl (A 28))) := rfl
theorem ms_28 {y : Nat → ClassId} {nn : Nat} {ad : Nat → Nat} {I : Nat → Int32} {J : Nat → Int64} {A : Nat → Nat → Int32} {B : Nat → Nat → Int64} {G : Nat → Nat → Nat → Int32} (f : Nat → Int32) : (mw y nn ad I J A B G).set 21 (ad 28, .inl (y 0, nn, .inl f)) = mw y nn ad I J (va_up A 28 f) B G := rfl
theorem mg_29 {y : Nat → ClassId} {nn : Nat} {ad : Nat → Nat} {I : Nat → Int32} {J : Nat → Int64} {A : Nat → Nat → Int32} {B : Nat → Nat → Int64} {G : Nat → Nat → Nat → Int32} : (mw y nn ad I J A B G)[22]? = some (ad 29, .inl (y 0, (2 ^ (nn - 1)), .inl (A 29))) := rfl
theorem ms_29 {y : Nat → ClassId} {nn : Nat} {ad : Nat → Nat} {I : Nat → Int32} {J : Nat → Int64} {A : Nat → Nat → Int32} {B : Nat → Nat → Int64} {G : Nat → Nat → Nat → Int32} (f : Nat → Int32) : (mw y nn ad I J A B G).set 22 (ad 29, .inl (y 0, (2 ^ (nn - 1)), .inl f)) = mw y nn ad I J (va_up A 29 f) B G := rfl
theorem mg_30 {y : Nat → ClassId} {nn : Nat} {ad : Nat → Nat} {I : Nat → Int32} {J : Nat → Int64} {A : Nat → Nat → Int32} {B : Nat → Nat → Int64} {G : Nat → Nat → Nat → Int32} : (mw y nn ad I J A B G)[23]? = some (ad 30, .inl (y 0, nn, .inl (A 30))) := rfl
theorem ms_30 {y : Nat → ClassId} {nn : Nat} {ad : Nat → Nat} {I : Nat → Int32} {J : Nat → Int64} {A : Nat → Nat → Int32} {B : Nat → Nat → Int64} {G : Nat → Nat → Nat → Int32} (f : Nat → Int32) : (mw y nn ad I J A B G).set 23 (ad 30, .inl (y 0, nn, .inl f)) = mw y nn ad I J (va_up A 30 f) B G := rfl
theorem mg_31 {y : Nat → ClassId} {nn : Nat} {ad : Nat → Nat} {I : Nat → Int32} {J : Nat → Int64} {A : Nat → Nat → Int32} {B : Nat → Nat → Int64} {G : Nat → Nat → Nat → Int32} : (mw y nn ad I J A B G)[24]? = some (ad 31, .inl (y 0, nn, .inl (A 31))) := rfl
theorem ms_31 {y : Nat → ClassId} {nn : Nat} {ad : Nat → Nat} {I : Nat → Int32} {J : Nat → Int64} {A : Nat → Nat → Int32} {B : Nat → Nat → Int64} {G : Nat → Nat → Nat → Int32} (f : Nat → Int32) : (mw y nn ad I J A B G).set 24 (ad 31, .inl (y 0, nn, .inl f)) = mw y nn ad I J (va_up A 31 f) B G := rfl
theorem mg_32 {y : Nat → ClassId} {nn : Nat} {ad : Nat → Nat} {I : Nat → Int32} {J : Nat → Int64} {A : Nat → Nat → Int32} {B : Nat → Nat → Int64} {G : Nat → Nat → Nat → Int32} : (mw y nn ad I J A B G)[25]? = some (ad 32, .inl (y 0, nn, .inl (A 32))) := rfl
theorem ms_32 {y : Nat → ClassId} {nn : Nat} {ad : Nat → Nat} {I : Nat → Int32} {J : Nat → Int64} {A : Nat → Nat → Int32} {B : Nat → Nat → Int64} {G : Nat → Nat → Nat → Int32} (f : Nat → Int32) : (mw y nn ad I J A B G).set 25 (ad 32, .inl (y 0, nn, .inl f)) = mw y nn ad I J (va_up A 32 f) B G := rfl
theorem mg_33 {y : Nat → ClassId} {nn : Nat} {ad : Nat → Nat} {I : Nat → Int32} {J : Nat → Int64} {A : Nat → Nat → Int32} {B : Nat → Nat → Int64} {G : Nat → Nat → Nat → Int32} : (mw y nn ad I J A B G)[26]? = some (ad 33, .inl (y 0, nn, .inl (A 33))) := rfl
theorem ms_33 {y : Nat → ClassId} {nn : Nat} {ad : Nat → Nat} {I : Nat → Int32} {J : Nat → Int64} {A : Nat → Nat → Int32} {B : Nat → Nat → Int64} {G : Nat → Nat → Nat → Int32} (f : Nat → Int32) : (mw y nn ad I J A B G).set 26 (ad 33, .inl (y 0, nn, .inl f)) = mw y nn ad I J (va_up A 33 f) B G := rfl
theorem mg_34 {y : Nat → ClassId} {nn : Nat} {ad : Nat → Nat} {I : Nat → Int32} {J : Nat → Int64} {A : Nat → Nat → Int32} {B : Nat → Nat → Int64} {G : Nat → Nat → Nat → Int32} : (mw y nn ad I J A B G)[27]? = some (ad 34, .inl (y 0, 12, .inl (A 34))) := rfl
theorem ms_34 {y : Nat → ClassId} {nn : Nat} {ad : Nat → Nat} {I : Nat → Int32} {J : Nat → Int64} {A : Nat → Nat → Int32} {B : Nat → Nat → Int64} {G : Nat → Nat → Nat → Int32} (f : Nat → Int32) : (mw y nn ad I J A B G).set 27 (ad 34, .inl (y 0, 12, .inl f)) = mw y nn ad I J (va_up A 34 f) B G := rfl
theorem mg_35 {y : Nat → ClassId} {nn : Nat} {ad : Nat → Nat} {I : Nat → Int32} {J : Nat → Int64} {A : Nat → Nat → Int32} {B : Nat → Nat → Int64} {G : Nat → Nat → Nat → Int32} : (mw y nn ad I J A B G)[28]? = some (ad 35, .inl (y 0, 12, .inl (A 35))) := rfl
theorem ms_35 {y : Nat → ClassId} {nn : Nat} {ad : Nat → Nat} {I : Nat → Int32} {J : Nat → Int64} {A : Nat → Nat → Int32} {B : Nat → Nat → Int64} {G : Nat → Nat → Nat → Int32} (f : Nat → Int32) : (mw y nn ad I J A B G).set 28 (ad 35, .inl (y 0, 12, .inl f)) = mw y nn ad I J (va_up A 35 f) B G := rfl
theorem mg_36 {y : Nat → ClassId} {nn : Nat} {ad : Nat → Nat} {I : Nat → Int32} {J : Nat → Int64} {A : Nat → Nat → Int32} {B : Nat → Nat → Int64} {G : Nat → Nat → Nat → Int32} : (mw y nn ad I J A B G)[29]? = some (ad 36, .inl (y 2, 12, .inl (A 36))) := rfl
theorem ms_36 {y : Nat → ClassId} {nn : Nat} {ad : Nat → Nat} {I : Nat → Int32} {J : Nat → Int64} {A : Nat → Nat → Int32} {B : Nat → Nat → Int64} {G : Nat → Nat → Nat → Int32} (f : Nat → Int32) : (mw y nn ad I J A B G).set 29 (ad 36, .inl (y 2, 12, .inl f)) = mw y nn ad I J (va_up A 36 f) B G := rfl
theorem mg_37 {y : Nat → ClassId} {nn : Nat} {ad : Nat → Nat} {I : Nat → Int32} {J : Nat → Int64} {A : Nat → Nat → Int32} {B : Nat → Nat → Int64} {G : Nat → Nat → Nat → Int32} : (mw y nn ad I J A B G)[30]? = some (ad 37, .inl (y 0, 144, .inl (A 37))) := rfl
theorem ms_37 {y : Nat → ClassId} {nn : Nat} {ad : Nat → Nat} {I : Nat → Int32} {J : Nat → Int64} {A : Nat → Nat → Int32} {B : Nat → Nat → Int64} {G : Nat → Nat → Nat → Int32} (f : Nat → Int32) : (mw y nn ad I J A B G).set 30 (ad 37, .inl (y 0, 144, .inl f)) = mw y nn ad I J (va_up A 37 f) B G := rfl
theorem mg_38 {y : Nat → ClassId} {nn : Nat} {ad : Nat → Nat} {I : Nat → Int32} {J : Nat → Int64} {A : Nat → Nat → Int32} {B : Nat → Nat → Int64} {G : Nat → Nat → Nat → Int32} : (mw y nn ad I J A B G)[31]? = some (ad 38, .inl (y 0, 12, .inl (A 38))) := rfl
theorem ms_38 {y : Nat → ClassId} {nn : Nat} {ad : Nat → Nat} {I : Nat → Int32} {J : Nat → Int64} {A : Nat → Nat → Int32} {B : Nat → Nat → Int64} {G : Nat → Nat → Nat → Int32} (f : Nat → Int32) : (mw y nn ad I J A B G).set 31 (ad 38, .inl (y 0, 12, .inl f)) = mw y nn ad I J (va_up A 38 f) B G := rfl
theorem mg_39 {y : Nat → ClassId} {nn : Nat} {ad : Nat → Nat} {I : Nat → Int32} {J : Nat → Int64} {A : Nat → Nat → Int32} {B : Nat → Nat → Int64} {G : Nat → Nat → Nat → Int32} : (mw y nn ad I J A B G)[32]? = some (ad 39, .inl (y 0, 12, .inl (A 39))) := rfl
theorem ms_39 {y : Nat → ClassId} {nn : Nat} {ad : Nat → Nat} {I : Nat → Int32} {J : Nat → Int64} {A : Nat → Nat → Int32} {B : Nat → Nat → Int64} {G : Nat → Nat → Nat → Int32} (f : Nat → Int32) : (mw y nn ad I J A B G).set 32 (ad 39, .inl (y 0, 12, .inl f)) = mw y nn ad I J (va_up A 39 f) B G := rfl
theorem mg_40 {y : Nat → ClassId} {nn : Nat} {ad : Nat → Nat} {I : Nat → Int32} {J : Nat → Int64} {A : Nat → Nat → Int32} {B : Nat → Nat → Int64} {G : Nat → Nat → Nat → Int32} : (mw y nn ad I J A B G)[33]? = some (ad 40, .inl (y 0, 24, .inl (A 40))) := rfl
theorem ms_40 {y : Nat → ClassId} {nn : Nat} {ad : Nat → Nat} {I : Nat → Int32} {J : Nat → Int64} {A : Nat → Nat → Int32} {B : Nat → Nat → Int64} {G : Nat → Nat → Nat → Int32} (f : Nat → Int32) : (mw y nn ad I J A B G).set 33 (ad 40, .inl (y 0, 24, .inl f)) = mw y nn ad I J (va_up A 40 f) B G := rfl
theorem mg_50 {y : Nat → ClassId} {nn : Nat} {ad : Nat → Nat} {I : Nat → Int32} {J : Nat → Int64} {A : Nat → Nat → Int32} {B : Nat → Nat → Int64} {G : Nat → Nat → Nat → Int32} : (mw y nn ad I J A B G)[34]? = some (ad 50, .inl (y 1, (nn + 1), .inr (.inl (B 50)))) := rfl
theorem ms_50 {y : Nat → ClassId} {nn : Nat} {ad : Nat → Nat} {I : Nat → Int32} {J : Nat → Int64} {A : Nat → Nat → Int32} {B : Nat → Nat → Int64} {G : Nat → Nat → Nat → Int32} (f : Nat → Int64) : (mw y nn ad I J A B G).set 34 (ad 50, .inl (y 1, (nn + 1), .inr (.inl f))) = mw y nn ad I J A (va_up B 50 f) G := rfl
theorem mg_51 {y : Nat → ClassId} {nn : Nat} {ad : Nat → Nat} {I : Nat → Int32} {J : Nat → Int64} {A : Nat → Nat → Int32} {B : Nat → Nat → Int64} {G : Nat → Nat → Nat → Int32} : (mw y nn ad I J A B G)[35]? = some (ad 51, .inl (y 1, (nn + 1), .inr (.inl (B 51)))) := rfl
theorem ms_51 {y : Nat → ClassId} {nn : Nat} {ad : Nat → Nat} {I : Nat → Int32} {J : Nat → Int64} {A : Nat → Nat → Int32} {B : Nat → Nat → Int64} {G : Nat → Nat → Nat → Int32} (f : Nat → Int64) : (mw y nn ad I J A B G).set 35 (ad 51, .inl (y 1, (nn + 1), .inr (.inl f))) = mw y nn ad I J A (va_up B 51 f) G := rfl
theorem mg_52 {y : Nat → ClassId} {nn : Nat} {ad : Nat → Nat} {I : Nat → Int32} {J : Nat → Int64} {A : Nat → Nat → Int32} {B : Nat → Nat → Int64} {G : Nat → Nat → Nat → Int32} : (mw y nn ad I J A B G)[36]? = some (ad 52, .inl (y 1, (nn + 1), .inr (.inl (B 52)))) := rfl
theorem ms_52 {y : Nat → ClassId} {nn : Nat} {ad : Nat → Nat} {I : Nat → Int32} {J : Nat → Int64} {A : Nat → Nat → Int32} {B : Nat → Nat → Int64} {G : Nat → Nat → Nat → Int32} (f : Nat → Int64) : (mw y nn ad I J A B G).set 36 (ad 52, .inl (y 1, (nn + 1), .inr (.inl f))) = mw y nn ad I J A (va_up B 52 f) G := rfl
theorem mg_53 {y : Nat → ClassId} {nn : Nat} {ad : Nat → Nat} {I : Nat → Int32} {J : Nat → Int64} {A : Nat → Nat → Int32} {B : Nat → Nat → Int64} {G : Nat → Nat → Nat → Int32} : (mw y nn ad I J A B G)[37]? = some (ad 53, .inl (y 1, nn, .inr (.inl (B 53)))) := rfl
theorem ms_53 {y : Nat → ClassId} {nn : Nat} {ad : Nat → Nat} {I : Nat → Int32} {J : Nat → Int64} {A : Nat → Nat → Int32} {B : Nat → Nat → Int64} {G : Nat → Nat → Nat → Int32} (f : Nat → Int64) : (mw y nn ad I J A B G).set 37 (ad 53, .inl (y 1, nn, .inr (.inl f))) = mw y nn ad I J A (va_up B 53 f) G := rfl
theorem mg_54 {y : Nat → ClassId} {nn : Nat} {ad : Nat → Nat} {I : Nat → Int32} {J : Nat → Int64} {A : Nat → Nat → Int32} {B : Nat → Nat → Int64} {G : Nat → Nat → Nat → Int32} : (mw y nn ad I J A B G)[38]? = some (ad 54, .inl (y 1, 144, .inr (.inl (B 54)))) := rfl
theorem ms_54 {y : Nat → ClassId} {nn : Nat} {ad : Nat → Nat} {I : Nat → Int32} {J : Nat → Int64} {A : Nat → Nat → Int32} {B : Nat → Nat → Int64} {G : Nat → Nat → Nat → Int32} (f : Nat → Int64) : (mw y nn ad I J A B G).set 38 (ad 54, .inl (y 1, 144, .inr (.inl f))) = mw y nn ad I J A (va_up B 54 f) G := rfl
theorem mg_55 {y : Nat → ClassId} {nn : Nat} {ad : Nat → Nat} {I : Nat → Int32} {J : Nat → Int64} {A : Nat → Nat → Int32} {B : Nat → Nat → Int64} {G : Nat → Nat → Nat → Int32} : (mw y nn ad I J A B G)[39]? = some (ad 55, .inl (y 1, 12, .inr (.inl (B 55)))) := rfl
theorem ms_55 {y : Nat → ClassId} {nn : Nat} {ad : Nat → Nat} {I : Nat → Int32} {J : Nat → Int64} {A : Nat → Nat → Int32} {B : Nat → Nat → Int64} {G : Nat → Nat → Nat → Int32} (f : Nat → Int64) : (mw y nn ad I J A B G).set 39 (ad 55, .inl (y 1, 12, .inr (.inl f))) = mw y nn ad I J A (va_up B 55 f) G := rfl
theorem mg_56 {y : Nat → ClassId} {nn : Nat} {ad : Nat → Nat} {I : Nat → Int32} {J : Nat → Int64} {A : Nat → Nat → Int32} {B : Nat → Nat → Int64} {G : Nat → Nat → Nat → Int32} : (mw y nn ad I J A B G)[40]? = some (ad 56, .inl (y 1, 4096, .inr (.inl (B 56)))) := rfl
theorem ms_56 {y : Nat → ClassId} {nn : Nat} {ad : Nat → Nat} {I : Nat → Int32} {J : Nat → Int64} {A : Nat → Nat → Int32} {B : Nat → Nat → Int64} {G : Nat → Nat → Nat → Int32} (f : Nat → Int64) : (mw y nn ad I J A B G).set 40 (ad 56, .inl (y 1, 4096, .inr (.inl f))) = mw y nn ad I J A (va_up B 56 f) G := rfl
theorem mg_57 {y : Nat → ClassId} {nn : Nat} {ad : Nat → Nat} {I : Nat → Int32} {J : Nat → Int64} {A : Nat → Nat → Int32} {B : Nat → Nat → Int64} {G : Nat → Nat → Nat → Int32} : (mw y nn ad I J A B G)[41]? = some (ad 57, .inl (y 1, 144, .inr (.inl (B 57)))) := rfl
theorem ms_57 {y : Nat → ClassId} {nn : Nat} {ad : Nat → Nat} {I : Nat → Int32} {J : Nat → Int64} {A : Nat → Nat → Int32} {B : Nat → Nat → Int64} {G : Nat → Nat → Nat → Int32} (f : Nat → Int64) : (mw y nn ad I J A B G).set 41 (ad 57, .inl (y 1, 144, .inr (.inl f))) = mw y nn ad I J A (va_up B 57 f) G := rfl
theorem mg_58 {y : Nat → ClassId} {nn : Nat} {ad : Nat → Nat} {I : Nat → Int32} {J : Nat → Int64} {A : Nat → Nat → Int32} {B : Nat → Nat → Int64} {G : Nat → Nat → Nat → Int32} : (mw y nn ad I J A B G)[42]? = some (ad 58, .inl (y 1, 24, .inr (.inl (B 58)))) := rfl
theorem ms_58 {y : Nat → ClassId} {nn : Nat} {ad : Nat → Nat} {I : Nat → Int32} {J : Nat → Int64} {A : Nat → Nat → Int32} {B : Nat → Nat → Int64} {G : Nat → Nat → Nat → Int32} (f : Nat → Int64) : (mw y nn ad I J A B G).set 42 (ad 58, .inl (y 1, 24, .inr (.inl f))) = mw y nn ad I J A (va_up B 58 f) G := rfl
theorem mg_59 {y : Nat → ClassId} {nn : Nat} {ad : Nat → Nat} {I : Nat → Int32} {J : Nat → Int64} {A : Nat → Nat → Int32} {B : Nat → Nat → Int64} {G : Nat → Nat → Nat → Int32} : (mw y nn ad I J A B G)[43]? = some (ad 59, .inl (y 1, 1, .inr (.inl (B 59)))) := rfl
theorem ms_59 {y : Nat → ClassId} {nn : Nat} {ad : Nat → Nat} {I : Nat → Int32} {J : Nat → Int64} {A : Nat → Nat → Int32} {B : Nat → Nat → Int64} {G : Nat → Nat → Nat → Int32} (f : Nat → Int64) : (mw y nn ad I J A B G).set 43 (ad 59, .inl (y 1, 1, .inr (.inl f))) = mw y nn ad I J A (va_up B 59 f) G := rfl
theorem mo_len {y : Nat → ClassId} {nn : Nat} {ad : Nat → Nat} {I : Nat → Int32} {J : Nat → Int64} {A : Nat → Nat → Int32} {B : Nat → Nat → Int64} : (mo y nn ad I J A B).length = 44 := rfl
theorem mr_pos {y : Nat → ClassId} {nn : Nat} {ad : Nat → Nat} {I : Nat → Int32} {J : Nat → Int64} {A : Nat → Nat → Int32} {B : Nat → Nat → Int64} {G : Nat → Nat → Nat → Int32} {q : Nat × Nat} {j : Nat} (hj : (mri nn)[j]? = some q) : (mw y nn ad I J A B G)[44 + j]? = some (rad ad q.1 q.2, .inl (y 0, nn, .inl (G q.1 q.2))) := by
  unfold mw
  rw [List.getElem?_append_right (by rw [mo_len]; omega), mo_len, show 44 + j - 44 = j by omega]
  unfold mrw
  rw [List.getElem?_map, hj]
  rfl
theorem mr_get {y : Nat → ClassId} {nn : Nat} {ad : Nat → Nat} {I : Nat → Int32} {J : Nat → Int64} {A : Nat → Nat → Int32} {B : Nat → Nat → Int64} {G : Nat → Nat → Nat → Int32} {q : Nat × Nat} (h : q ∈ mri nn) : ∃ k : Nat, (mw y nn ad I J A B G)[k]? = some (rad ad q.1 q.2, .inl (y 0, nn, .inl (G q.1 q.2))) := by
  obtain ⟨j, hj⟩ := List.mem_iff_getElem?.mp h
  exact ⟨44 + j, mr_pos hj⟩
def up2 (G : Nat → Nat → Nat → Int32) (g i : Nat) (f : Nat → Int32) : Nat → Nat → Nat → Int32 := va_up G g (va_up (G g) i f)
theorem up2_self (G : Nat → Nat → Nat → Int32) (g i : Nat) (f : Nat → Int32) : up2 G g i f g i = f := by
  unfold up2
  rw [va_up_self, va_up_self]
theorem up2_ne {G : Nat → Nat → Nat → Int32} {g i a b : Nat} {f : Nat → Int32} (h : (a, b) ≠ (g, i)) : up2 G g i f a b = G a b := by
  unfold up2
  by_cases e : a = g
  · subst e
    rw [va_up_self, va_up_ne _ _ (fun q => h (by rw [q]))]
  · rw [va_up_ne _ _ e]
theorem mr_set {y : Nat → ClassId} {nn : Nat} {ad : Nat → Nat} {I : Nat → Int32} {J : Nat → Int64} {A : Nat → Nat → Int32} {B : Nat → Nat → Int64} {G : Nat → Nat → Nat → Int32} {A0 : Nat → Prop} {g i k : Nat} (h : (g, i) ∈ mri nn) (hD : va_D A0 (mw y nn ad I J A B G)) (hk : (mw y nn ad I J A B G)[k]? = some (rad ad g i, .inl (y 0, nn, .inl (G g i)))) (f : Nat → Int32) : (mw y nn ad I J A B G).set k (rad ad g i, .inl (y 0, nn, .inl f)) = mw y nn ad I J A B (up2 G g i f) := by
  obtain ⟨j, hj⟩ := List.mem_iff_getElem?.mp h
  have hat := mr_pos (y := y) (ad := ad) (I := I) (J := J) (A := A) (B := B) (G := G) hj
  have hkj : k = 44 + j := hD.1 k (44 + j) _ _ hk hat rfl
  subst hkj
  unfold mw
  rw [List.set_append_right _ _ (by rw [mo_len]; omega), mo_len, show 44 + j - 44 = j by omega]
  congr 1
  apply List.ext_getElem?
  intro t
  by_cases ht : j = t
  · subst ht
    have hlt : j < (mrw y nn ad G).length := by
      unfold mrw
      rw [List.length_map]
      exact (List.getElem?_eq_some_iff.mp hj).1
    rw [List.getElem?_set_self hlt]
    unfold mrw
    rw [List.getElem?_map, hj]
    show _ = some (rad ad g i, Sum.inl (y 0, nn, Sum.inl (up2 G g i f g i)))
    rw [up2_self]
  · rw [List.getElem?_set_ne ht]
    unfold mrw
    rw [List.getElem?_map, List.getElem?_map]
    cases hr : (mri nn)[t]? with
    | none => rfl
    | some r =>
      have hne : r ≠ (g, i) := by
        intro e
        subst e
        have hat2 := mr_pos (y := y) (ad := ad) (I := I) (J := J) (A := A) (B := B) (G := G) hr
        have := hD.1 (44 + j) (44 + t) _ _ hat hat2 rfl
        omega
      show some (rad ad r.1 r.2, Sum.inl (y 0, nn, Sum.inl (G r.1 r.2))) = some (rad ad r.1 r.2, Sum.inl (y 0, nn, Sum.inl (up2 G g i f r.1 r.2)))
      rw [up2_ne (a := r.1) (b := r.2) hne]
/-! ===== rows over the uniform memory ===== -/
def mtys (y : Nat → ClassId) : List (ClassId × FieldType) := [(y 0, .int), (y 1, .long), (y 2, .boolean), (y 3, .array .int)]
/-- what holds all through a method's walk -/
def Fx (p : Program) (s : State) (m : MethodId) (args : Array Value) (meth : Method) (c : Code) (cc : ByteArray) (nL : Nat) (Ts : List Cond) (own : String) (D : va_G) (y : Nat → ClassId) (A0 : Nat → Prop) : Prop :=
  CallFix p m c cc nL s args Ts own ∧ va_K D vwCl (mtys y) s ∧ mNst s ∧ (∀ q, s.heap.size ≤ q → A0 q) ∧ meth.locks = false
/-- the heap holds the memory -/
def MM (D : va_G) (y : Nat → ClassId) (nn : Nat) (ad : Nat → Nat) (A0 : Nat → Prop) (H0 : Heap) (I : Nat → Int32) (J : Nat → Int64) (A : Nat → Nat → Int32) (B : Nat → Nat → Int64) (G : Nat → Nat → Nat → Int32) (H : Heap) (locs : List Loc) : Prop :=
  va_P D vwCl (mw y nn ad I J A B G) H ∧ va_D A0 (mw y nn ad I J A B G) ∧ va_S A0 H0 H locs
abbrev mSt : Type := (Nat → Int32) × (Nat → Int64) × (Nat → Nat → Int32) × (Nat → Nat → Int64) × (Nat → Nat → Nat → Int32)
def mPc (av : List Value) (D : va_G) (y : Nat → ClassId) (nn : Nat) (ad : Nat → Nat) (sz : Nat) (I : Nat → Int32) (J : Nat → Int64) (A : Nat → Nat → Int32) (B : Nat → Nat → Int64) (G : Nat → Nat → Nat → Int32) : Array Value → State → Prop :=
  va_Pc av (fun U => U.heap.size = sz ∧ va_P D vwCl (mw y nn ad I J A B G) U.heap ∧ va_K D vwCl (mtys y) U ∧ va_D (fun _ => True) (mw y nn ad I J A B G) ∧ mNst U)
def mB (D : va_G) (y : Nat → ClassId) (nn : Nat) (ad : Nat → Nat) (A0 : Nat → Prop) (u : mSt) (t : State) : Prop :=
  va_P D vwCl (mw y nn ad u.1 u.2.1 u.2.2.1 u.2.2.2.1 u.2.2.2.2) t.heap ∧ va_K D vwCl (mtys y) t ∧ va_D A0 (mw y nn ad u.1 u.2.1 u.2.2.1 u.2.2.2.1 u.2.2.2.2)
/-- the cells that a method may change -/
def mA (y : Nat → ClassId) (nn : Nat) (ad : Nat → Nat) (I : Nat → Int32) (J : Nat → Int64) (A : Nat → Nat → Int32) (B : Nat → Nat → Int64) (G : Nat → Nat → Nat → Int32) (sz : Nat) : Nat → Prop := va_A (mw y nn ad I J A B G) sz
def mQi (D : va_G) (y : Nat → ClassId) (nn : Nat) (ad : Nat → Nat) (A0 : Nat → Prop) (r0 : Int32) (u0 : mSt) : Array Value → State → Outcome → State → Prop := va_Qi (fun r u => r = r0 ∧ u = u0) (mB D y nn ad A0) A0
def mQl (D : va_G) (y : Nat → ClassId) (nn : Nat) (ad : Nat → Nat) (A0 : Nat → Prop) (r0 : Int64) (u0 : mSt) : Array Value → State → Outcome → State → Prop := va_Ql (fun r u => r = r0 ∧ u = u0) (mB D y nn ad A0) A0
def mQv (D : va_G) (y : Nat → ClassId) (nn : Nat) (ad : Nat → Nat) (A0 : Nat → Prop) (u0 : mSt) : Array Value → State → Outcome → State → Prop := va_Qv (fun u => u = u0) (mB D y nn ad A0) A0
theorem mPc_blind {av : List Value} {D : va_G} {y : Nat → ClassId} {nn : Nat} {ad : Nat → Nat} {sz : Nat} {I : Nat → Int32} {J : Nat → Int64} {A : Nat → Nat → Int32} {B : Nat → Nat → Int64} {G : Nat → Nat → Nat → Int32} : FrameBlind (mPc av D y nn ad sz I J A B G) := by
  intro a U g mk q
  obtain ⟨q0, q1, qP, qK, qD, qN⟩ := q
  exact ⟨q0, q1, qP, va_K.moved (u := U) (U := U.calling g mk a) (Vm.Alike.refl U.vm) qK, qD, mNst.same (u := U) (U := U.calling g mk a) rfl qN⟩
/-! the pure side: a check of an index, of a divisor, of a boolean; a name, a call, a loop -/
def ck {ρ : Type} (i : Int32) (n : Nat) (k : Option ρ) : Option ρ := if i < 0 ∨ n ≤ i.toNatClampNeg then none else k
theorem ck_some {ρ : Type} {i : Int32} {n : Nat} {k : Option ρ} {r : ρ} (h : ck i n k = some r) : vp_in i n ∧ k = some r := by
  unfold ck at h
  by_cases q : i < 0 ∨ n ≤ i.toNatClampNeg
  · rw [if_pos q] at h; cases h
  · rw [if_neg q] at h; exact ⟨q, h⟩
def dv {ρ : Type} (x : Int32) (k : Option ρ) : Option ρ := if x = 0 then none else k
theorem dv_some {ρ : Type} {x : Int32} {k : Option ρ} {r : ρ} (h : dv x k = some r) : ¬ x = 0 ∧ k = some r := by
  unfold dv at h
  by_cases q : x = 0
  · rw [if_pos q] at h; cases h
  · rw [if_neg q] at h; exact ⟨q, h⟩
def dvl {ρ : Type} (x : Int64) (k : Option ρ) : Option ρ := if x = 0 then none else k
theorem dvl_some {ρ : Type} {x : Int64} {k : Option ρ} {r : ρ} (h : dvl x k = some r) : ¬ x = 0 ∧ k = some r := by
  unfold dvl at h
  by_cases q : x = 0
  · rw [if_pos q] at h; cases h
  · rw [if_neg q] at h; exact ⟨q, h⟩
def bz {ρ : Type} (x : Int32) (k : Option ρ) : Option ρ := if x = 0 ∨ x = 1 then k else none
theorem bz_some {ρ : Type} {x : Int32} {k : Option ρ} {r : ρ} (h : bz x k = some r) : (x = 0 ∨ x = 1) ∧ k = some r := by
  unfold bz at h
  by_cases q : x = 0 ∨ x = 1
  · rw [if_pos q] at h; exact ⟨q, h⟩
  · rw [if_neg q] at h; cases h
def nmd {α ρ : Type} (e : α) (k : α → Option ρ) : Option ρ := k e
theorem nmd_some {α ρ : Type} {e : α} {k : α → Option ρ} {r : ρ} (h : nmd e k = some r) : ∃ x, x = e ∧ k x = some r := ⟨e, rfl, h⟩
def bd {α ρ : Type} (o : Option α) (k : α → Option ρ) : Option ρ := match o with
  | none => none
  | some x => k x
theorem bd_some {α ρ : Type} {o : Option α} {k : α → Option ρ} {r : ρ} (h : bd o k = some r) : ∃ x, o = some x ∧ k x = some r := by
  cases o with
  | none => cases h
  | some x => exact ⟨x, rfl, h⟩
/-- a row filled up to n -/
def fil {α : Type} (n : Nat) (v : α) (f : Nat → α) : Nat → α := fun j => if j < n then v else f j
theorem up_id {α : Type} {f : Nat → α} {k : Nat} : va_up f k (f k) = f := by
  funext q
  by_cases e : q = k
  · subst e; rw [va_up_self]
  · rw [va_up_ne _ _ e]
theorem vp_lt {i : Int32} {n : Nat} (h : vp_in i n) : i.toNatClampNeg < n := Nat.not_le.mp fun q => h (Or.inr q)
def lq1 {T1 ρ : Type} (F : (T1 → Option ρ) → T1 → Option ρ) : Nat → T1 → Option ρ
  | 0, _ => none
  | n + 1, x1 => F (lq1 F n) x1
def lq2 {T1 T2 ρ : Type} (F : (T1 → T2 → Option ρ) → T1 → T2 → Option ρ) : Nat → T1 → T2 → Option ρ
  | 0, _, _ => none
  | n + 1, x1, x2 => F (lq2 F n) x1 x2
def lq3 {T1 T2 T3 ρ : Type} (F : (T1 → T2 → T3 → Option ρ) → T1 → T2 → T3 → Option ρ) : Nat → T1 → T2 → T3 → Option ρ
  | 0, _, _, _ => none
  | n + 1, x1, x2, x3 => F (lq3 F n) x1 x2 x3
def lq4 {T1 T2 T3 T4 ρ : Type} (F : (T1 → T2 → T3 → T4 → Option ρ) → T1 → T2 → T3 → T4 → Option ρ) : Nat → T1 → T2 → T3 → T4 → Option ρ
  | 0, _, _, _, _ => none
  | n + 1, x1, x2, x3, x4 => F (lq4 F n) x1 x2 x3 x4
def lq5 {T1 T2 T3 T4 T5 ρ : Type} (F : (T1 → T2 → T3 → T4 → T5 → Option ρ) → T1 → T2 → T3 → T4 → T5 → Option ρ) : Nat → T1 → T2 → T3 → T4 → T5 → Option ρ
  | 0, _, _, _, _, _ => none
  | n + 1, x1, x2, x3, x4, x5 => F (lq5 F n) x1 x2 x3 x4 x5
def lq6 {T1 T2 T3 T4 T5 T6 ρ : Type} (F : (T1 → T2 → T3 → T4 → T5 → T6 → Option ρ) → T1 → T2 → T3 → T4 → T5 → T6 → Option ρ) : Nat → T1 → T2 → T3 → T4 → T5 → T6 → Option ρ
  | 0, _, _, _, _, _, _ => none
  | n + 1, x1, x2, x3, x4, x5, x6 => F (lq6 F n) x1 x2 x3 x4 x5 x6
def lq7 {T1 T2 T3 T4 T5 T6 T7 ρ : Type} (F : (T1 → T2 → T3 → T4 → T5 → T6 → T7 → Option ρ) → T1 → T2 → T3 → T4 → T5 → T6 → T7 → Option ρ) : Nat → T1 → T2 → T3 → T4 → T5 → T6 → T7 → Option ρ
  | 0, _, _, _, _, _, _, _ => none
  | n + 1, x1, x2, x3, x4, x5, x6, x7 => F (lq7 F n) x1 x2 x3 x4 x5 x6 x7
def lq8 {T1 T2 T3 T4 T5 T6 T7 T8 ρ : Type} (F : (T1 → T2 → T3 → T4 → T5 → T6 → T7 → T8 → Option ρ) → T1 → T2 → T3 → T4 → T5 → T6 → T7 → T8 → Option ρ) : Nat → T1 → T2 → T3 → T4 → T5 → T6 → T7 → T8 → Option ρ
  | 0, _, _, _, _, _, _, _, _ => none
  | n + 1, x1, x2, x3, x4, x5, x6, x7, x8 => F (lq8 F n) x1 x2 x3 x4 x5 x6 x7 x8
def lq9 {T1 T2 T3 T4 T5 T6 T7 T8 T9 ρ : Type} (F : (T1 → T2 → T3 → T4 → T5 → T6 → T7 → T8 → T9 → Option ρ) → T1 → T2 → T3 → T4 → T5 → T6 → T7 → T8 → T9 → Option ρ) : Nat → T1 → T2 → T3 → T4 → T5 → T6 → T7 → T8 → T9 → Option ρ
  | 0, _, _, _, _, _, _, _, _, _ => none
  | n + 1, x1, x2, x3, x4, x5, x6, x7, x8, x9 => F (lq9 F n) x1 x2 x3 x4 x5 x6 x7 x8 x9
def lq10 {T1 T2 T3 T4 T5 T6 T7 T8 T9 T10 ρ : Type} (F : (T1 → T2 → T3 → T4 → T5 → T6 → T7 → T8 → T9 → T10 → Option ρ) → T1 → T2 → T3 → T4 → T5 → T6 → T7 → T8 → T9 → T10 → Option ρ) : Nat → T1 → T2 → T3 → T4 → T5 → T6 → T7 → T8 → T9 → T10 → Option ρ
  | 0, _, _, _, _, _, _, _, _, _, _ => none
  | n + 1, x1, x2, x3, x4, x5, x6, x7, x8, x9, x10 => F (lq10 F n) x1 x2 x3 x4 x5 x6 x7 x8 x9 x10
def lq11 {T1 T2 T3 T4 T5 T6 T7 T8 T9 T10 T11 ρ : Type} (F : (T1 → T2 → T3 → T4 → T5 → T6 → T7 → T8 → T9 → T10 → T11 → Option ρ) → T1 → T2 → T3 → T4 → T5 → T6 → T7 → T8 → T9 → T10 → T11 → Option ρ) : Nat → T1 → T2 → T3 → T4 → T5 → T6 → T7 → T8 → T9 → T10 → T11 → Option ρ
  | 0, _, _, _, _, _, _, _, _, _, _, _ => none
  | n + 1, x1, x2, x3, x4, x5, x6, x7, x8, x9, x10, x11 => F (lq11 F n) x1 x2 x3 x4 x5 x6 x7 x8 x9 x10 x11
def lq12 {T1 T2 T3 T4 T5 T6 T7 T8 T9 T10 T11 T12 ρ : Type} (F : (T1 → T2 → T3 → T4 → T5 → T6 → T7 → T8 → T9 → T10 → T11 → T12 → Option ρ) → T1 → T2 → T3 → T4 → T5 → T6 → T7 → T8 → T9 → T10 → T11 → T12 → Option ρ) : Nat → T1 → T2 → T3 → T4 → T5 → T6 → T7 → T8 → T9 → T10 → T11 → T12 → Option ρ
  | 0, _, _, _, _, _, _, _, _, _, _, _, _ => none
  | n + 1, x1, x2, x3, x4, x5, x6, x7, x8, x9, x10, x11, x12 => F (lq12 F n) x1 x2 x3 x4 x5 x6 x7 x8 x9 x10 x11 x12
def lq13 {T1 T2 T3 T4 T5 T6 T7 T8 T9 T10 T11 T12 T13 ρ : Type} (F : (T1 → T2 → T3 → T4 → T5 → T6 → T7 → T8 → T9 → T10 → T11 → T12 → T13 → Option ρ) → T1 → T2 → T3 → T4 → T5 → T6 → T7 → T8 → T9 → T10 → T11 → T12 → T13 → Option ρ) : Nat → T1 → T2 → T3 → T4 → T5 → T6 → T7 → T8 → T9 → T10 → T11 → T12 → T13 → Option ρ
  | 0, _, _, _, _, _, _, _, _, _, _, _, _, _ => none
  | n + 1, x1, x2, x3, x4, x5, x6, x7, x8, x9, x10, x11, x12, x13 => F (lq13 F n) x1 x2 x3 x4 x5 x6 x7 x8 x9 x10 x11 x12 x13
def lq14 {T1 T2 T3 T4 T5 T6 T7 T8 T9 T10 T11 T12 T13 T14 ρ : Type} (F : (T1 → T2 → T3 → T4 → T5 → T6 → T7 → T8 → T9 → T10 → T11 → T12 → T13 → T14 → Option ρ) → T1 → T2 → T3 → T4 → T5 → T6 → T7 → T8 → T9 → T10 → T11 → T12 → T13 → T14 → Option ρ) : Nat → T1 → T2 → T3 → T4 → T5 → T6 → T7 → T8 → T9 → T10 → T11 → T12 → T13 → T14 → Option ρ
  | 0, _, _, _, _, _, _, _, _, _, _, _, _, _, _ => none
  | n + 1, x1, x2, x3, x4, x5, x6, x7, x8, x9, x10, x11, x12, x13, x14 => F (lq14 F n) x1 x2 x3 x4 x5 x6 x7 x8 x9 x10 x11 x12 x13 x14
section MR
variable {p : Program} {l : Launch} {e : Env} {R : Room} {s : State} {m : MethodId} {args : Array Value} {below : List Frame} {meth : Method} {c : Code} {H : Heap} {locs : List Loc} {cells slots : Nat} {Q : State → Prop} {cc : ByteArray} {nL : Nat} {Ts : List Cond} {own : String} {D : va_G} {y : Nat → ClassId} {nn : Nat} {ad : Nat → Nat} {A0 : Nat → Prop} {I : Nat → Int32} {J : Nat → Int64} {A : Nat → Nat → Int32} {B : Nat → Nat → Int64} {G : Nat → Nat → Nat → Int32} {pc : Nat} {ls : Array Slot} {rest : List Value}
theorem m_topi {x v : Int32} (h : v = x)
    (kk : W p l e R s m args below meth c H locs cells slots Q (F0 m pc ls (.int v :: rest))) : W p l e R s m args below meth c H locs cells slots Q (F0 m pc ls (.int x :: rest)) := h ▸ kk
theorem m_topl {x v : Int64} (h : v = x)
    (kk : W p l e R s m args below meth c H locs cells slots Q (F0 m pc ls (.long v :: rest))) : W p l e R s m args below meth c H locs cells slots Q (F0 m pc ls (.long x :: rest)) := h ▸ kk
theorem m_get (F : Fx p s m args meth c cc nL Ts own D y A0) (hM : MM D y nn ad A0 s.heap I J A B G H locs) {C : String} {T : u_T} {N ci index a : Nat} (q0 : Nat) {fs : List Value} (he : (mw y nn ad I J A B G)[q0]? = some (a, .inr (ci, fs))) (hc : vwCl[ci]? = some (C, T, N)) (k : Nat) (hk : k < N) (hin : ∀ w ∈ u_ws C T N, w ∈ Ts) (hl : Cond.fieldLink own index (T k).1 (T k).2.1 (T k).2.2.1 ∈ Ts) {v : Value} (hv : fs[k]? = some v) (hdg : decode cc pc = .ok (.getfield index, 3))
    (kk : W p l e R s m args below meth c H locs cells slots Q (F0 m (pc + 3) ls (v :: rest))) : W p l e R s m args below meth c H locs cells slots Q (F0 m pc ls (.ref a :: rest)) := va_get F.1.1 F.1.2.1 F.1.2.2.2.2 hin F.1.2.2.2.1 F.2.1 hM.1 q0 he hc k hk (F.1.2.2.2.2 _ hl) (fun _ h => h) hv hdg kk
theorem m_getN (F : Fx p s m args meth c cc nL Ts own D y A0) (hM : MM D y nn ad A0 s.heap I J A B G H locs) {C : String} {T : u_T} {N ci index a : Nat} (q0 : Nat) {fs : List Value} (he : (mw y nn ad I J A B G)[q0]? = some (a, .inr (ci, fs))) (hc : vwCl[ci]? = some (C, T, N)) (k : Nat) (hk : k < N) (hin : ∀ w ∈ u_ws C T N, w ∈ Ts) (hl : Cond.fieldLinkNest own index (T k).1 (T k).2.1 (T k).2.2.1 "RoundBounds" ∈ mst) {v : Value} (hv : fs[k]? = some v) (hdg : decode cc pc = .ok (.getfield index, 3))
    (kk : W p l e R s m args below meth c H locs cells slots Q (F0 m (pc + 3) ls (v :: rest))) : W p l e R s m args below meth c H locs cells slots Q (F0 m pc ls (.ref a :: rest)) := va_getN F.1.1 F.1.2.1 F.1.2.2.2.2 hin F.1.2.2.2.1 F.2.1 hM.1 q0 he hc k hk (va_Nw.use (mst_tab _ hl) (F.2.2.1 _ hl)) (fun _ h => h) hv hdg kk
theorem m_put (F : Fx p s m args meth c cc nL Ts own D y A0) (hM : MM D y nn ad A0 s.heap I J A B G H locs) {C : String} {T : u_T} {N ci index a : Nat} (q0 : Nat) {fs : List Value} (he : (mw y nn ad I J A B G)[q0]? = some (a, .inr (ci, fs))) (hc : vwCl[ci]? = some (C, T, N)) (ty0 : Nat → FieldType) (hty : ∀ k, k < N → parseFieldDescriptor (T k).2.2.1 = some (ty0 k)) (hnm : ∀ a, a < N → ∀ b, b < N → a ≠ b → (T a).2.1 ≠ (T b).2.1) (k : Nat) (hk : k < N) (hin : ∀ w ∈ u_ws C T N, w ∈ Ts) (hl : Cond.fieldLink own index (T k).1 (T k).2.1 (T k).2.2.1 ∈ Ts) (hfin : (T k).2.2.2 = false) {ty : FieldType} {v : Value} (hd : parseFieldDescriptor (T k).2.2.1 = some ty) (hn : narrow ty v = v) (hfit : fits ty v = true) (hle : k < fs.length) {I' I2 : Nat → Int32} {J' J2 : Nat → Int64} (hs : (mw y nn ad I J A B G).set q0 (a, .inr (ci, fs.set k v)) = mw y nn ad I' J' A B G) (eI : I' = I2) (eJ : J' = J2) (hdg : decode cc pc = .ok (.putfield index, 3))
    (kk : ∀ (H1 : Heap) (locs1 : List Loc), MM D y nn ad A0 s.heap I2 J2 A B G H1 locs1 → W p l e R s m args below meth c H1 locs1 cells slots Q (F0 m (pc + 3) ls rest)) : W p l e R s m args below meth c H locs cells slots Q (F0 m pc ls (v :: .ref a :: rest)) := by
  subst eI
  subst eJ
  exact va_put F.1.1 F.1.2.1 F.1.2.2.2.2 hin ty0 hty hnm F.1.2.2.2.1 F.2.1 hM.1 hM.2.1 hM.2.2 q0 he hc k hk (F.1.2.2.2.2 _ hl) (fun _ h => h) hfin hd hn hfit hle hdg (fun H1 locs1 hP hD hS => kk H1 locs1 ⟨hs ▸ hP, hs ▸ hD, hS⟩)
theorem m_iald (F : Fx p s m args meth c cc nL Ts own D y A0) (hM : MM D y nn ad A0 s.heap I J A B G H locs) {k a n : Nat} {f g : Nat → Int32} (hq : (mw y nn ad I J A B G)[k]? = some (a, .inl (y 0, n, .inl f))) (hf : f = g) {i : Int32} (hin : vp_in i n) (hdg : decode cc pc = .ok (.iaload, 1))
    (kk : W p l e R s m args below meth c H locs cells slots Q (F0 m (pc + 1) ls (.int (g i.toNatClampNeg) :: rest))) : W p l e R s m args below meth c H locs cells slots Q (F0 m pc ls (.int i :: .ref a :: rest)) := by
  subst hf
  exact va_iald F.1.1 F.1.2.1 F.2.1 hM.1 k 0 hq rfl hin hdg kk
theorem m_zald (F : Fx p s m args meth c cc nL Ts own D y A0) (hM : MM D y nn ad A0 s.heap I J A B G H locs) {k a n : Nat} {f g : Nat → Int32} (hq : (mw y nn ad I J A B G)[k]? = some (a, .inl (y 2, n, .inl f))) (hf : f = g) {i : Int32} (hin : vp_in i n) (hdg : decode cc pc = .ok (.baload, 1))
    (kk : W p l e R s m args below meth c H locs cells slots Q (F0 m (pc + 1) ls (.int (g i.toNatClampNeg) :: rest))) : W p l e R s m args below meth c H locs cells slots Q (F0 m pc ls (.int i :: .ref a :: rest)) := by
  subst hf
  exact va_zald F.1.1 F.1.2.1 F.2.1 hM.1 k 2 hq rfl hin hdg kk
theorem m_lald (F : Fx p s m args meth c cc nL Ts own D y A0) (hM : MM D y nn ad A0 s.heap I J A B G H locs) {k a n : Nat} {f g : Nat → Int64} (hq : (mw y nn ad I J A B G)[k]? = some (a, .inl (y 1, n, .inr (.inl f)))) (hf : f = g) {i : Int32} (hin : vp_in i n) (hdg : decode cc pc = .ok (.laload, 1))
    (kk : W p l e R s m args below meth c H locs cells slots Q (F0 m (pc + 1) ls (.long (g i.toNatClampNeg) :: rest))) : W p l e R s m args below meth c H locs cells slots Q (F0 m pc ls (.int i :: .ref a :: rest)) := by
  subst hf
  exact va_lald F.1.1 F.1.2.1 F.2.1 hM.1 k 1 hq rfl hin hdg kk
theorem m_aald (F : Fx p s m args meth c cc nL Ts own D y A0) (hM : MM D y nn ad A0 s.heap I J A B G H locs) {k a g : Nat} (hq : (mw y nn ad I J A B G)[k]? = some (a, .inl (y 3, nn, .inr (.inr (.inr (.inr (mgo nn ad g))))))) {i : Int32} (hin : vp_in i nn) (hdg : decode cc pc = .ok (.aaload, 1))
    (kk : W p l e R s m args below meth c H locs cells slots Q (F0 m (pc + 1) ls (.ref (rad ad g i.toNatClampNeg) :: rest))) : W p l e R s m args below meth c H locs cells slots Q (F0 m pc ls (.int i :: .ref a :: rest)) := by
  have hlt : i.toNatClampNeg < nn := vp_lt hin
  have hv : va_rf (mgo nn ad g i.toNatClampNeg) = .ref (rad ad g i.toNatClampNeg) := by
    unfold mgo
    rw [if_pos hlt]
    rfl
  exact W.aald (v := .ref (rad ad g i.toNatClampNeg)) (ty := .array .int) F.1.1 F.1.2.1 (hM.1 k _ hq) ((F.2.1.2 3 _ rfl).1 nn (fun j => va_rf (mgo nn ad g j))) rfl (fun q => by cases q) (by show ¬ (i < 0 ∨ (arrV _ _ _).slots.size ≤ _); rw [arrV_size]; exact hin) (by show (arrV _ _ _).slots[_]? = _; rw [arrV_read _ _ hlt, hv]) rfl rfl hdg kk
theorem m_rald (F : Fx p s m args meth c cc nL Ts own D y A0) (hM : MM D y nn ad A0 s.heap I J A B G H locs) {g i0 : Nat} (hg : g < 5) (h0 : i0 < nn) {M : Nat → Nat → Int32} (hf : G g = M) {i : Int32} (hin : vp_in i nn) (hdg : decode cc pc = .ok (.iaload, 1))
    (kk : W p l e R s m args below meth c H locs cells slots Q (F0 m (pc + 1) ls (.int (M i0 i.toNatClampNeg) :: rest))) : W p l e R s m args below meth c H locs cells slots Q (F0 m pc ls (.int i :: .ref (rad ad g i0) :: rest)) := by
  subst hf
  obtain ⟨k, hk⟩ := mr_get (y := y) (nn := nn) (ad := ad) (I := I) (J := J) (A := A) (B := B) (G := G) (mri_in hg h0)
  exact m_iald F hM hk rfl hin hdg kk
theorem m_iast (F : Fx p s m args meth c cc nL Ts own D y A0) (hM : MM D y nn ad A0 s.heap I J A B G H locs) {k a n q : Nat} {f : Nat → Int32} {A' : Nat → Nat → Int32} (hq : (mw y nn ad I J A B G)[k]? = some (a, .inl (y 0, n, .inl f))) (hs : ∀ f1, (mw y nn ad I J A B G).set k (a, .inl (y 0, n, .inl f1)) = mw y nn ad I J (va_up A q f1) B G) {i : Int32} {x : Int32} (eA : va_up A q (upd f i.toNatClampNeg x) = A') (hin : vp_in i n) (hdg : decode cc pc = .ok (.iastore, 1))
    (kk : ∀ (H1 : Heap) (locs1 : List Loc), MM D y nn ad A0 s.heap I J A' B G H1 locs1 → W p l e R s m args below meth c H1 locs1 cells slots Q (F0 m (pc + 1) ls rest)) : W p l e R s m args below meth c H locs cells slots Q (F0 m pc ls (.int x :: .int i :: .ref a :: rest)) := by
  subst eA
  exact va_iast F.1.1 F.1.2.1 F.2.1 hM.1 hM.2.1 hM.2.2 k 0 hq rfl hin hdg (fun H1 locs1 hP hD hS => kk H1 locs1 ⟨hs _ ▸ hP, hs _ ▸ hD, hS⟩)
theorem m_zast (F : Fx p s m args meth c cc nL Ts own D y A0) (hM : MM D y nn ad A0 s.heap I J A B G H locs) {k a n q : Nat} {f : Nat → Int32} {A' : Nat → Nat → Int32} (hq : (mw y nn ad I J A B G)[k]? = some (a, .inl (y 2, n, .inl f))) (hs : ∀ f1, (mw y nn ad I J A B G).set k (a, .inl (y 2, n, .inl f1)) = mw y nn ad I J (va_up A q f1) B G) {i : Int32} {x : Int32} (eA : va_up A q (upd f i.toNatClampNeg (vp_nar .boolean x)) = A') (hin : vp_in i n) (hdg : decode cc pc = .ok (.bastore, 1))
    (kk : ∀ (H1 : Heap) (locs1 : List Loc), MM D y nn ad A0 s.heap I J A' B G H1 locs1 → W p l e R s m args below meth c H1 locs1 cells slots Q (F0 m (pc + 1) ls rest)) : W p l e R s m args below meth c H locs cells slots Q (F0 m pc ls (.int x :: .int i :: .ref a :: rest)) := by
  subst eA
  exact va_zast F.1.1 F.1.2.1 F.2.1 hM.1 hM.2.1 hM.2.2 k 2 hq rfl hin hdg (fun H1 locs1 hP hD hS => kk H1 locs1 ⟨hs _ ▸ hP, hs _ ▸ hD, hS⟩)
theorem m_last (F : Fx p s m args meth c cc nL Ts own D y A0) (hM : MM D y nn ad A0 s.heap I J A B G H locs) {k a n q : Nat} {f : Nat → Int64} {B' : Nat → Nat → Int64} (hq : (mw y nn ad I J A B G)[k]? = some (a, .inl (y 1, n, .inr (.inl f)))) (hs : ∀ f1, (mw y nn ad I J A B G).set k (a, .inl (y 1, n, .inr (.inl f1))) = mw y nn ad I J A (va_up B q f1) G) {i : Int32} {x : Int64} (eA : va_up B q (vp_updL f i.toNatClampNeg x) = B') (hin : vp_in i n) (hdg : decode cc pc = .ok (.lastore, 1))
    (kk : ∀ (H1 : Heap) (locs1 : List Loc), MM D y nn ad A0 s.heap I J A B' G H1 locs1 → W p l e R s m args below meth c H1 locs1 cells slots Q (F0 m (pc + 1) ls rest)) : W p l e R s m args below meth c H locs cells slots Q (F0 m pc ls (.long x :: .int i :: .ref a :: rest)) := by
  subst eA
  exact va_last F.1.1 F.1.2.1 F.2.1 hM.1 hM.2.1 hM.2.2 k 1 hq rfl hin hdg (fun H1 locs1 hP hD hS => kk H1 locs1 ⟨hs _ ▸ hP, hs _ ▸ hD, hS⟩)
theorem m_rast (F : Fx p s m args meth c cc nL Ts own D y A0) (hM : MM D y nn ad A0 s.heap I J A B G H locs) {g i0 : Nat} (hg : g < 5) (h0 : i0 < nn) {M : Nat → Nat → Int32} (hf : G g = M) {G' : Nat → Nat → Nat → Int32} {i x : Int32} (eG : va_up G g (va_up M i0 (upd (M i0) i.toNatClampNeg x)) = G') (hin : vp_in i nn) (hdg : decode cc pc = .ok (.iastore, 1))
    (kk : ∀ (H1 : Heap) (locs1 : List Loc), MM D y nn ad A0 s.heap I J A B G' H1 locs1 → W p l e R s m args below meth c H1 locs1 cells slots Q (F0 m (pc + 1) ls rest)) : W p l e R s m args below meth c H locs cells slots Q (F0 m pc ls (.int x :: .int i :: .ref (rad ad g i0) :: rest)) := by
  subst hf
  subst eG
  have hm := mri_in hg h0
  obtain ⟨k, hk⟩ := mr_get (y := y) (nn := nn) (ad := ad) (I := I) (J := J) (A := A) (B := B) (G := G) hm
  have hs := mr_set hm hM.2.1 hk (upd (G g i0) i.toNatClampNeg x)
  exact va_iast F.1.1 F.1.2.1 F.2.1 hM.1 hM.2.1 hM.2.2 k 0 hk rfl hin hdg (fun H1 locs1 hP hD hS => kk H1 locs1 ⟨hs ▸ hP, hs ▸ hD, hS⟩)
theorem m_alen (F : Fx p s m args meth c cc nL Ts own D y A0) (hM : MM D y nn ad A0 s.heap I J A B G H locs) {k a t : Nat} {z : vp_A} {ty : FieldType} (hq : (mw y nn ad I J A B G)[k]? = some (a, .inl (y t, z))) (ht : (mtys y)[t]? = some (y t, ty)) {v : Int32} (hv : Int32.ofNat z.1 = v) (hdg : decode cc pc = .ok (.arraylength, 1))
    (kk : W p l e R s m args below meth c H locs cells slots Q (F0 m (pc + 1) ls (.int v :: rest))) : W p l e R s m args below meth c H locs cells slots Q (F0 m pc ls (.ref a :: rest)) := va_alen F.1.1 F.1.2.1 F.2.1 hM.1 k t hq ht hv hdg kk
theorem m_llt (F : Fx p s m args meth c cc nL Ts own D y A0) {a b : Int64} {off : Int} {tgt : Nat} (h1 : decode cc pc = .ok (.lcmp, 1)) (h2 : decode cc (pc + 1) = .ok (.ifCond .lt off, 3)) (ht : ((pc + 1 : Nat) : Int) + off = (tgt : Int)) (kt : a < b → W p l e R s m args below meth c H locs cells slots Q (F0 m tgt ls rest)) (kf : ¬ a < b → W p l e R s m args below meth c H locs cells slots Q (F0 m (pc + 1 + 3) ls rest)) : W p l e R s m args below meth c H locs cells slots Q (F0 m pc ls (.long b :: .long a :: rest)) :=
  W.lcmp F.1.1 F.1.2.1 h1 (lv_if_lt F.1.1 F.1.2.1 h2 ht (fun q => kt ((lg_cmp_lt a b).mp q)) (fun q => kf (fun z => q ((lg_cmp_lt a b).mpr z))))
theorem m_lge (F : Fx p s m args meth c cc nL Ts own D y A0) {a b : Int64} {off : Int} {tgt : Nat} (h1 : decode cc pc = .ok (.lcmp, 1)) (h2 : decode cc (pc + 1) = .ok (.ifCond .ge off, 3)) (ht : ((pc + 1 : Nat) : Int) + off = (tgt : Int)) (kt : b ≤ a → W p l e R s m args below meth c H locs cells slots Q (F0 m tgt ls rest)) (kf : ¬ b ≤ a → W p l e R s m args below meth c H locs cells slots Q (F0 m (pc + 1 + 3) ls rest)) : W p l e R s m args below meth c H locs cells slots Q (F0 m pc ls (.long b :: .long a :: rest)) :=
  W.lcmp F.1.1 F.1.2.1 h1 (lv_if_ge F.1.1 F.1.2.1 h2 ht (fun q => kt ((lg_cmp_ge a b).mp q)) (fun q => kf (fun z => q ((lg_cmp_ge a b).mpr z))))
theorem m_lgt (F : Fx p s m args meth c cc nL Ts own D y A0) {a b : Int64} {off : Int} {tgt : Nat} (h1 : decode cc pc = .ok (.lcmp, 1)) (h2 : decode cc (pc + 1) = .ok (.ifCond .gt off, 3)) (ht : ((pc + 1 : Nat) : Int) + off = (tgt : Int)) (kt : b < a → W p l e R s m args below meth c H locs cells slots Q (F0 m tgt ls rest)) (kf : ¬ b < a → W p l e R s m args below meth c H locs cells slots Q (F0 m (pc + 1 + 3) ls rest)) : W p l e R s m args below meth c H locs cells slots Q (F0 m pc ls (.long b :: .long a :: rest)) :=
  W.lcmp F.1.1 F.1.2.1 h1 (lv_if_gt F.1.1 F.1.2.1 h2 ht (fun q => kt ((lg_cmp_gt a b).mp q)) (fun q => kf (fun z => q ((lg_cmp_gt a b).mpr z))))
theorem m_lle (F : Fx p s m args meth c cc nL Ts own D y A0) {a b : Int64} {off : Int} {tgt : Nat} (h1 : decode cc pc = .ok (.lcmp, 1)) (h2 : decode cc (pc + 1) = .ok (.ifCond .le off, 3)) (ht : ((pc + 1 : Nat) : Int) + off = (tgt : Int)) (kt : a ≤ b → W p l e R s m args below meth c H locs cells slots Q (F0 m tgt ls rest)) (kf : ¬ a ≤ b → W p l e R s m args below meth c H locs cells slots Q (F0 m (pc + 1 + 3) ls rest)) : W p l e R s m args below meth c H locs cells slots Q (F0 m pc ls (.long b :: .long a :: rest)) :=
  W.lcmp F.1.1 F.1.2.1 h1 (lv_if_le F.1.1 F.1.2.1 h2 ht (fun q => kt ((lg_cmp_le a b).mp q)) (fun q => kf (fun z => q ((lg_cmp_le a b).mpr z))))
theorem m_leq (F : Fx p s m args meth c cc nL Ts own D y A0) {a b : Int64} {off : Int} {tgt : Nat} (h1 : decode cc pc = .ok (.lcmp, 1)) (h2 : decode cc (pc + 1) = .ok (.ifCond .eq off, 3)) (ht : ((pc + 1 : Nat) : Int) + off = (tgt : Int)) (kt : a = b → W p l e R s m args below meth c H locs cells slots Q (F0 m tgt ls rest)) (kf : ¬ a = b → W p l e R s m args below meth c H locs cells slots Q (F0 m (pc + 1 + 3) ls rest)) : W p l e R s m args below meth c H locs cells slots Q (F0 m pc ls (.long b :: .long a :: rest)) :=
  W.lcmp F.1.1 F.1.2.1 h1 (lv_if_eq F.1.1 F.1.2.1 h2 ht (fun q => kt ((lg_cmp_eq a b).mp q)) (fun q => kf (fun z => q ((lg_cmp_eq a b).mpr z))))
theorem m_lne (F : Fx p s m args meth c cc nL Ts own D y A0) {a b : Int64} {off : Int} {tgt : Nat} (h1 : decode cc pc = .ok (.lcmp, 1)) (h2 : decode cc (pc + 1) = .ok (.ifCond .ne off, 3)) (ht : ((pc + 1 : Nat) : Int) + off = (tgt : Int)) (kt : ¬ a = b → W p l e R s m args below meth c H locs cells slots Q (F0 m tgt ls rest)) (kf : a = b → W p l e R s m args below meth c H locs cells slots Q (F0 m (pc + 1 + 3) ls rest)) : W p l e R s m args below meth c H locs cells slots Q (F0 m pc ls (.long b :: .long a :: rest)) :=
  W.lcmp F.1.1 F.1.2.1 h1 (lv_if_ne F.1.1 F.1.2.1 h2 ht (fun q => kt (fun z => q ((lg_cmp_eq a b).mpr z))) (fun q => kf ((lg_cmp_eq a b).mp q)))
theorem m_iret (F : Fx p s m args meth c cc nL Ts own D y A0) (hM : MM D y nn ad A0 s.heap I J A B G H locs) (hr : meth.sig.returnType = some .int) {r0 v : Int32} {u0 : mSt} (hv : v = r0) (hu : (I, J, A, B, G) = u0) (hdg : decode cc pc = .ok (.ireturn, 1)) : W p l e R s m args below meth c H locs 0 0 (MQ below (mQi D y nn ad A0 r0 u0) args s 0 0 A0) (F0 m pc ls [.int v]) := by
  have hlk := F.2.2.2.2
  exact W.iret F.1.1 F.1.2.1 hr (fun t ht hW => ⟨⟨v, (I, J, A, B, G), rfl, ⟨hv, hu⟩, by rw [ht]; exact hM.1, va_K.moved hW.alike F.2.1, hM.2.1⟩, hM.2.2.F ht⟩) hM.2.2.2.2 hdg hlk
theorem m_zret (F : Fx p s m args meth c cc nL Ts own D y A0) (hM : MM D y nn ad A0 s.heap I J A B G H locs) (hr : meth.sig.returnType = some .boolean) {r0 v : Int32} {u0 : mSt} (hz : v = 0 ∨ v = 1) (hv : v = r0) (hu : (I, J, A, B, G) = u0) (hdg : decode cc pc = .ok (.ireturn, 1)) : W p l e R s m args below meth c H locs 0 0 (MQ below (mQi D y nn ad A0 r0 u0) args s 0 0 A0) (F0 m pc ls [.int v]) := by
  have hlk := F.2.2.2.2
  exact W.zret F.1.1 F.1.2.1 hr (by rcases hz with rfl | rfl <;> rfl) (fun t ht hW => ⟨⟨v, (I, J, A, B, G), rfl, ⟨hv, hu⟩, by rw [ht]; exact hM.1, va_K.moved hW.alike F.2.1, hM.2.1⟩, hM.2.2.F ht⟩) hM.2.2.2.2 hdg hlk
theorem m_lret (F : Fx p s m args meth c cc nL Ts own D y A0) (hM : MM D y nn ad A0 s.heap I J A B G H locs) (hr : meth.sig.returnType = some .long) {r0 v : Int64} {u0 : mSt} (hv : v = r0) (hu : (I, J, A, B, G) = u0) (hdg : decode cc pc = .ok (.lreturn, 1)) : W p l e R s m args below meth c H locs 0 0 (MQ below (mQl D y nn ad A0 r0 u0) args s 0 0 A0) (F0 m pc ls [.long v]) := by
  have hlk := F.2.2.2.2
  exact W.lret F.1.1 F.1.2.1 hr (fun t ht hW => ⟨⟨v, (I, J, A, B, G), rfl, ⟨hv, hu⟩, by rw [ht]; exact hM.1, va_K.moved hW.alike F.2.1, hM.2.1⟩, hM.2.2.F ht⟩) hM.2.2.2.2 hdg hlk
theorem m_vret (F : Fx p s m args meth c cc nL Ts own D y A0) (hM : MM D y nn ad A0 s.heap I J A B G H locs) (hr : meth.sig.returnType = none) {u0 : mSt} (hu : (I, J, A, B, G) = u0) (hdg : decode cc pc = .ok (.return_, 1)) : W p l e R s m args below meth c H locs 0 0 (MQ below (mQv D y nn ad A0 u0) args s 0 0 A0) (F0 m pc ls []) := by
  have hlk := F.2.2.2.2
  exact W.vret F.1.1 F.1.2.1 hr (fun t ht hW => ⟨⟨(I, J, A, B, G), rfl, hu, by rw [ht]; exact hM.1, va_K.moved hW.alike F.2.1, hM.2.1⟩, hM.2.2.F ht⟩) hM.2.2.2.2 hdg hlk
theorem m_callVi (F : Fx p s m args meth c cc nL Ts own D y A0) (hM : MM D y nn ad A0 s.heap I J A B G H locs) {ym : MethodName} {bytes : ByteArray} {maxL n index : Nat} {b : Nat} {C : String} {ret : Option FieldType} {ws : List Cond} {rm : Room} {r0 : Int32} {I1 I2 : Nat → Int32} {J1 J2 : Nat → Int64} {A1 A2 : Nat → Nat → Int32} {B1 B2 : Nat → Nat → Int64} {G1 G2 : Nat → Nat → Nat → Int32} {As : List Value} (hMet : Met l ym ws rm (mPc (Value.ref b :: As) D y nn ad H.size I J A B G) (mQi D y nn ad (mA y nn ad I J A B G H.size) r0 (I1, J1, A1, B1, G1)) 0 0 (mA y nn ad I J A B G H.size)) (cw : CallW R s args own C index ym bytes maxL ret ws rm 0 0 n) (hv : ∃ cell : Cell, H[b]? = some cell ∧ cell.vm.isStatics = false ∧ s.vm.findClass C = some cell.cls) (hn : As.length = n) (hl : ls.size = nL) (hw8 : (rest.map fun v => v.category).sum ≤ 8) (hdg : decode cc pc = .ok (.invokevirtual index, 3)) (hf : cells ≤ R.cells ∧ slots ≤ R.slots) (eI : I1 = I2) (eJ : J1 = J2) (eA : A1 = A2) (eB : B1 = B2) (eG : G1 = G2)
    (kk : ∀ (H1 : Heap) (locs1 : List Loc), MM D y nn ad A0 s.heap I2 J2 A2 B2 G2 H1 locs1 → W p l e R s m args below meth c H1 locs1 cells slots Q (F0 m (pc + 3) ls (.int r0 :: rest))) : W p l e R s m args below meth c H locs cells slots Q (F0 m pc ls (As.reverse ++ .ref b :: rest)) := by
  subst eI; subst eJ; subst eA; subst eB; subst eG
  have hFc : ∀ q, mA y nn ad I J A B G H.size q → A0 q := by
    intro q h
    rcases h with ⟨k, e, h⟩ | h
    · exact hM.2.1.2 k (q, e) h
    · exact F.2.2.2.1 q (Nat.le_trans hM.2.2.1 h)
  refine va_calli (va_runV (As := As) (rest := rest) F.1 hMet cw ⟨mPc_blind, hv, fun U hU hW => ⟨rfl, by rw [hU], by rw [hU]; exact hM.1, va_K.moved hW.alike F.2.1, hM.2.1.weaken (fun _ _ _ _ => trivial), F.2.2.1.warm hW⟩⟩ rfl hn hl rfl (lv_room hw8) hdg hf) hM.2.2 (fun q _ h => hFc q h) hFc (fun r u t H1 locs1 ht hvm hw hB hz1 hk1 hS1 => ?_)
  obtain ⟨rfl, rfl⟩ := hw
  obtain ⟨hP1, hK1, hD1⟩ := hB
  rw [ht] at hP1
  exact kk H1 locs1 ⟨hP1, hD1.weaken (fun _ _ _ h => hFc _ h), hS1⟩
theorem m_callVl (F : Fx p s m args meth c cc nL Ts own D y A0) (hM : MM D y nn ad A0 s.heap I J A B G H locs) {ym : MethodName} {bytes : ByteArray} {maxL n index : Nat} {b : Nat} {C : String} {ret : Option FieldType} {ws : List Cond} {rm : Room} {r0 : Int64} {I1 I2 : Nat → Int32} {J1 J2 : Nat → Int64} {A1 A2 : Nat → Nat → Int32} {B1 B2 : Nat → Nat → Int64} {G1 G2 : Nat → Nat → Nat → Int32} {As : List Value} (hMet : Met l ym ws rm (mPc (Value.ref b :: As) D y nn ad H.size I J A B G) (mQl D y nn ad (mA y nn ad I J A B G H.size) r0 (I1, J1, A1, B1, G1)) 0 0 (mA y nn ad I J A B G H.size)) (cw : CallW R s args own C index ym bytes maxL ret ws rm 0 0 n) (hv : ∃ cell : Cell, H[b]? = some cell ∧ cell.vm.isStatics = false ∧ s.vm.findClass C = some cell.cls) (hn : As.length = n) (hl : ls.size = nL) (hw8 : (rest.map fun v => v.category).sum ≤ 8) (hdg : decode cc pc = .ok (.invokevirtual index, 3)) (hf : cells ≤ R.cells ∧ slots ≤ R.slots) (eI : I1 = I2) (eJ : J1 = J2) (eA : A1 = A2) (eB : B1 = B2) (eG : G1 = G2)
    (kk : ∀ (H1 : Heap) (locs1 : List Loc), MM D y nn ad A0 s.heap I2 J2 A2 B2 G2 H1 locs1 → W p l e R s m args below meth c H1 locs1 cells slots Q (F0 m (pc + 3) ls (.long r0 :: rest))) : W p l e R s m args below meth c H locs cells slots Q (F0 m pc ls (As.reverse ++ .ref b :: rest)) := by
  subst eI; subst eJ; subst eA; subst eB; subst eG
  have hFc : ∀ q, mA y nn ad I J A B G H.size q → A0 q := by
    intro q h
    rcases h with ⟨k, e, h⟩ | h
    · exact hM.2.1.2 k (q, e) h
    · exact F.2.2.2.1 q (Nat.le_trans hM.2.2.1 h)
  refine va_calll (va_runV (As := As) (rest := rest) F.1 hMet cw ⟨mPc_blind, hv, fun U hU hW => ⟨rfl, by rw [hU], by rw [hU]; exact hM.1, va_K.moved hW.alike F.2.1, hM.2.1.weaken (fun _ _ _ _ => trivial), F.2.2.1.warm hW⟩⟩ rfl hn hl rfl (lv_room hw8) hdg hf) hM.2.2 (fun q _ h => hFc q h) hFc (fun r u t H1 locs1 ht hvm hw hB hz1 hk1 hS1 => ?_)
  obtain ⟨rfl, rfl⟩ := hw
  obtain ⟨hP1, hK1, hD1⟩ := hB
  rw [ht] at hP1
  exact kk H1 locs1 ⟨hP1, hD1.weaken (fun _ _ _ h => hFc _ h), hS1⟩
theorem m_callVv (F : Fx p s m args meth c cc nL Ts own D y A0) (hM : MM D y nn ad A0 s.heap I J A B G H locs) {ym : MethodName} {bytes : ByteArray} {maxL n index : Nat} {b : Nat} {C : String} {ret : Option FieldType} {ws : List Cond} {rm : Room} {I1 I2 : Nat → Int32} {J1 J2 : Nat → Int64} {A1 A2 : Nat → Nat → Int32} {B1 B2 : Nat → Nat → Int64} {G1 G2 : Nat → Nat → Nat → Int32} {As : List Value} (hMet : Met l ym ws rm (mPc (Value.ref b :: As) D y nn ad H.size I J A B G) (mQv D y nn ad (mA y nn ad I J A B G H.size) (I1, J1, A1, B1, G1)) 0 0 (mA y nn ad I J A B G H.size)) (cw : CallW R s args own C index ym bytes maxL ret ws rm 0 0 n) (hv : ∃ cell : Cell, H[b]? = some cell ∧ cell.vm.isStatics = false ∧ s.vm.findClass C = some cell.cls) (hn : As.length = n) (hl : ls.size = nL) (hw8 : (rest.map fun v => v.category).sum ≤ 8) (hdg : decode cc pc = .ok (.invokevirtual index, 3)) (hf : cells ≤ R.cells ∧ slots ≤ R.slots) (eI : I1 = I2) (eJ : J1 = J2) (eA : A1 = A2) (eB : B1 = B2) (eG : G1 = G2)
    (kk : ∀ (H1 : Heap) (locs1 : List Loc), MM D y nn ad A0 s.heap I2 J2 A2 B2 G2 H1 locs1 → W p l e R s m args below meth c H1 locs1 cells slots Q (F0 m (pc + 3) ls (rest))) : W p l e R s m args below meth c H locs cells slots Q (F0 m pc ls (As.reverse ++ .ref b :: rest)) := by
  subst eI; subst eJ; subst eA; subst eB; subst eG
  have hFc : ∀ q, mA y nn ad I J A B G H.size q → A0 q := by
    intro q h
    rcases h with ⟨k, e, h⟩ | h
    · exact hM.2.1.2 k (q, e) h
    · exact F.2.2.2.1 q (Nat.le_trans hM.2.2.1 h)
  refine va_callv (va_runV (As := As) (rest := rest) F.1 hMet cw ⟨mPc_blind, hv, fun U hU hW => ⟨rfl, by rw [hU], by rw [hU]; exact hM.1, va_K.moved hW.alike F.2.1, hM.2.1.weaken (fun _ _ _ _ => trivial), F.2.2.1.warm hW⟩⟩ rfl hn hl rfl (lv_room hw8) hdg hf) hM.2.2 (fun q _ h => hFc q h) hFc (fun u t H1 locs1 ht hvm hw hB hz1 hk1 hS1 => ?_)
  obtain rfl := hw
  obtain ⟨hP1, hK1, hD1⟩ := hB
  rw [ht] at hP1
  exact kk H1 locs1 ⟨hP1, hD1.weaken (fun _ _ _ h => hFc _ h), hS1⟩
theorem m_callSi (F : Fx p s m args meth c cc nL Ts own D y A0) (hM : MM D y nn ad A0 s.heap I J A B G H locs) {ym : MethodName} {bytes : ByteArray} {maxL n index : Nat} {ret : Option FieldType} {ws : List Cond} {rm : Room} {r0 : Int32} {I1 I2 : Nat → Int32} {J1 J2 : Nat → Int64} {A1 A2 : Nat → Nat → Int32} {B1 B2 : Nat → Nat → Int64} {G1 G2 : Nat → Nat → Nat → Int32} {As : List Value} (hMet : Met l ym ws rm (mPc As D y nn ad H.size I J A B G) (mQi D y nn ad (mA y nn ad I J A B G H.size) r0 (I1, J1, A1, B1, G1)) 0 0 (mA y nn ad I J A B G H.size)) (cw : CallB R s args own index ym bytes maxL ret ws rm 0 0 n ∧ (Cond.static ym).before args s = true) (hn : As.length = n) (hl : ls.size = nL) (hw8 : (rest.map fun v => v.category).sum ≤ 8) (hdg : decode cc pc = .ok (.invokestatic index, 3)) (hf : cells ≤ R.cells ∧ slots ≤ R.slots) (eI : I1 = I2) (eJ : J1 = J2) (eA : A1 = A2) (eB : B1 = B2) (eG : G1 = G2)
    (kk : ∀ (H1 : Heap) (locs1 : List Loc), MM D y nn ad A0 s.heap I2 J2 A2 B2 G2 H1 locs1 → W p l e R s m args below meth c H1 locs1 cells slots Q (F0 m (pc + 3) ls (.int r0 :: rest))) : W p l e R s m args below meth c H locs cells slots Q (F0 m pc ls (As.reverse ++ rest)) := by
  subst eI; subst eJ; subst eA; subst eB; subst eG
  have hFc : ∀ q, mA y nn ad I J A B G H.size q → A0 q := by
    intro q h
    rcases h with ⟨k, e, h⟩ | h
    · exact hM.2.1.2 k (q, e) h
    · exact F.2.2.2.1 q (Nat.le_trans hM.2.2.1 h)
  refine va_calli (va_runS (As := As) (rest := rest) F.1 hMet cw ⟨mPc_blind, fun U hU hW => ⟨rfl, by rw [hU], by rw [hU]; exact hM.1, va_K.moved hW.alike F.2.1, hM.2.1.weaken (fun _ _ _ _ => trivial), F.2.2.1.warm hW⟩⟩ rfl hn hl rfl (lv_room hw8) hdg hf) hM.2.2 (fun q _ h => hFc q h) hFc (fun r u t H1 locs1 ht hvm hw hB hz1 hk1 hS1 => ?_)
  obtain ⟨rfl, rfl⟩ := hw
  obtain ⟨hP1, hK1, hD1⟩ := hB
  rw [ht] at hP1
  exact kk H1 locs1 ⟨hP1, hD1.weaken (fun _ _ _ h => hFc _ h), hS1⟩
theorem m_callSl (F : Fx p s m args meth c cc nL Ts own D y A0) (hM : MM D y nn ad A0 s.heap I J A B G H locs) {ym : MethodName} {bytes : ByteArray} {maxL n index : Nat} {ret : Option FieldType} {ws : List Cond} {rm : Room} {r0 : Int64} {I1 I2 : Nat → Int32} {J1 J2 : Nat → Int64} {A1 A2 : Nat → Nat → Int32} {B1 B2 : Nat → Nat → Int64} {G1 G2 : Nat → Nat → Nat → Int32} {As : List Value} (hMet : Met l ym ws rm (mPc As D y nn ad H.size I J A B G) (mQl D y nn ad (mA y nn ad I J A B G H.size) r0 (I1, J1, A1, B1, G1)) 0 0 (mA y nn ad I J A B G H.size)) (cw : CallB R s args own index ym bytes maxL ret ws rm 0 0 n ∧ (Cond.static ym).before args s = true) (hn : As.length = n) (hl : ls.size = nL) (hw8 : (rest.map fun v => v.category).sum ≤ 8) (hdg : decode cc pc = .ok (.invokestatic index, 3)) (hf : cells ≤ R.cells ∧ slots ≤ R.slots) (eI : I1 = I2) (eJ : J1 = J2) (eA : A1 = A2) (eB : B1 = B2) (eG : G1 = G2)
    (kk : ∀ (H1 : Heap) (locs1 : List Loc), MM D y nn ad A0 s.heap I2 J2 A2 B2 G2 H1 locs1 → W p l e R s m args below meth c H1 locs1 cells slots Q (F0 m (pc + 3) ls (.long r0 :: rest))) : W p l e R s m args below meth c H locs cells slots Q (F0 m pc ls (As.reverse ++ rest)) := by
  subst eI; subst eJ; subst eA; subst eB; subst eG
  have hFc : ∀ q, mA y nn ad I J A B G H.size q → A0 q := by
    intro q h
    rcases h with ⟨k, e, h⟩ | h
    · exact hM.2.1.2 k (q, e) h
    · exact F.2.2.2.1 q (Nat.le_trans hM.2.2.1 h)
  refine va_calll (va_runS (As := As) (rest := rest) F.1 hMet cw ⟨mPc_blind, fun U hU hW => ⟨rfl, by rw [hU], by rw [hU]; exact hM.1, va_K.moved hW.alike F.2.1, hM.2.1.weaken (fun _ _ _ _ => trivial), F.2.2.1.warm hW⟩⟩ rfl hn hl rfl (lv_room hw8) hdg hf) hM.2.2 (fun q _ h => hFc q h) hFc (fun r u t H1 locs1 ht hvm hw hB hz1 hk1 hS1 => ?_)
  obtain ⟨rfl, rfl⟩ := hw
  obtain ⟨hP1, hK1, hD1⟩ := hB
  rw [ht] at hP1
  exact kk H1 locs1 ⟨hP1, hD1.weaken (fun _ _ _ h => hFc _ h), hS1⟩
theorem m_callSv (F : Fx p s m args meth c cc nL Ts own D y A0) (hM : MM D y nn ad A0 s.heap I J A B G H locs) {ym : MethodName} {bytes : ByteArray} {maxL n index : Nat} {ret : Option FieldType} {ws : List Cond} {rm : Room} {I1 I2 : Nat → Int32} {J1 J2 : Nat → Int64} {A1 A2 : Nat → Nat → Int32} {B1 B2 : Nat → Nat → Int64} {G1 G2 : Nat → Nat → Nat → Int32} {As : List Value} (hMet : Met l ym ws rm (mPc As D y nn ad H.size I J A B G) (mQv D y nn ad (mA y nn ad I J A B G H.size) (I1, J1, A1, B1, G1)) 0 0 (mA y nn ad I J A B G H.size)) (cw : CallB R s args own index ym bytes maxL ret ws rm 0 0 n ∧ (Cond.static ym).before args s = true) (hn : As.length = n) (hl : ls.size = nL) (hw8 : (rest.map fun v => v.category).sum ≤ 8) (hdg : decode cc pc = .ok (.invokestatic index, 3)) (hf : cells ≤ R.cells ∧ slots ≤ R.slots) (eI : I1 = I2) (eJ : J1 = J2) (eA : A1 = A2) (eB : B1 = B2) (eG : G1 = G2)
    (kk : ∀ (H1 : Heap) (locs1 : List Loc), MM D y nn ad A0 s.heap I2 J2 A2 B2 G2 H1 locs1 → W p l e R s m args below meth c H1 locs1 cells slots Q (F0 m (pc + 3) ls (rest))) : W p l e R s m args below meth c H locs cells slots Q (F0 m pc ls (As.reverse ++ rest)) := by
  subst eI; subst eJ; subst eA; subst eB; subst eG
  have hFc : ∀ q, mA y nn ad I J A B G H.size q → A0 q := by
    intro q h
    rcases h with ⟨k, e, h⟩ | h
    · exact hM.2.1.2 k (q, e) h
    · exact F.2.2.2.1 q (Nat.le_trans hM.2.2.1 h)
  refine va_callv (va_runS (As := As) (rest := rest) F.1 hMet cw ⟨mPc_blind, fun U hU hW => ⟨rfl, by rw [hU], by rw [hU]; exact hM.1, va_K.moved hW.alike F.2.1, hM.2.1.weaken (fun _ _ _ _ => trivial), F.2.2.1.warm hW⟩⟩ rfl hn hl rfl (lv_room hw8) hdg hf) hM.2.2 (fun q _ h => hFc q h) hFc (fun u t H1 locs1 ht hvm hw hB hz1 hk1 hS1 => ?_)
  obtain rfl := hw
  obtain ⟨hP1, hK1, hD1⟩ := hB
  rw [ht] at hP1
  exact kk H1 locs1 ⟨hP1, hD1.weaken (fun _ _ _ h => hFc _ h), hS1⟩
theorem m_recv (F : Fx p s m args meth c cc nL Ts own D y A0) (hM : MM D y nn ad A0 s.heap I J A B G H locs) {q : vw_C} {k a ci : Nat} {fs : List Value} (he : (mw y nn ad I J A B G)[k]? = some (a, .inr (ci, fs))) (hc : vwCl[ci]? = some q) : ∃ cell : Cell, H[a]? = some cell ∧ cell.vm.isStatics = false ∧ s.vm.findClass q.1 = some cell.cls := va_recv F.2.1 hM.1 hc he
theorem m_start {sz : Nat} (hsz : s.heap.size = sz) (hP : va_P D vwCl (mw y nn ad I J A B G) s.heap) (hD : va_D (fun _ => True) (mw y nn ad I J A B G)) : MM D y nn ad (mA y nn ad I J A B G sz) s.heap I J A B G s.heap [] := ⟨hP, hD.self, va_S.rf⟩
theorem m_mem {I2 : Nat → Int32} {J2 : Nat → Int64} {A2 : Nat → Nat → Int32} {B2 : Nat → Nat → Int64} {G2 : Nat → Nat → Nat → Int32} (hM : MM D y nn ad A0 s.heap I J A B G H locs) (eI : I2 = I) (eJ : J2 = J) (eA : A2 = A) (eB : B2 = B) (eG : G2 = G) : MM D y nn ad A0 s.heap I2 J2 A2 B2 G2 H locs := by
  subst eI; subst eJ; subst eA; subst eB; subst eG; exact hM
end MR
