theorem un_0_1__0 {α : Type} {f : Nat → α} {x0 x1 z0 : α} : (va_up (va_up (va_up f 0 x0) 1 x1) 0 z0) = (va_up (va_up f 0 z0) 1 x1) := by
  funext q
  by_cases h0 : q = 0 <;> by_cases h1 : q = 1 <;> simp [va_up, h0, h1]
theorem un_0_1__1 {α : Type} {f : Nat → α} {x0 x1 z0 : α} : (va_up (va_up (va_up f 0 x0) 1 x1) 1 z0) = (va_up (va_up f 0 x0) 1 z0) := by
  funext q
  by_cases h0 : q = 0 <;> by_cases h1 : q = 1 <;> simp [va_up, h0, h1]
theorem un_1_4__1 {α : Type} {f : Nat → α} {x0 x1 z0 : α} : (va_up (va_up (va_up f 1 x0) 4 x1) 1 z0) = (va_up (va_up f 1 z0) 4 x1) := by
  funext q
  by_cases h1 : q = 1 <;> by_cases h4 : q = 4 <;> simp [va_up, h1, h4]
theorem un_1_4__4 {α : Type} {f : Nat → α} {x0 x1 z0 : α} : (va_up (va_up (va_up f 1 x0) 4 x1) 4 z0) = (va_up (va_up f 1 x0) 4 z0) := by
  funext q
  by_cases h1 : q = 1 <;> by_cases h4 : q = 4 <;> simp [va_up, h1, h4]
theorem un_20_21_22_23_24_25_33__20_21_22 {α : Type} {f : Nat → α} {x0 x1 x2 x3 x4 x5 x6 z0 z1 z2 : α} : (va_up (va_up (va_up (va_up (va_up (va_up (va_up (va_up (va_up (va_up f 20 x0) 21 x1) 22 x2) 23 x3) 24 x4) 25 x5) 33 x6) 20 z0) 21 z1) 22 z2) = (va_up (va_up (va_up (va_up (va_up (va_up (va_up f 20 z0) 21 z1) 22 z2) 23 x3) 24 x4) 25 x5) 33 x6) := by
  funext q
  by_cases h20 : q = 20 <;> by_cases h21 : q = 21 <;> by_cases h22 : q = 22 <;> by_cases h23 : q = 23 <;> by_cases h24 : q = 24 <;> by_cases h25 : q = 25 <;> by_cases h33 : q = 33 <;> simp [va_up, h20, h21, h22, h23, h24, h25, h33]
theorem un_20_21_22_23_24_25_33__23_24_25 {α : Type} {f : Nat → α} {x0 x1 x2 x3 x4 x5 x6 z0 z1 z2 : α} : (va_up (va_up (va_up (va_up (va_up (va_up (va_up (va_up (va_up (va_up f 20 x0) 21 x1) 22 x2) 23 x3) 24 x4) 25 x5) 33 x6) 23 z0) 24 z1) 25 z2) = (va_up (va_up (va_up (va_up (va_up (va_up (va_up f 20 x0) 21 x1) 22 x2) 23 z0) 24 z1) 25 z2) 33 x6) := by
  funext q
  by_cases h20 : q = 20 <;> by_cases h21 : q = 21 <;> by_cases h22 : q = 22 <;> by_cases h23 : q = 23 <;> by_cases h24 : q = 24 <;> by_cases h25 : q = 25 <;> by_cases h33 : q = 33 <;> simp [va_up, h20, h21, h22, h23, h24, h25, h33]
theorem un_20_21_22_23_24_25_33__33 {α : Type} {f : Nat → α} {x0 x1 x2 x3 x4 x5 x6 z0 : α} : (va_up (va_up (va_up (va_up (va_up (va_up (va_up (va_up f 20 x0) 21 x1) 22 x2) 23 x3) 24 x4) 25 x5) 33 x6) 33 z0) = (va_up (va_up (va_up (va_up (va_up (va_up (va_up f 20 x0) 21 x1) 22 x2) 23 x3) 24 x4) 25 x5) 33 z0) := by
  funext q
  by_cases h20 : q = 20 <;> by_cases h21 : q = 21 <;> by_cases h22 : q = 22 <;> by_cases h23 : q = 23 <;> by_cases h24 : q = 24 <;> by_cases h25 : q = 25 <;> by_cases h33 : q = 33 <;> simp [va_up, h20, h21, h22, h23, h24, h25, h33]
theorem un_20_21_22_23_24_25__20_21_22 {α : Type} {f : Nat → α} {x0 x1 x2 x3 x4 x5 z0 z1 z2 : α} : (va_up (va_up (va_up (va_up (va_up (va_up (va_up (va_up (va_up f 20 x0) 21 x1) 22 x2) 23 x3) 24 x4) 25 x5) 20 z0) 21 z1) 22 z2) = (va_up (va_up (va_up (va_up (va_up (va_up f 20 z0) 21 z1) 22 z2) 23 x3) 24 x4) 25 x5) := by
  funext q
  by_cases h20 : q = 20 <;> by_cases h21 : q = 21 <;> by_cases h22 : q = 22 <;> by_cases h23 : q = 23 <;> by_cases h24 : q = 24 <;> by_cases h25 : q = 25 <;> simp [va_up, h20, h21, h22, h23, h24, h25]
theorem un_20_21_22_23_24_25__23_24_25 {α : Type} {f : Nat → α} {x0 x1 x2 x3 x4 x5 z0 z1 z2 : α} : (va_up (va_up (va_up (va_up (va_up (va_up (va_up (va_up (va_up f 20 x0) 21 x1) 22 x2) 23 x3) 24 x4) 25 x5) 23 z0) 24 z1) 25 z2) = (va_up (va_up (va_up (va_up (va_up (va_up f 20 x0) 21 x1) 22 x2) 23 z0) 24 z1) 25 z2) := by
  funext q
  by_cases h20 : q = 20 <;> by_cases h21 : q = 21 <;> by_cases h22 : q = 22 <;> by_cases h23 : q = 23 <;> by_cases h24 : q = 24 <;> by_cases h25 : q = 25 <;> simp [va_up, h20, h21, h22, h23, h24, h25]
theorem un_20_21_22__20 {α : Type} {f : Nat → α} {x0 x1 x2 z0 : α} : (va_up (va_up (va_up (va_up f 20 x0) 21 x1) 22 x2) 20 z0) = (va_up (va_up (va_up f 20 z0) 21 x1) 22 x2) := by
  funext q
  by_cases h20 : q = 20 <;> by_cases h21 : q = 21 <;> by_cases h22 : q = 22 <;> simp [va_up, h20, h21, h22]
theorem un_20_21_22__20_21_22 {α : Type} {f : Nat → α} {x0 x1 x2 z0 z1 z2 : α} : (va_up (va_up (va_up (va_up (va_up (va_up f 20 x0) 21 x1) 22 x2) 20 z0) 21 z1) 22 z2) = (va_up (va_up (va_up f 20 z0) 21 z1) 22 z2) := by
  funext q
  by_cases h20 : q = 20 <;> by_cases h21 : q = 21 <;> by_cases h22 : q = 22 <;> simp [va_up, h20, h21, h22]
theorem un_20_21_22__21_22 {α : Type} {f : Nat → α} {x0 x1 x2 z0 z1 : α} : (va_up (va_up (va_up (va_up (va_up f 20 x0) 21 x1) 22 x2) 21 z0) 22 z1) = (va_up (va_up (va_up f 20 x0) 21 z0) 22 z1) := by
  funext q
  by_cases h20 : q = 20 <;> by_cases h21 : q = 21 <;> by_cases h22 : q = 22 <;> simp [va_up, h20, h21, h22]
theorem un_21_22__21 {α : Type} {f : Nat → α} {x0 x1 z0 : α} : (va_up (va_up (va_up f 21 x0) 22 x1) 21 z0) = (va_up (va_up f 21 z0) 22 x1) := by
  funext q
  by_cases h21 : q = 21 <;> by_cases h22 : q = 22 <;> simp [va_up, h21, h22]
theorem un_21_22__21_22 {α : Type} {f : Nat → α} {x0 x1 z0 z1 : α} : (va_up (va_up (va_up (va_up f 21 x0) 22 x1) 21 z0) 22 z1) = (va_up (va_up f 21 z0) 22 z1) := by
  funext q
  by_cases h21 : q = 21 <;> by_cases h22 : q = 22 <;> simp [va_up, h21, h22]
theorem un_21_22__22 {α : Type} {f : Nat → α} {x0 x1 z0 : α} : (va_up (va_up (va_up f 21 x0) 22 x1) 22 z0) = (va_up (va_up f 21 x0) 22 z0) := by
  funext q
  by_cases h21 : q = 21 <;> by_cases h22 : q = 22 <;> simp [va_up, h21, h22]
theorem un_23_24_25__23 {α : Type} {f : Nat → α} {x0 x1 x2 z0 : α} : (va_up (va_up (va_up (va_up f 23 x0) 24 x1) 25 x2) 23 z0) = (va_up (va_up (va_up f 23 z0) 24 x1) 25 x2) := by
  funext q
  by_cases h23 : q = 23 <;> by_cases h24 : q = 24 <;> by_cases h25 : q = 25 <;> simp [va_up, h23, h24, h25]
theorem un_23_24_25__23_24_25 {α : Type} {f : Nat → α} {x0 x1 x2 z0 z1 z2 : α} : (va_up (va_up (va_up (va_up (va_up (va_up f 23 x0) 24 x1) 25 x2) 23 z0) 24 z1) 25 z2) = (va_up (va_up (va_up f 23 z0) 24 z1) 25 z2) := by
  funext q
  by_cases h23 : q = 23 <;> by_cases h24 : q = 24 <;> by_cases h25 : q = 25 <;> simp [va_up, h23, h24, h25]
theorem un_23_24_25__24_25 {α : Type} {f : Nat → α} {x0 x1 x2 z0 z1 : α} : (va_up (va_up (va_up (va_up (va_up f 23 x0) 24 x1) 25 x2) 24 z0) 25 z1) = (va_up (va_up (va_up f 23 x0) 24 z0) 25 z1) := by
  funext q
  by_cases h23 : q = 23 <;> by_cases h24 : q = 24 <;> by_cases h25 : q = 25 <;> simp [va_up, h23, h24, h25]
theorem un_24_25__24 {α : Type} {f : Nat → α} {x0 x1 z0 : α} : (va_up (va_up (va_up f 24 x0) 25 x1) 24 z0) = (va_up (va_up f 24 z0) 25 x1) := by
  funext q
  by_cases h24 : q = 24 <;> by_cases h25 : q = 25 <;> simp [va_up, h24, h25]
theorem un_24_25__25 {α : Type} {f : Nat → α} {x0 x1 z0 : α} : (va_up (va_up (va_up f 24 x0) 25 x1) 25 z0) = (va_up (va_up f 24 x0) 25 z0) := by
  funext q
  by_cases h24 : q = 24 <;> by_cases h25 : q = 25 <;> simp [va_up, h24, h25]
theorem un_26_27__26 {α : Type} {f : Nat → α} {x0 x1 z0 : α} : (va_up (va_up (va_up f 26 x0) 27 x1) 26 z0) = (va_up (va_up f 26 z0) 27 x1) := by
  funext q
  by_cases h26 : q = 26 <;> by_cases h27 : q = 27 <;> simp [va_up, h26, h27]
theorem un_26_27__26_27 {α : Type} {f : Nat → α} {x0 x1 z0 z1 : α} : (va_up (va_up (va_up (va_up f 26 x0) 27 x1) 26 z0) 27 z1) = (va_up (va_up f 26 z0) 27 z1) := by
  funext q
  by_cases h26 : q = 26 <;> by_cases h27 : q = 27 <;> simp [va_up, h26, h27]
theorem un_26_27__27 {α : Type} {f : Nat → α} {x0 x1 z0 : α} : (va_up (va_up (va_up f 26 x0) 27 x1) 27 z0) = (va_up (va_up f 26 x0) 27 z0) := by
  funext q
  by_cases h26 : q = 26 <;> by_cases h27 : q = 27 <;> simp [va_up, h26, h27]
theorem un_28_29_30_31_32__28_29_30 {α : Type} {f : Nat → α} {x0 x1 x2 x3 x4 z0 z1 z2 : α} : (va_up (va_up (va_up (va_up (va_up (va_up (va_up (va_up f 28 x0) 29 x1) 30 x2) 31 x3) 32 x4) 28 z0) 29 z1) 30 z2) = (va_up (va_up (va_up (va_up (va_up f 28 z0) 29 z1) 30 z2) 31 x3) 32 x4) := by
  funext q
  by_cases h28 : q = 28 <;> by_cases h29 : q = 29 <;> by_cases h30 : q = 30 <;> by_cases h31 : q = 31 <;> by_cases h32 : q = 32 <;> simp [va_up, h28, h29, h30, h31, h32]
theorem un_28_29_30_31_32__31_32 {α : Type} {f : Nat → α} {x0 x1 x2 x3 x4 z0 z1 : α} : (va_up (va_up (va_up (va_up (va_up (va_up (va_up f 28 x0) 29 x1) 30 x2) 31 x3) 32 x4) 31 z0) 32 z1) = (va_up (va_up (va_up (va_up (va_up f 28 x0) 29 x1) 30 x2) 31 z0) 32 z1) := by
  funext q
  by_cases h28 : q = 28 <;> by_cases h29 : q = 29 <;> by_cases h30 : q = 30 <;> by_cases h31 : q = 31 <;> by_cases h32 : q = 32 <;> simp [va_up, h28, h29, h30, h31, h32]
theorem un_28_29_30__28 {α : Type} {f : Nat → α} {x0 x1 x2 z0 : α} : (va_up (va_up (va_up (va_up f 28 x0) 29 x1) 30 x2) 28 z0) = (va_up (va_up (va_up f 28 z0) 29 x1) 30 x2) := by
  funext q
  by_cases h28 : q = 28 <;> by_cases h29 : q = 29 <;> by_cases h30 : q = 30 <;> simp [va_up, h28, h29, h30]
theorem un_28_29_30__29 {α : Type} {f : Nat → α} {x0 x1 x2 z0 : α} : (va_up (va_up (va_up (va_up f 28 x0) 29 x1) 30 x2) 29 z0) = (va_up (va_up (va_up f 28 x0) 29 z0) 30 x2) := by
  funext q
  by_cases h28 : q = 28 <;> by_cases h29 : q = 29 <;> by_cases h30 : q = 30 <;> simp [va_up, h28, h29, h30]
theorem un_28_29_30__30 {α : Type} {f : Nat → α} {x0 x1 x2 z0 : α} : (va_up (va_up (va_up (va_up f 28 x0) 29 x1) 30 x2) 30 z0) = (va_up (va_up (va_up f 28 x0) 29 x1) 30 z0) := by
  funext q
  by_cases h28 : q = 28 <;> by_cases h29 : q = 29 <;> by_cases h30 : q = 30 <;> simp [va_up, h28, h29, h30]
theorem un_2_3__2 {α : Type} {f : Nat → α} {x0 x1 z0 : α} : (va_up (va_up (va_up f 2 x0) 3 x1) 2 z0) = (va_up (va_up f 2 z0) 3 x1) := by
  funext q
  by_cases h2 : q = 2 <;> by_cases h3 : q = 3 <;> simp [va_up, h2, h3]
theorem un_2_3__2_3 {α : Type} {f : Nat → α} {x0 x1 z0 z1 : α} : (va_up (va_up (va_up (va_up f 2 x0) 3 x1) 2 z0) 3 z1) = (va_up (va_up f 2 z0) 3 z1) := by
  funext q
  by_cases h2 : q = 2 <;> by_cases h3 : q = 3 <;> simp [va_up, h2, h3]
theorem un_2_3__3 {α : Type} {f : Nat → α} {x0 x1 z0 : α} : (va_up (va_up (va_up f 2 x0) 3 x1) 3 z0) = (va_up (va_up f 2 x0) 3 z0) := by
  funext q
  by_cases h2 : q = 2 <;> by_cases h3 : q = 3 <;> simp [va_up, h2, h3]
theorem un_31_32__31 {α : Type} {f : Nat → α} {x0 x1 z0 : α} : (va_up (va_up (va_up f 31 x0) 32 x1) 31 z0) = (va_up (va_up f 31 z0) 32 x1) := by
  funext q
  by_cases h31 : q = 31 <;> by_cases h32 : q = 32 <;> simp [va_up, h31, h32]
theorem un_31_32__32 {α : Type} {f : Nat → α} {x0 x1 z0 : α} : (va_up (va_up (va_up f 31 x0) 32 x1) 32 z0) = (va_up (va_up f 31 x0) 32 z0) := by
  funext q
  by_cases h31 : q = 31 <;> by_cases h32 : q = 32 <;> simp [va_up, h31, h32]
theorem un_34_37_38_40__34 {α : Type} {f : Nat → α} {x0 x1 x2 x3 z0 : α} : (va_up (va_up (va_up (va_up (va_up f 34 x0) 37 x1) 38 x2) 40 x3) 34 z0) = (va_up (va_up (va_up (va_up f 34 z0) 37 x1) 38 x2) 40 x3) := by
  funext q
  by_cases h34 : q = 34 <;> by_cases h37 : q = 37 <;> by_cases h38 : q = 38 <;> by_cases h40 : q = 40 <;> simp [va_up, h34, h37, h38, h40]
theorem un_34_37_38_40__37_38_40 {α : Type} {f : Nat → α} {x0 x1 x2 x3 z0 z1 z2 : α} : (va_up (va_up (va_up (va_up (va_up (va_up (va_up f 34 x0) 37 x1) 38 x2) 40 x3) 37 z0) 38 z1) 40 z2) = (va_up (va_up (va_up (va_up f 34 x0) 37 z0) 38 z1) 40 z2) := by
  funext q
  by_cases h34 : q = 34 <;> by_cases h37 : q = 37 <;> by_cases h38 : q = 38 <;> by_cases h40 : q = 40 <;> simp [va_up, h34, h37, h38, h40]
theorem un_35_36_39__35_36 {α : Type} {f : Nat → α} {x0 x1 x2 z0 z1 : α} : (va_up (va_up (va_up (va_up (va_up f 35 x0) 36 x1) 39 x2) 35 z0) 36 z1) = (va_up (va_up (va_up f 35 z0) 36 z1) 39 x2) := by
  funext q
  by_cases h35 : q = 35 <;> by_cases h36 : q = 36 <;> by_cases h39 : q = 39 <;> simp [va_up, h35, h36, h39]
theorem un_35_36_39__39 {α : Type} {f : Nat → α} {x0 x1 x2 z0 : α} : (va_up (va_up (va_up (va_up f 35 x0) 36 x1) 39 x2) 39 z0) = (va_up (va_up (va_up f 35 x0) 36 x1) 39 z0) := by
  funext q
  by_cases h35 : q = 35 <;> by_cases h36 : q = 36 <;> by_cases h39 : q = 39 <;> simp [va_up, h35, h36, h39]
theorem un_35_36__35 {α : Type} {f : Nat → α} {x0 x1 z0 : α} : (va_up (va_up (va_up f 35 x0) 36 x1) 35 z0) = (va_up (va_up f 35 z0) 36 x1) := by
  funext q
  by_cases h35 : q = 35 <;> by_cases h36 : q = 36 <;> simp [va_up, h35, h36]
theorem un_35_36__35_36 {α : Type} {f : Nat → α} {x0 x1 z0 z1 : α} : (va_up (va_up (va_up (va_up f 35 x0) 36 x1) 35 z0) 36 z1) = (va_up (va_up f 35 z0) 36 z1) := by
  funext q
  by_cases h35 : q = 35 <;> by_cases h36 : q = 36 <;> simp [va_up, h35, h36]
theorem un_35_36__36 {α : Type} {f : Nat → α} {x0 x1 z0 : α} : (va_up (va_up (va_up f 35 x0) 36 x1) 36 z0) = (va_up (va_up f 35 x0) 36 z0) := by
  funext q
  by_cases h35 : q = 35 <;> by_cases h36 : q = 36 <;> simp [va_up, h35, h36]
theorem un_37_38_40__37 {α : Type} {f : Nat → α} {x0 x1 x2 z0 : α} : (va_up (va_up (va_up (va_up f 37 x0) 38 x1) 40 x2) 37 z0) = (va_up (va_up (va_up f 37 z0) 38 x1) 40 x2) := by
  funext q
  by_cases h37 : q = 37 <;> by_cases h38 : q = 38 <;> by_cases h40 : q = 40 <;> simp [va_up, h37, h38, h40]
theorem un_37_38_40__37_40 {α : Type} {f : Nat → α} {x0 x1 x2 z0 z1 : α} : (va_up (va_up (va_up (va_up (va_up f 37 x0) 38 x1) 40 x2) 37 z0) 40 z1) = (va_up (va_up (va_up f 37 z0) 38 x1) 40 z1) := by
  funext q
  by_cases h37 : q = 37 <;> by_cases h38 : q = 38 <;> by_cases h40 : q = 40 <;> simp [va_up, h37, h38, h40]
theorem un_37_38_40__38 {α : Type} {f : Nat → α} {x0 x1 x2 z0 : α} : (va_up (va_up (va_up (va_up f 37 x0) 38 x1) 40 x2) 38 z0) = (va_up (va_up (va_up f 37 x0) 38 z0) 40 x2) := by
  funext q
  by_cases h37 : q = 37 <;> by_cases h38 : q = 38 <;> by_cases h40 : q = 40 <;> simp [va_up, h37, h38, h40]
theorem un_37_40__37 {α : Type} {f : Nat → α} {x0 x1 z0 : α} : (va_up (va_up (va_up f 37 x0) 40 x1) 37 z0) = (va_up (va_up f 37 z0) 40 x1) := by
  funext q
  by_cases h37 : q = 37 <;> by_cases h40 : q = 40 <;> simp [va_up, h37, h40]
theorem un_37_40__40 {α : Type} {f : Nat → α} {x0 x1 z0 : α} : (va_up (va_up (va_up f 37 x0) 40 x1) 40 z0) = (va_up (va_up f 37 x0) 40 z0) := by
  funext q
  by_cases h37 : q = 37 <;> by_cases h40 : q = 40 <;> simp [va_up, h37, h40]
theorem un_3_4__3 {α : Type} {f : Nat → α} {x0 x1 z0 : α} : (va_up (va_up (va_up f 3 x0) 4 x1) 3 z0) = (va_up (va_up f 3 z0) 4 x1) := by
  funext q
  by_cases h3 : q = 3 <;> by_cases h4 : q = 4 <;> simp [va_up, h3, h4]
theorem un_3_4__4 {α : Type} {f : Nat → α} {x0 x1 z0 : α} : (va_up (va_up (va_up f 3 x0) 4 x1) 4 z0) = (va_up (va_up f 3 x0) 4 z0) := by
  funext q
  by_cases h3 : q = 3 <;> by_cases h4 : q = 4 <;> simp [va_up, h3, h4]
theorem un_50_51_52__50 {α : Type} {f : Nat → α} {x0 x1 x2 z0 : α} : (va_up (va_up (va_up (va_up f 50 x0) 51 x1) 52 x2) 50 z0) = (va_up (va_up (va_up f 50 z0) 51 x1) 52 x2) := by
  funext q
  by_cases h50 : q = 50 <;> by_cases h51 : q = 51 <;> by_cases h52 : q = 52 <;> simp [va_up, h50, h51, h52]
theorem un_50_51_52__50_51_52 {α : Type} {f : Nat → α} {x0 x1 x2 z0 z1 z2 : α} : (va_up (va_up (va_up (va_up (va_up (va_up f 50 x0) 51 x1) 52 x2) 50 z0) 51 z1) 52 z2) = (va_up (va_up (va_up f 50 z0) 51 z1) 52 z2) := by
  funext q
  by_cases h50 : q = 50 <;> by_cases h51 : q = 51 <;> by_cases h52 : q = 52 <;> simp [va_up, h50, h51, h52]
theorem un_50_51_52__51 {α : Type} {f : Nat → α} {x0 x1 x2 z0 : α} : (va_up (va_up (va_up (va_up f 50 x0) 51 x1) 52 x2) 51 z0) = (va_up (va_up (va_up f 50 x0) 51 z0) 52 x2) := by
  funext q
  by_cases h50 : q = 50 <;> by_cases h51 : q = 51 <;> by_cases h52 : q = 52 <;> simp [va_up, h50, h51, h52]
theorem un_50_51_52__52 {α : Type} {f : Nat → α} {x0 x1 x2 z0 : α} : (va_up (va_up (va_up (va_up f 50 x0) 51 x1) 52 x2) 52 z0) = (va_up (va_up (va_up f 50 x0) 51 x1) 52 z0) := by
  funext q
  by_cases h50 : q = 50 <;> by_cases h51 : q = 51 <;> by_cases h52 : q = 52 <;> simp [va_up, h50, h51, h52]
theorem un_55_56__55 {α : Type} {f : Nat → α} {x0 x1 z0 : α} : (va_up (va_up (va_up f 55 x0) 56 x1) 55 z0) = (va_up (va_up f 55 z0) 56 x1) := by
  funext q
  by_cases h55 : q = 55 <;> by_cases h56 : q = 56 <;> simp [va_up, h55, h56]
theorem un_55_56__55_56 {α : Type} {f : Nat → α} {x0 x1 z0 z1 : α} : (va_up (va_up (va_up (va_up f 55 x0) 56 x1) 55 z0) 56 z1) = (va_up (va_up f 55 z0) 56 z1) := by
  funext q
  by_cases h55 : q = 55 <;> by_cases h56 : q = 56 <;> simp [va_up, h55, h56]
theorem un_55_56__56 {α : Type} {f : Nat → α} {x0 x1 z0 : α} : (va_up (va_up (va_up f 55 x0) 56 x1) 56 z0) = (va_up (va_up f 55 x0) 56 z0) := by
  funext q
  by_cases h55 : q = 55 <;> by_cases h56 : q = 56 <;> simp [va_up, h55, h56]
theorem un_56_57_58__56 {α : Type} {f : Nat → α} {x0 x1 x2 z0 : α} : (va_up (va_up (va_up (va_up f 56 x0) 57 x1) 58 x2) 56 z0) = (va_up (va_up (va_up f 56 z0) 57 x1) 58 x2) := by
  funext q
  by_cases h56 : q = 56 <;> by_cases h57 : q = 57 <;> by_cases h58 : q = 58 <;> simp [va_up, h56, h57, h58]
theorem un_56_57_58__57 {α : Type} {f : Nat → α} {x0 x1 x2 z0 : α} : (va_up (va_up (va_up (va_up f 56 x0) 57 x1) 58 x2) 57 z0) = (va_up (va_up (va_up f 56 x0) 57 z0) 58 x2) := by
  funext q
  by_cases h56 : q = 56 <;> by_cases h57 : q = 57 <;> by_cases h58 : q = 58 <;> simp [va_up, h56, h57, h58]
theorem un_56_57_58__58 {α : Type} {f : Nat → α} {x0 x1 x2 z0 : α} : (va_up (va_up (va_up (va_up f 56 x0) 57 x1) 58 x2) 58 z0) = (va_up (va_up (va_up f 56 x0) 57 x1) 58 z0) := by
  funext q
  by_cases h56 : q = 56 <;> by_cases h57 : q = 57 <;> by_cases h58 : q = 58 <;> simp [va_up, h56, h57, h58]
theorem un_5_7__5 {α : Type} {f : Nat → α} {x0 x1 z0 : α} : (va_up (va_up (va_up f 5 x0) 7 x1) 5 z0) = (va_up (va_up f 5 z0) 7 x1) := by
  funext q
  by_cases h5 : q = 5 <;> by_cases h7 : q = 7 <;> simp [va_up, h5, h7]
theorem un_5_7__7 {α : Type} {f : Nat → α} {x0 x1 z0 : α} : (va_up (va_up (va_up f 5 x0) 7 x1) 7 z0) = (va_up (va_up f 5 x0) 7 z0) := by
  funext q
  by_cases h5 : q = 5 <;> by_cases h7 : q = 7 <;> simp [va_up, h5, h7]
theorem un_5_8__5 {α : Type} {f : Nat → α} {x0 x1 z0 : α} : (va_up (va_up (va_up f 5 x0) 8 x1) 5 z0) = (va_up (va_up f 5 z0) 8 x1) := by
  funext q
  by_cases h5 : q = 5 <;> by_cases h8 : q = 8 <;> simp [va_up, h5, h8]
theorem un_5_8__8 {α : Type} {f : Nat → α} {x0 x1 z0 : α} : (va_up (va_up (va_up f 5 x0) 8 x1) 8 z0) = (va_up (va_up f 5 x0) 8 z0) := by
  funext q
  by_cases h5 : q = 5 <;> by_cases h8 : q = 8 <;> simp [va_up, h5, h8]
