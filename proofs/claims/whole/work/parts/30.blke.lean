/-! block equations, e -/
theorem E_X12_init (d : Nat) (M : zM) (l0 : Nat) : evM zcod (d + 1) 155 [.ref l0] M = evk zcod none d zc_X12_init 0 [(0, .ref l0)] [] M := evM_eq zcod d 155 _ M (Nat.le_of_ble_eq_true rfl)
theorem B_X12_init_0 (d : Nat) (M : zM) (l0 : Nat) :
  evk zcod none d zc_X12_init 0 [(0, .ref l0)] [] M =
  if 0 < l0 then
  (if (0 ≤ (2000 : Int32).toInt ∧ (2000 : Int32).toInt < 100000) ∧ okS M [(0, .ref l0)] [.ref l0] = true then
  (if gK (alc M 21 (2000 : Int32).toInt.toNat) l0 = 12 ∧ (M.1.1 + 7) < (alc M 21 (2000 : Int32).toInt.toNat).1.1 + 7 then
  (evk zcod none d zc_X12_init 13 [(0, .ref l0)] [] (sR (alc M 21 (2000 : Int32).toInt.toNat) l0 1 (M.1.1 + 7))) else none) else none) else none :=
  (blk_ok zcod none d zc_X12_init [(1, .invokespecial 7, 4, [9998, 604, 1, 2], none), (4, .aload_n 0, 5, [], none), (5, .sipush 2000, 8, [], none), (8, .newarray .byte, 10, [21, 113], none), (10, .putfield 13, 13, [12, 1, 2, 605, 0, 1], none)] (0, .aload_n 0, 1, [], none) (by decide +kernel) _ _ _).trans rfl
theorem B_X12_init_13 (d : Nat) (M : zM) (l0 : Nat) :
  evk zcod none d zc_X12_init 13 [(0, .ref l0)] [] M =
  if (0 ≤ (2000 : Int32).toInt ∧ (2000 : Int32).toInt < 100000) ∧ okS M [(0, .ref l0)] [.ref l0] = true then
  (if gK (alc M 21 (2000 : Int32).toInt.toNat) l0 = 12 ∧ (M.1.1 + 7) < (alc M 21 (2000 : Int32).toInt.toNat).1.1 + 7 then
  (evk zcod none d zc_X12_init 22 [(0, .ref l0)] [] (sR (alc M 21 (2000 : Int32).toInt.toNat) l0 3 (M.1.1 + 7))) else none) else none :=
  (blk_ok zcod none d zc_X12_init [(14, .sipush 2000, 17, [], none), (17, .newarray .byte, 19, [21, 113], none), (19, .putfield 17, 22, [12, 3, 2, 606, 0, 1], none)] (13, .aload_n 0, 14, [], some [0]) (by decide +kernel) _ _ _).trans rfl
theorem B_X12_init_22 (d : Nat) (M : zM) (l0 : Nat) :
  evk zcod none d zc_X12_init 22 [(0, .ref l0)] [] M =
  if (0 ≤ (403 : Int32).toInt ∧ (403 : Int32).toInt < 100000) ∧ okS M [(0, .ref l0)] [.ref l0] = true then
  (if gK (alc M 20 (403 : Int32).toInt.toNat) l0 = 12 ∧ (M.1.1 + 7) < (alc M 20 (403 : Int32).toInt.toNat).1.1 + 7 then
  (evk zcod none d zc_X12_init 31 [(0, .ref l0)] [] (sR (alc M 20 (403 : Int32).toInt.toNat) l0 5 (M.1.1 + 7))) else none) else none :=
  (blk_ok zcod none d zc_X12_init [(23, .sipush 403, 26, [], none), (26, .newarray .int, 28, [20, 5], none), (28, .putfield 20, 31, [12, 5, 2, 607, 0, 1], none)] (22, .aload_n 0, 23, [], some [0]) (by decide +kernel) _ _ _).trans rfl
theorem B_X12_init_31 (d : Nat) (M : zM) (l0 : Nat) :
  evk zcod none d zc_X12_init 31 [(0, .ref l0)] [] M =
  if (0 ≤ (403 : Int32).toInt ∧ (403 : Int32).toInt < 100000) ∧ okS M [(0, .ref l0)] [.ref l0] = true then
  (if gK (alc M 20 (403 : Int32).toInt.toNat) l0 = 12 ∧ (M.1.1 + 7) < (alc M 20 (403 : Int32).toInt.toNat).1.1 + 7 then
  (evk zcod none d zc_X12_init 40 [(0, .ref l0)] [] (sR (alc M 20 (403 : Int32).toInt.toNat) l0 6 (M.1.1 + 7))) else none) else none :=
  (blk_ok zcod none d zc_X12_init [(32, .sipush 403, 35, [], none), (35, .newarray .int, 37, [20, 5], none), (37, .putfield 24, 40, [12, 6, 2, 608, 0, 1], none)] (31, .aload_n 0, 32, [], some [0]) (by decide +kernel) _ _ _).trans rfl
theorem B_X12_init_40 (d : Nat) (M : zM) (l0 : Nat) :
  evk zcod none d zc_X12_init 40 [(0, .ref l0)] [] M =
  if (0 ≤ (403 : Int32).toInt ∧ (403 : Int32).toInt < 100000) ∧ okS M [(0, .ref l0)] [.ref l0] = true then
  (if gK (alc M 20 (403 : Int32).toInt.toNat) l0 = 12 ∧ (M.1.1 + 7) < (alc M 20 (403 : Int32).toInt.toNat).1.1 + 7 then
  (evk zcod none d zc_X12_init 49 [(0, .ref l0)] [] (sR (alc M 20 (403 : Int32).toInt.toNat) l0 7 (M.1.1 + 7))) else none) else none :=
  (blk_ok zcod none d zc_X12_init [(41, .sipush 403, 44, [], none), (44, .newarray .int, 46, [20, 5], none), (46, .putfield 27, 49, [12, 7, 2, 609, 0, 1], none)] (40, .aload_n 0, 41, [], some [0]) (by decide +kernel) _ _ _).trans rfl
theorem B_X12_init_49 (d : Nat) (M : zM) (l0 : Nat) :
  evk zcod none d zc_X12_init 49 [(0, .ref l0)] [] M =
  if (0 ≤ (403 : Int32).toInt ∧ (403 : Int32).toInt < 100000) ∧ okS M [(0, .ref l0)] [.ref l0] = true then
  (if gK (alc M 23 (403 : Int32).toInt.toNat) l0 = 12 ∧ (M.1.1 + 7) < (alc M 23 (403 : Int32).toInt.toNat).1.1 + 7 then
  (evk zcod none d zc_X12_init 58 [(0, .ref l0)] [] (sR (alc M 23 (403 : Int32).toInt.toNat) l0 8 (M.1.1 + 7))) else none) else none :=
  (blk_ok zcod none d zc_X12_init [(50, .sipush 403, 53, [], none), (53, .newarray .long, 55, [23, 107], none), (55, .putfield 30, 58, [12, 8, 2, 610, 0, 1], none)] (49, .aload_n 0, 50, [], some [0]) (by decide +kernel) _ _ _).trans rfl
theorem B_X12_init_58 (d : Nat) (M : zM) (l0 : Nat) :
  evk zcod none d zc_X12_init 58 [(0, .ref l0)] [] M =
  if (0 ≤ (22 : Int32).toInt ∧ (22 : Int32).toInt < 100000) ∧ okS M [(0, .ref l0)] [.ref l0] = true then
  (if gK (alc M 23 (22 : Int32).toInt.toNat) l0 = 12 ∧ (M.1.1 + 7) < (alc M 23 (22 : Int32).toInt.toNat).1.1 + 7 then
  (evk zcod none d zc_X12_init 66 [(0, .ref l0)] [] (sR (alc M 23 (22 : Int32).toInt.toNat) l0 9 (M.1.1 + 7))) else none) else none :=
  (blk_ok zcod none d zc_X12_init [(59, .bipush 22, 61, [], none), (61, .newarray .long, 63, [23, 107], none), (63, .putfield 34, 66, [12, 9, 2, 611, 0, 1], none)] (58, .aload_n 0, 59, [], some [0]) (by decide +kernel) _ _ _).trans rfl
theorem B_X12_init_66 (d : Nat) (M : zM) (l0 : Nat) :
  evk zcod none d zc_X12_init 66 [(0, .ref l0)] [] M =
  if gK M l0 = 12 then
  (if (0 ≤ (17 : Int32).toInt ∧ (17 : Int32).toInt < 100000) ∧ okS (sI M l0 17 (-1 : Int32)) [(0, .ref l0)] [.ref l0] = true then
  (if gK (alc (sI M l0 17 (-1 : Int32)) 23 (17 : Int32).toInt.toNat) l0 = 12 ∧ ((sI M l0 17 (-1 : Int32)).1.1 + 7) < (alc (sI M l0 17 (-1 : Int32)) 23 (17 : Int32).toInt.toNat).1.1 + 7 then
  (evk zcod none d zc_X12_init 79 [(0, .ref l0)] [] (sR (alc (sI M l0 17 (-1 : Int32)) 23 (17 : Int32).toInt.toNat) l0 21 ((sI M l0 17 (-1 : Int32)).1.1 + 7))) else none) else none) else none :=
  (blk_ok zcod none d zc_X12_init [(67, .iconst (-1), 68, [], none), (68, .putfield 37, 71, [12, 17, 0, 612, 0, 0], none), (71, .aload_n 0, 72, [], none), (72, .bipush 17, 74, [], none), (74, .newarray .long, 76, [23, 107], none), (76, .putfield 40, 79, [12, 21, 2, 613, 0, 1], none)] (66, .aload_n 0, 67, [], some [0]) (by decide +kernel) _ _ _).trans rfl
theorem B_X12_init_79 (d : Nat) (M : zM) (l0 : Nat) :
  evk zcod none d zc_X12_init 79 [(0, .ref l0)] [] M =
  if (0 ≤ (2 : Int32).toInt ∧ (2 : Int32).toInt < 100000) ∧ okS M [(0, .ref l0)] [.ref l0] = true then
  (if gK (alc M 20 (2 : Int32).toInt.toNat) l0 = 12 ∧ (M.1.1 + 7) < (alc M 20 (2 : Int32).toInt.toNat).1.1 + 7 then
  (evk zcod none d zc_X12_init 86 [(0, .ref l0)] [] (sR (alc M 20 (2 : Int32).toInt.toNat) l0 22 (M.1.1 + 7))) else none) else none :=
  (blk_ok zcod none d zc_X12_init [(80, .iconst 2, 81, [], none), (81, .newarray .int, 83, [20, 5], none), (83, .putfield 43, 86, [12, 22, 2, 614, 0, 1], none)] (79, .aload_n 0, 80, [], some [0]) (by decide +kernel) _ _ _).trans rfl
theorem B_X12_init_86 (d : Nat) (M : zM) (l0 : Nat) :
  evk zcod none d zc_X12_init 86 [(0, .ref l0)] [] M =
  if (0 ≤ (14 : Int32).toInt ∧ (14 : Int32).toInt < 100000) ∧ okS M [(0, .ref l0)] [.ref l0] = true then
  (if gK (alc M 20 (14 : Int32).toInt.toNat) l0 = 12 ∧ (M.1.1 + 7) < (alc M 20 (14 : Int32).toInt.toNat).1.1 + 7 then
  (evk zcod none d zc_X12_init 94 [(0, .ref l0)] [] (sR (alc M 20 (14 : Int32).toInt.toNat) l0 23 (M.1.1 + 7))) else none) else none :=
  (blk_ok zcod none d zc_X12_init [(87, .bipush 14, 89, [], none), (89, .newarray .int, 91, [20, 5], none), (91, .putfield 46, 94, [12, 23, 2, 615, 0, 1], none)] (86, .aload_n 0, 87, [], some [0]) (by decide +kernel) _ _ _).trans rfl
theorem B_X12_init_94 (d : Nat) (M : zM) (l0 : Nat) :
  evk zcod none d zc_X12_init 94 [(0, .ref l0)] [] M =
  if (0 ≤ (14 : Int32).toInt ∧ (14 : Int32).toInt < 100000) ∧ okS M [(0, .ref l0)] [.ref l0] = true then
  (if gK (alc M 20 (14 : Int32).toInt.toNat) l0 = 12 ∧ (M.1.1 + 7) < (alc M 20 (14 : Int32).toInt.toNat).1.1 + 7 then
  (evk zcod none d zc_X12_init 102 [(0, .ref l0)] [] (sR (alc M 20 (14 : Int32).toInt.toNat) l0 24 (M.1.1 + 7))) else none) else none :=
  (blk_ok zcod none d zc_X12_init [(95, .bipush 14, 97, [], none), (97, .newarray .int, 99, [20, 5], none), (99, .putfield 49, 102, [12, 24, 2, 616, 0, 1], none)] (94, .aload_n 0, 95, [], some [0]) (by decide +kernel) _ _ _).trans rfl
theorem B_X12_init_102 (d : Nat) (M : zM) (l0 : Nat) :
  evk zcod none d zc_X12_init 102 [(0, .ref l0)] [] M =
  if (0 ≤ (14 : Int32).toInt ∧ (14 : Int32).toInt < 100000) ∧ okS M [(0, .ref l0)] [.ref l0] = true then
  (if gK (alc M 20 (14 : Int32).toInt.toNat) l0 = 12 ∧ (M.1.1 + 7) < (alc M 20 (14 : Int32).toInt.toNat).1.1 + 7 then
  (evk zcod none d zc_X12_init 110 [(0, .ref l0)] [] (sR (alc M 20 (14 : Int32).toInt.toNat) l0 25 (M.1.1 + 7))) else none) else none :=
  (blk_ok zcod none d zc_X12_init [(103, .bipush 14, 105, [], none), (105, .newarray .int, 107, [20, 5], none), (107, .putfield 52, 110, [12, 25, 2, 617, 0, 1], none)] (102, .aload_n 0, 103, [], some [0]) (by decide +kernel) _ _ _).trans rfl
theorem B_X12_init_110 (d : Nat) (M : zM) (l0 : Nat) :
  evk zcod none d zc_X12_init 110 [(0, .ref l0)] [] M =
  if (0 ≤ (2 : Int32).toInt ∧ (2 : Int32).toInt < 100000) ∧ okS M [(0, .ref l0)] [.ref l0] = true then
  (if gK (alc M 20 (2 : Int32).toInt.toNat) l0 = 12 ∧ (M.1.1 + 7) < (alc M 20 (2 : Int32).toInt.toNat).1.1 + 7 then
  (evk zcod none d zc_X12_init 117 [(0, .ref l0)] [] (sR (alc M 20 (2 : Int32).toInt.toNat) l0 26 (M.1.1 + 7))) else none) else none :=
  (blk_ok zcod none d zc_X12_init [(111, .iconst 2, 112, [], none), (112, .newarray .int, 114, [20, 5], none), (114, .putfield 55, 117, [12, 26, 2, 618, 0, 1], none)] (110, .aload_n 0, 111, [], some [0]) (by decide +kernel) _ _ _).trans rfl
theorem B_X12_init_117 (d : Nat) (M : zM) (l0 : Nat) :
  evk zcod none d zc_X12_init 117 [(0, .ref l0)] [] M =
  if (0 ≤ (10 : Int32).toInt ∧ (10 : Int32).toInt < 100000) ∧ okS M [(0, .ref l0)] [.ref l0] = true then
  (if gK (alc M 20 (10 : Int32).toInt.toNat) l0 = 12 ∧ (M.1.1 + 7) < (alc M 20 (10 : Int32).toInt.toNat).1.1 + 7 then
  (evk zcod none d zc_X12_init 125 [(0, .ref l0)] [] (sR (alc M 20 (10 : Int32).toInt.toNat) l0 27 (M.1.1 + 7))) else none) else none :=
  (blk_ok zcod none d zc_X12_init [(118, .bipush 10, 120, [], none), (120, .newarray .int, 122, [20, 5], none), (122, .putfield 58, 125, [12, 27, 2, 619, 0, 1], none)] (117, .aload_n 0, 118, [], some [0]) (by decide +kernel) _ _ _).trans rfl
theorem B_X12_init_125 (d : Nat) (M : zM) (l0 : Nat) :
  evk zcod none d zc_X12_init 125 [(0, .ref l0)] [] M =
  if (0 ≤ (10 : Int32).toInt ∧ (10 : Int32).toInt < 100000) ∧ okS M [(0, .ref l0)] [.ref l0] = true then
  (if gK (alc M 20 (10 : Int32).toInt.toNat) l0 = 12 ∧ (M.1.1 + 7) < (alc M 20 (10 : Int32).toInt.toNat).1.1 + 7 then
  (evk zcod none d zc_X12_init 133 [(0, .ref l0)] [] (sR (alc M 20 (10 : Int32).toInt.toNat) l0 28 (M.1.1 + 7))) else none) else none :=
  (blk_ok zcod none d zc_X12_init [(126, .bipush 10, 128, [], none), (128, .newarray .int, 130, [20, 5], none), (130, .putfield 61, 133, [12, 28, 2, 620, 0, 1], none)] (125, .aload_n 0, 126, [], some [0]) (by decide +kernel) _ _ _).trans rfl
theorem B_X12_init_133 (d : Nat) (M : zM) (l0 : Nat) :
  evk zcod none d zc_X12_init 133 [(0, .ref l0)] [] M =
  if (0 ≤ (2 : Int32).toInt ∧ (2 : Int32).toInt < 100000) ∧ okS M [(0, .ref l0)] [.ref l0] = true then
  (if gK (alc M 20 (2 : Int32).toInt.toNat) l0 = 12 ∧ (M.1.1 + 7) < (alc M 20 (2 : Int32).toInt.toNat).1.1 + 7 then
  (evk zcod none d zc_X12_init 140 [(0, .ref l0)] [] (sR (alc M 20 (2 : Int32).toInt.toNat) l0 29 (M.1.1 + 7))) else none) else none :=
  (blk_ok zcod none d zc_X12_init [(134, .iconst 2, 135, [], none), (135, .newarray .int, 137, [20, 5], none), (137, .putfield 64, 140, [12, 29, 2, 621, 0, 1], none)] (133, .aload_n 0, 134, [], some [0]) (by decide +kernel) _ _ _).trans rfl
theorem B_X12_init_140 (d : Nat) (M : zM) (l0 : Nat) :
  evk zcod none d zc_X12_init 140 [(0, .ref l0)] [] M =
  if (0 ≤ (10 : Int32).toInt ∧ (10 : Int32).toInt < 100000) ∧ okS M [(0, .ref l0)] [.ref l0] = true then
  (if gK (alc M 20 (10 : Int32).toInt.toNat) l0 = 12 ∧ (M.1.1 + 7) < (alc M 20 (10 : Int32).toInt.toNat).1.1 + 7 then
  (evk zcod none d zc_X12_init 148 [(0, .ref l0)] [] (sR (alc M 20 (10 : Int32).toInt.toNat) l0 30 (M.1.1 + 7))) else none) else none :=
  (blk_ok zcod none d zc_X12_init [(141, .bipush 10, 143, [], none), (143, .newarray .int, 145, [20, 5], none), (145, .putfield 67, 148, [12, 30, 2, 622, 0, 1], none)] (140, .aload_n 0, 141, [], some [0]) (by decide +kernel) _ _ _).trans rfl
theorem B_X12_init_148 (d : Nat) (M : zM) (l0 : Nat) :
  evk zcod none d zc_X12_init 148 [(0, .ref l0)] [] M =
  if (0 ≤ (10 : Int32).toInt ∧ (10 : Int32).toInt < 100000) ∧ okS M [(0, .ref l0)] [.ref l0] = true then
  (if gK (alc M 20 (10 : Int32).toInt.toNat) l0 = 12 ∧ (M.1.1 + 7) < (alc M 20 (10 : Int32).toInt.toNat).1.1 + 7 then
  (evk zcod none d zc_X12_init 156 [(0, .ref l0)] [] (sR (alc M 20 (10 : Int32).toInt.toNat) l0 31 (M.1.1 + 7))) else none) else none :=
  (blk_ok zcod none d zc_X12_init [(149, .bipush 10, 151, [], none), (151, .newarray .int, 153, [20, 5], none), (153, .putfield 70, 156, [12, 31, 2, 623, 0, 1], none)] (148, .aload_n 0, 149, [], some [0]) (by decide +kernel) _ _ _).trans rfl
theorem B_X12_init_156 (d : Nat) (M : zM) (l0 : Nat) :
  evk zcod none d zc_X12_init 156 [(0, .ref l0)] [] M =
  if (0 ≤ (10 : Int32).toInt ∧ (10 : Int32).toInt < 100000) ∧ okS M [(0, .ref l0)] [.ref l0] = true then
  (if gK (alc M 20 (10 : Int32).toInt.toNat) l0 = 12 ∧ (M.1.1 + 7) < (alc M 20 (10 : Int32).toInt.toNat).1.1 + 7 then
  (evk zcod none d zc_X12_init 164 [(0, .ref l0)] [] (sR (alc M 20 (10 : Int32).toInt.toNat) l0 32 (M.1.1 + 7))) else none) else none :=
  (blk_ok zcod none d zc_X12_init [(157, .bipush 10, 159, [], none), (159, .newarray .int, 161, [20, 5], none), (161, .putfield 73, 164, [12, 32, 2, 624, 0, 1], none)] (156, .aload_n 0, 157, [], some [0]) (by decide +kernel) _ _ _).trans rfl
theorem B_X12_init_164 (d : Nat) (M : zM) (l0 : Nat) :
  evk zcod none d zc_X12_init 164 [(0, .ref l0)] [] M =
  if (0 ≤ (2 : Int32).toInt ∧ (2 : Int32).toInt < 100000) ∧ okS M [(0, .ref l0)] [.ref l0] = true then
  (if gK (alc M 20 (2 : Int32).toInt.toNat) l0 = 12 ∧ (M.1.1 + 7) < (alc M 20 (2 : Int32).toInt.toNat).1.1 + 7 then
  (evk zcod none d zc_X12_init 171 [(0, .ref l0)] [] (sR (alc M 20 (2 : Int32).toInt.toNat) l0 33 (M.1.1 + 7))) else none) else none :=
  (blk_ok zcod none d zc_X12_init [(165, .iconst 2, 166, [], none), (166, .newarray .int, 168, [20, 5], none), (168, .putfield 76, 171, [12, 33, 2, 625, 0, 1], none)] (164, .aload_n 0, 165, [], some [0]) (by decide +kernel) _ _ _).trans rfl
theorem B_X12_init_171 (d : Nat) (M : zM) (l0 : Nat) :
  evk zcod none d zc_X12_init 171 [(0, .ref l0)] [] M =
  if (0 ≤ (2 : Int32).toInt ∧ (2 : Int32).toInt < 100000) ∧ okS M [(0, .ref l0)] [.ref l0] = true then
  (if gK (alc M 20 (2 : Int32).toInt.toNat) l0 = 12 ∧ (M.1.1 + 7) < (alc M 20 (2 : Int32).toInt.toNat).1.1 + 7 then
  (evk zcod none d zc_X12_init 178 [(0, .ref l0)] [] (sR (alc M 20 (2 : Int32).toInt.toNat) l0 34 (M.1.1 + 7))) else none) else none :=
  (blk_ok zcod none d zc_X12_init [(172, .iconst 2, 173, [], none), (173, .newarray .int, 175, [20, 5], none), (175, .putfield 79, 178, [12, 34, 2, 626, 0, 1], none)] (171, .aload_n 0, 172, [], some [0]) (by decide +kernel) _ _ _).trans rfl
theorem B_X12_init_178 (d : Nat) (M : zM) (l0 : Nat) :
  evk zcod none d zc_X12_init 178 [(0, .ref l0)] [] M =
  if (0 ≤ (2 : Int32).toInt ∧ (2 : Int32).toInt < 100000) ∧ okS M [(0, .ref l0)] [.ref l0] = true then
  (if gK (alc M 20 (2 : Int32).toInt.toNat) l0 = 12 ∧ (M.1.1 + 7) < (alc M 20 (2 : Int32).toInt.toNat).1.1 + 7 then
  (evk zcod none d zc_X12_init 185 [(0, .ref l0)] [] (sR (alc M 20 (2 : Int32).toInt.toNat) l0 35 (M.1.1 + 7))) else none) else none :=
  (blk_ok zcod none d zc_X12_init [(179, .iconst 2, 180, [], none), (180, .newarray .int, 182, [20, 5], none), (182, .putfield 82, 185, [12, 35, 2, 627, 0, 1], none)] (178, .aload_n 0, 179, [], some [0]) (by decide +kernel) _ _ _).trans rfl
theorem B_X12_init_185 (d : Nat) (M : zM) (l0 : Nat) :
  evk zcod none d zc_X12_init 185 [(0, .ref l0)] [] M =
  if (0 ≤ (8 : Int32).toInt ∧ (8 : Int32).toInt < 100000) ∧ okS M [(0, .ref l0)] [.ref l0] = true then
  (if gK (alc M 20 (8 : Int32).toInt.toNat) l0 = 12 ∧ (M.1.1 + 7) < (alc M 20 (8 : Int32).toInt.toNat).1.1 + 7 then
  (evk zcod none d zc_X12_init 193 [(0, .ref l0)] [] (sR (alc M 20 (8 : Int32).toInt.toNat) l0 36 (M.1.1 + 7))) else none) else none :=
  (blk_ok zcod none d zc_X12_init [(186, .bipush 8, 188, [], none), (188, .newarray .int, 190, [20, 5], none), (190, .putfield 85, 193, [12, 36, 2, 628, 0, 1], none)] (185, .aload_n 0, 186, [], some [0]) (by decide +kernel) _ _ _).trans rfl
theorem B_X12_init_193 (d : Nat) (M : zM) (l0 : Nat) :
  evk zcod none d zc_X12_init 193 [(0, .ref l0)] [] M =
  if (0 ≤ (8 : Int32).toInt ∧ (8 : Int32).toInt < 100000) ∧ okS M [(0, .ref l0)] [.ref l0] = true then
  (if gK (alc M 20 (8 : Int32).toInt.toNat) l0 = 12 ∧ (M.1.1 + 7) < (alc M 20 (8 : Int32).toInt.toNat).1.1 + 7 then
  (evk zcod none d zc_X12_init 201 [(0, .ref l0)] [] (sR (alc M 20 (8 : Int32).toInt.toNat) l0 37 (M.1.1 + 7))) else none) else none :=
  (blk_ok zcod none d zc_X12_init [(194, .bipush 8, 196, [], none), (196, .newarray .int, 198, [20, 5], none), (198, .putfield 88, 201, [12, 37, 2, 629, 0, 1], none)] (193, .aload_n 0, 194, [], some [0]) (by decide +kernel) _ _ _).trans rfl
theorem B_X12_init_201 (d : Nat) (M : zM) (l0 : Nat) :
  evk zcod none d zc_X12_init 201 [(0, .ref l0)] [] M =
  if (0 ≤ (260 : Int32).toInt ∧ (260 : Int32).toInt < 100000) ∧ okS M [(0, .ref l0)] [.ref l0] = true then
  (if gK (alc M 22 (260 : Int32).toInt.toNat) l0 = 12 ∧ (M.1.1 + 7) < (alc M 22 (260 : Int32).toInt.toNat).1.1 + 7 then
  (evk zcod none d zc_X12_init 210 [(0, .ref l0)] [] (sR (alc M 22 (260 : Int32).toInt.toNat) l0 39 (M.1.1 + 7))) else none) else none :=
  (blk_ok zcod none d zc_X12_init [(202, .sipush 260, 205, [], none), (205, .newarray .boolean, 207, [22, 630], none), (207, .putfield 91, 210, [12, 39, 2, 631, 0, 1], none)] (201, .aload_n 0, 202, [], some [0]) (by decide +kernel) _ _ _).trans rfl
theorem B_X12_init_210 (d : Nat) (M : zM) (l0 : Nat) :
  evk zcod none d zc_X12_init 210 [(0, .ref l0)] [] M =
  if (0 ≤ (260 : Int32).toInt ∧ (260 : Int32).toInt < 100000) ∧ okS M [(0, .ref l0)] [.ref l0] = true then
  (if gK (alc M 20 (260 : Int32).toInt.toNat) l0 = 12 ∧ (M.1.1 + 7) < (alc M 20 (260 : Int32).toInt.toNat).1.1 + 7 then
  (evk zcod none d zc_X12_init 219 [(0, .ref l0)] [] (sR (alc M 20 (260 : Int32).toInt.toNat) l0 40 (M.1.1 + 7))) else none) else none :=
  (blk_ok zcod none d zc_X12_init [(211, .sipush 260, 214, [], none), (214, .newarray .int, 216, [20, 5], none), (216, .putfield 95, 219, [12, 40, 2, 632, 0, 1], none)] (210, .aload_n 0, 211, [], some [0]) (by decide +kernel) _ _ _).trans rfl
theorem B_X12_init_219 (d : Nat) (M : zM) (l0 : Nat) :
  evk zcod none d zc_X12_init 219 [(0, .ref l0)] [] M =
  if (0 ≤ (260 : Int32).toInt ∧ (260 : Int32).toInt < 100000) ∧ okS M [(0, .ref l0)] [.ref l0] = true then
  (if gK (alc M 20 (260 : Int32).toInt.toNat) l0 = 12 ∧ (M.1.1 + 7) < (alc M 20 (260 : Int32).toInt.toNat).1.1 + 7 then
  (evk zcod none d zc_X12_init 228 [(0, .ref l0)] [] (sR (alc M 20 (260 : Int32).toInt.toNat) l0 41 (M.1.1 + 7))) else none) else none :=
  (blk_ok zcod none d zc_X12_init [(220, .sipush 260, 223, [], none), (223, .newarray .int, 225, [20, 5], none), (225, .putfield 98, 228, [12, 41, 2, 633, 0, 1], none)] (219, .aload_n 0, 220, [], some [0]) (by decide +kernel) _ _ _).trans rfl
theorem B_X12_init_228 (d : Nat) (M : zM) (l0 : Nat) :
  evk zcod none d zc_X12_init 228 [(0, .ref l0)] [] M =
  if (0 ≤ (260 : Int32).toInt ∧ (260 : Int32).toInt < 100000) ∧ okS M [(0, .ref l0)] [.ref l0] = true then
  (if gK (alc M 20 (260 : Int32).toInt.toNat) l0 = 12 ∧ (M.1.1 + 7) < (alc M 20 (260 : Int32).toInt.toNat).1.1 + 7 then
  (evk zcod none d zc_X12_init 237 [(0, .ref l0)] [] (sR (alc M 20 (260 : Int32).toInt.toNat) l0 42 (M.1.1 + 7))) else none) else none :=
  (blk_ok zcod none d zc_X12_init [(229, .sipush 260, 232, [], none), (232, .newarray .int, 234, [20, 5], none), (234, .putfield 101, 237, [12, 42, 2, 634, 0, 1], none)] (228, .aload_n 0, 229, [], some [0]) (by decide +kernel) _ _ _).trans rfl
theorem B_X12_init_237 (d : Nat) (M : zM) (l0 : Nat) :
  evk zcod none d zc_X12_init 237 [(0, .ref l0)] [] M =
  if (0 ≤ (260 : Int32).toInt ∧ (260 : Int32).toInt < 100000) ∧ okS M [(0, .ref l0)] [.ref l0] = true then
  (if gK (alc M 20 (260 : Int32).toInt.toNat) l0 = 12 ∧ (M.1.1 + 7) < (alc M 20 (260 : Int32).toInt.toNat).1.1 + 7 then
  (evk zcod none d zc_X12_init 246 [(0, .ref l0)] [] (sR (alc M 20 (260 : Int32).toInt.toNat) l0 43 (M.1.1 + 7))) else none) else none :=
  (blk_ok zcod none d zc_X12_init [(238, .sipush 260, 241, [], none), (241, .newarray .int, 243, [20, 5], none), (243, .putfield 104, 246, [12, 43, 2, 635, 0, 1], none)] (237, .aload_n 0, 238, [], some [0]) (by decide +kernel) _ _ _).trans rfl
theorem B_X12_init_246 (d : Nat) (M : zM) (l0 : Nat) :
  evk zcod none d zc_X12_init 246 [(0, .ref l0)] [] M =
  if (0 ≤ (840 : Int32).toInt ∧ (840 : Int32).toInt < 100000) ∧ okS M [(0, .ref l0)] [.ref l0] = true then
  (if gK (alc M 20 (840 : Int32).toInt.toNat) l0 = 12 ∧ (M.1.1 + 7) < (alc M 20 (840 : Int32).toInt.toNat).1.1 + 7 then
  (evk zcod none d zc_X12_init 255 [(0, .ref l0)] [] (sR (alc M 20 (840 : Int32).toInt.toNat) l0 45 (M.1.1 + 7))) else none) else none :=
  (blk_ok zcod none d zc_X12_init [(247, .sipush 840, 250, [], none), (250, .newarray .int, 252, [20, 5], none), (252, .putfield 107, 255, [12, 45, 2, 636, 0, 1], none)] (246, .aload_n 0, 247, [], some [0]) (by decide +kernel) _ _ _).trans rfl
theorem B_X12_init_255 (d : Nat) (M : zM) (l0 : Nat) :
  evk zcod none d zc_X12_init 255 [(0, .ref l0)] [] M =
  if (0 ≤ (840 : Int32).toInt ∧ (840 : Int32).toInt < 100000) ∧ okS M [(0, .ref l0)] [.ref l0] = true then
  (if gK (alc M 20 (840 : Int32).toInt.toNat) l0 = 12 ∧ (M.1.1 + 7) < (alc M 20 (840 : Int32).toInt.toNat).1.1 + 7 then
  (evk zcod none d zc_X12_init 264 [(0, .ref l0)] [] (sR (alc M 20 (840 : Int32).toInt.toNat) l0 46 (M.1.1 + 7))) else none) else none :=
  (blk_ok zcod none d zc_X12_init [(256, .sipush 840, 259, [], none), (259, .newarray .int, 261, [20, 5], none), (261, .putfield 110, 264, [12, 46, 2, 637, 0, 1], none)] (255, .aload_n 0, 256, [], some [0]) (by decide +kernel) _ _ _).trans rfl
theorem B_X12_init_264 (d : Nat) (M : zM) (l0 : Nat) :
  evk zcod none d zc_X12_init 264 [(0, .ref l0)] [] M =
  if (0 ≤ (64 : Int32).toInt ∧ (64 : Int32).toInt < 100000) ∧ okS M [(0, .ref l0)] [.ref l0] = true then
  (if gK (alc M 20 (64 : Int32).toInt.toNat) l0 = 12 ∧ (M.1.1 + 7) < (alc M 20 (64 : Int32).toInt.toNat).1.1 + 7 then
  (evk zcod none d zc_X12_init 272 [(0, .ref l0)] [] (sR (alc M 20 (64 : Int32).toInt.toNat) l0 47 (M.1.1 + 7))) else none) else none :=
  (blk_ok zcod none d zc_X12_init [(265, .bipush 64, 267, [], none), (267, .newarray .int, 269, [20, 5], none), (269, .putfield 113, 272, [12, 47, 2, 638, 0, 1], none)] (264, .aload_n 0, 265, [], some [0]) (by decide +kernel) _ _ _).trans rfl
theorem B_X12_init_272 (d : Nat) (M : zM) (l0 : Nat) :
  evk zcod none d zc_X12_init 272 [(0, .ref l0)] [] M =
  if (0 ≤ (9 : Int32).toInt ∧ (9 : Int32).toInt < 100000) ∧ okS M [(0, .ref l0)] [.ref l0] = true then
  (if gK (alc M 20 (9 : Int32).toInt.toNat) l0 = 12 ∧ (M.1.1 + 7) < (alc M 20 (9 : Int32).toInt.toNat).1.1 + 7 then
  (evk zcod none d zc_X12_init 280 [(0, .ref l0)] [] (sR (alc M 20 (9 : Int32).toInt.toNat) l0 49 (M.1.1 + 7))) else none) else none :=
  (blk_ok zcod none d zc_X12_init [(273, .bipush 9, 275, [], none), (275, .newarray .int, 277, [20, 5], none), (277, .putfield 116, 280, [12, 49, 2, 639, 0, 1], none)] (272, .aload_n 0, 273, [], some [0]) (by decide +kernel) _ _ _).trans rfl
theorem B_X12_init_280 (d : Nat) (M : zM) (l0 : Nat) :
  evk zcod none d zc_X12_init 280 [(0, .ref l0)] [] M =
  if (0 ≤ (400 : Int32).toInt ∧ (400 : Int32).toInt < 100000) ∧ okS M [(0, .ref l0)] [.ref l0] = true then
  (if gK (alc M 20 (400 : Int32).toInt.toNat) l0 = 12 ∧ (M.1.1 + 7) < (alc M 20 (400 : Int32).toInt.toNat).1.1 + 7 then
  (evk zcod none d zc_X12_init 289 [(0, .ref l0)] [] (sR (alc M 20 (400 : Int32).toInt.toNat) l0 50 (M.1.1 + 7))) else none) else none :=
  (blk_ok zcod none d zc_X12_init [(281, .sipush 400, 284, [], none), (284, .newarray .int, 286, [20, 5], none), (286, .putfield 119, 289, [12, 50, 2, 640, 0, 1], none)] (280, .aload_n 0, 281, [], some [0]) (by decide +kernel) _ _ _).trans rfl
theorem B_X12_init_289 (d : Nat) (M : zM) (l0 : Nat) :
  evk zcod none d zc_X12_init 289 [(0, .ref l0)] [] M =
  if (0 ≤ (58 : Int32).toInt ∧ (58 : Int32).toInt < 100000) ∧ okS M [(0, .ref l0)] [.ref l0] = true then
  (if gK (alc M 20 (58 : Int32).toInt.toNat) l0 = 12 ∧ (M.1.1 + 7) < (alc M 20 (58 : Int32).toInt.toNat).1.1 + 7 then
  (evk zcod none d zc_X12_init 297 [(0, .ref l0)] [] (sR (alc M 20 (58 : Int32).toInt.toNat) l0 52 (M.1.1 + 7))) else none) else none :=
  (blk_ok zcod none d zc_X12_init [(290, .bipush 58, 292, [], none), (292, .newarray .int, 294, [20, 5], none), (294, .putfield 122, 297, [12, 52, 2, 641, 0, 1], none)] (289, .aload_n 0, 290, [], some [0]) (by decide +kernel) _ _ _).trans rfl
theorem B_X12_init_297 (d : Nat) (M : zM) (l0 : Nat) :
  evk zcod none d zc_X12_init 297 [(0, .ref l0)] [] M =
  if (0 ≤ (58 : Int32).toInt ∧ (58 : Int32).toInt < 100000) ∧ okS M [(0, .ref l0)] [.ref l0] = true then
  (if gK (alc M 20 (58 : Int32).toInt.toNat) l0 = 12 ∧ (M.1.1 + 7) < (alc M 20 (58 : Int32).toInt.toNat).1.1 + 7 then
  (evk zcod none d zc_X12_init 305 [(0, .ref l0)] [] (sR (alc M 20 (58 : Int32).toInt.toNat) l0 53 (M.1.1 + 7))) else none) else none :=
  (blk_ok zcod none d zc_X12_init [(298, .bipush 58, 300, [], none), (300, .newarray .int, 302, [20, 5], none), (302, .putfield 125, 305, [12, 53, 2, 642, 0, 1], none)] (297, .aload_n 0, 298, [], some [0]) (by decide +kernel) _ _ _).trans rfl
theorem B_X12_init_305 (d : Nat) (M : zM) (l0 : Nat) :
  evk zcod none d zc_X12_init 305 [(0, .ref l0)] [] M =
  if (0 ≤ (5 : Int32).toInt ∧ (5 : Int32).toInt < 100000) ∧ okS M [(0, .ref l0)] [.ref l0] = true then
  (if gK (alc M 20 (5 : Int32).toInt.toNat) l0 = 12 ∧ (M.1.1 + 7) < (alc M 20 (5 : Int32).toInt.toNat).1.1 + 7 then
  (evk zcod none d zc_X12_init 312 [(0, .ref l0)] [] (sR (alc M 20 (5 : Int32).toInt.toNat) l0 55 (M.1.1 + 7))) else none) else none :=
  (blk_ok zcod none d zc_X12_init [(306, .iconst 5, 307, [], none), (307, .newarray .int, 309, [20, 5], none), (309, .putfield 128, 312, [12, 55, 2, 643, 0, 1], none)] (305, .aload_n 0, 306, [], some [0]) (by decide +kernel) _ _ _).trans rfl
theorem B_X12_init_312 (d : Nat) (M : zM) (l0 : Nat) :
  evk zcod none d zc_X12_init 312 [(0, .ref l0)] [] M =
  if (0 ≤ (7 : Int32).toInt ∧ (7 : Int32).toInt < 100000) ∧ okS M [(0, .ref l0)] [.ref l0] = true then
  (if gK (alc M 20 (7 : Int32).toInt.toNat) l0 = 12 ∧ (M.1.1 + 7) < (alc M 20 (7 : Int32).toInt.toNat).1.1 + 7 then
  (evk zcod none d zc_X12_init 320 [(0, .ref l0)] [] (sR (alc M 20 (7 : Int32).toInt.toNat) l0 56 (M.1.1 + 7))) else none) else none :=
  (blk_ok zcod none d zc_X12_init [(313, .bipush 7, 315, [], none), (315, .newarray .int, 317, [20, 5], none), (317, .putfield 131, 320, [12, 56, 2, 644, 0, 1], none)] (312, .aload_n 0, 313, [], some [0]) (by decide +kernel) _ _ _).trans rfl
theorem B_X12_init_320 (d : Nat) (M : zM) (l0 : Nat) :
  evk zcod none d zc_X12_init 320 [(0, .ref l0)] [] M =
  if (0 ≤ (7 : Int32).toInt ∧ (7 : Int32).toInt < 100000) ∧ okS M [(0, .ref l0)] [.ref l0] = true then
  (if gK (alc M 20 (7 : Int32).toInt.toNat) l0 = 12 ∧ (M.1.1 + 7) < (alc M 20 (7 : Int32).toInt.toNat).1.1 + 7 then
  (evk zcod none d zc_X12_init 328 [(0, .ref l0)] [] (sR (alc M 20 (7 : Int32).toInt.toNat) l0 57 (M.1.1 + 7))) else none) else none :=
  (blk_ok zcod none d zc_X12_init [(321, .bipush 7, 323, [], none), (323, .newarray .int, 325, [20, 5], none), (325, .putfield 134, 328, [12, 57, 2, 645, 0, 1], none)] (320, .aload_n 0, 321, [], some [0]) (by decide +kernel) _ _ _).trans rfl
theorem B_X12_init_328 (d : Nat) (M : zM) (l0 : Nat) :
  evk zcod none d zc_X12_init 328 [(0, .ref l0)] [] M =
  if (0 ≤ (7 : Int32).toInt ∧ (7 : Int32).toInt < 100000) ∧ okS M [(0, .ref l0)] [.ref l0] = true then
  (if gK (alc M 20 (7 : Int32).toInt.toNat) l0 = 12 ∧ (M.1.1 + 7) < (alc M 20 (7 : Int32).toInt.toNat).1.1 + 7 then
  (evk zcod none d zc_X12_init 336 [(0, .ref l0)] [] (sR (alc M 20 (7 : Int32).toInt.toNat) l0 58 (M.1.1 + 7))) else none) else none :=
  (blk_ok zcod none d zc_X12_init [(329, .bipush 7, 331, [], none), (331, .newarray .int, 333, [20, 5], none), (333, .putfield 137, 336, [12, 58, 2, 646, 0, 1], none)] (328, .aload_n 0, 329, [], some [0]) (by decide +kernel) _ _ _).trans rfl
theorem B_X12_init_336 (d : Nat) (M : zM) (l0 : Nat) :
  evk zcod none d zc_X12_init 336 [(0, .ref l0)] [] M =
  if (0 ≤ (2320 : Int32).toInt ∧ (2320 : Int32).toInt < 100000) ∧ okS M [(0, .ref l0)] [.ref l0] = true then
  (if gK (alc M 20 (2320 : Int32).toInt.toNat) l0 = 12 ∧ (M.1.1 + 7) < (alc M 20 (2320 : Int32).toInt.toNat).1.1 + 7 then
  (evk zcod none d zc_X12_init 345 [(0, .ref l0)] [] (sR (alc M 20 (2320 : Int32).toInt.toNat) l0 60 (M.1.1 + 7))) else none) else none :=
  (blk_ok zcod none d zc_X12_init [(337, .sipush 2320, 340, [], none), (340, .newarray .int, 342, [20, 5], none), (342, .putfield 140, 345, [12, 60, 2, 647, 0, 1], none)] (336, .aload_n 0, 337, [], some [0]) (by decide +kernel) _ _ _).trans rfl
theorem B_X12_init_345 (d : Nat) (M : zM) (l0 : Nat) :
  evk zcod none d zc_X12_init 345 [(0, .ref l0)] [] M =
  if (0 ≤ (7 : Int32).toInt ∧ (7 : Int32).toInt < 100000) ∧ okS M [(0, .ref l0)] [.ref l0] = true then
  (if gK (alc M 20 (7 : Int32).toInt.toNat) l0 = 12 ∧ (M.1.1 + 7) < (alc M 20 (7 : Int32).toInt.toNat).1.1 + 7 then
  (evk zcod none d zc_X12_init 353 [(0, .ref l0)] [] (sR (alc M 20 (7 : Int32).toInt.toNat) l0 67 (M.1.1 + 7))) else none) else none :=
  (blk_ok zcod none d zc_X12_init [(346, .bipush 7, 348, [], none), (348, .newarray .int, 350, [20, 5], none), (350, .putfield 143, 353, [12, 67, 2, 648, 0, 1], none)] (345, .aload_n 0, 346, [], some [0]) (by decide +kernel) _ _ _).trans rfl
theorem B_X12_init_353 (d : Nat) (M : zM) (l0 : Nat) :
  evk zcod none d zc_X12_init 353 [(0, .ref l0)] [] M =
  if (0 ≤ (42 : Int32).toInt ∧ (42 : Int32).toInt < 100000) ∧ okS M [(0, .ref l0)] [.ref l0] = true then
  (if gK (alc M 20 (42 : Int32).toInt.toNat) l0 = 12 ∧ (M.1.1 + 7) < (alc M 20 (42 : Int32).toInt.toNat).1.1 + 7 then
  (evk zcod none d zc_X12_init 361 [(0, .ref l0)] [] (sR (alc M 20 (42 : Int32).toInt.toNat) l0 69 (M.1.1 + 7))) else none) else none :=
  (blk_ok zcod none d zc_X12_init [(354, .bipush 42, 356, [], none), (356, .newarray .int, 358, [20, 5], none), (358, .putfield 146, 361, [12, 69, 2, 649, 0, 1], none)] (353, .aload_n 0, 354, [], some [0]) (by decide +kernel) _ _ _).trans rfl
theorem B_X12_init_361 (d : Nat) (M : zM) (l0 : Nat) :
  evk zcod none d zc_X12_init 361 [(0, .ref l0)] [] M =
  if (0 ≤ (42 : Int32).toInt ∧ (42 : Int32).toInt < 100000) ∧ okS M [(0, .ref l0)] [.ref l0] = true then
  (if gK (alc M 22 (42 : Int32).toInt.toNat) l0 = 12 ∧ (M.1.1 + 7) < (alc M 22 (42 : Int32).toInt.toNat).1.1 + 7 then
  (evk zcod none d zc_X12_init 369 [(0, .ref l0)] [] (sR (alc M 22 (42 : Int32).toInt.toNat) l0 70 (M.1.1 + 7))) else none) else none :=
  (blk_ok zcod none d zc_X12_init [(362, .bipush 42, 364, [], none), (364, .newarray .boolean, 366, [22, 630], none), (366, .putfield 149, 369, [12, 70, 2, 650, 0, 1], none)] (361, .aload_n 0, 362, [], some [0]) (by decide +kernel) _ _ _).trans rfl
theorem B_X12_init_369 (d : Nat) (M : zM) (l0 : Nat) :
  evk zcod none d zc_X12_init 369 [(0, .ref l0)] [] M =
  if (0 ≤ (7 : Int32).toInt ∧ (7 : Int32).toInt < 100000) ∧ okS M [(0, .ref l0)] [.ref l0] = true then
  (if gK (alc M 20 (7 : Int32).toInt.toNat) l0 = 12 ∧ (M.1.1 + 7) < (alc M 20 (7 : Int32).toInt.toNat).1.1 + 7 then
  (evk zcod none d zc_X12_init 377 [(0, .ref l0)] [] (sR (alc M 20 (7 : Int32).toInt.toNat) l0 73 (M.1.1 + 7))) else none) else none :=
  (blk_ok zcod none d zc_X12_init [(370, .bipush 7, 372, [], none), (372, .newarray .int, 374, [20, 5], none), (374, .putfield 152, 377, [12, 73, 2, 651, 0, 1], none)] (369, .aload_n 0, 370, [], some [0]) (by decide +kernel) _ _ _).trans rfl
theorem B_X12_init_377 (d : Nat) (M : zM) (l0 : Nat) :
  evk zcod none d zc_X12_init 377 [(0, .ref l0)] [] M =
  if (0 ≤ (20 : Int32).toInt ∧ (20 : Int32).toInt < 100000) ∧ okS M [(0, .ref l0)] [.ref l0] = true then
  (if gK (alc M 20 (20 : Int32).toInt.toNat) l0 = 12 ∧ (M.1.1 + 7) < (alc M 20 (20 : Int32).toInt.toNat).1.1 + 7 then
  (evk zcod none d zc_X12_init 385 [(0, .ref l0)] [] (sR (alc M 20 (20 : Int32).toInt.toNat) l0 75 (M.1.1 + 7))) else none) else none :=
  (blk_ok zcod none d zc_X12_init [(378, .bipush 20, 380, [], none), (380, .newarray .int, 382, [20, 5], none), (382, .putfield 155, 385, [12, 75, 2, 652, 0, 1], none)] (377, .aload_n 0, 378, [], some [0]) (by decide +kernel) _ _ _).trans rfl
theorem B_X12_init_385 (d : Nat) (M : zM) (l0 : Nat) :
  evk zcod none d zc_X12_init 385 [(0, .ref l0)] [] M =
  if (0 ≤ (20 : Int32).toInt ∧ (20 : Int32).toInt < 100000) ∧ okS M [(0, .ref l0)] [.ref l0] = true then
  (if gK (alc M 20 (20 : Int32).toInt.toNat) l0 = 12 ∧ (M.1.1 + 7) < (alc M 20 (20 : Int32).toInt.toNat).1.1 + 7 then
  (evk zcod none d zc_X12_init 393 [(0, .ref l0)] [] (sR (alc M 20 (20 : Int32).toInt.toNat) l0 76 (M.1.1 + 7))) else none) else none :=
  (blk_ok zcod none d zc_X12_init [(386, .bipush 20, 388, [], none), (388, .newarray .int, 390, [20, 5], none), (390, .putfield 158, 393, [12, 76, 2, 653, 0, 1], none)] (385, .aload_n 0, 386, [], some [0]) (by decide +kernel) _ _ _).trans rfl
theorem B_X12_init_393 (d : Nat) (M : zM) (l0 : Nat) :
  evk zcod none d zc_X12_init 393 [(0, .ref l0)] [] M =
  if (0 ≤ (20 : Int32).toInt ∧ (20 : Int32).toInt < 100000) ∧ okS M [(0, .ref l0)] [.ref l0] = true then
  (if gK (alc M 20 (20 : Int32).toInt.toNat) l0 = 12 ∧ (M.1.1 + 7) < (alc M 20 (20 : Int32).toInt.toNat).1.1 + 7 then
  (evk zcod none d zc_X12_init 401 [(0, .ref l0)] [] (sR (alc M 20 (20 : Int32).toInt.toNat) l0 77 (M.1.1 + 7))) else none) else none :=
  (blk_ok zcod none d zc_X12_init [(394, .bipush 20, 396, [], none), (396, .newarray .int, 398, [20, 5], none), (398, .putfield 161, 401, [12, 77, 2, 654, 0, 1], none)] (393, .aload_n 0, 394, [], some [0]) (by decide +kernel) _ _ _).trans rfl
theorem B_X12_init_401 (d : Nat) (M : zM) (l0 : Nat) :
  evk zcod none d zc_X12_init 401 [(0, .ref l0)] [] M =
  if (0 ≤ (20 : Int32).toInt ∧ (20 : Int32).toInt < 100000) ∧ okS M [(0, .ref l0)] [.ref l0] = true then
  (if gK (alc M 20 (20 : Int32).toInt.toNat) l0 = 12 ∧ (M.1.1 + 7) < (alc M 20 (20 : Int32).toInt.toNat).1.1 + 7 then
  (evk zcod none d zc_X12_init 409 [(0, .ref l0)] [] (sR (alc M 20 (20 : Int32).toInt.toNat) l0 78 (M.1.1 + 7))) else none) else none :=
  (blk_ok zcod none d zc_X12_init [(402, .bipush 20, 404, [], none), (404, .newarray .int, 406, [20, 5], none), (406, .putfield 164, 409, [12, 78, 2, 655, 0, 1], none)] (401, .aload_n 0, 402, [], some [0]) (by decide +kernel) _ _ _).trans rfl
theorem B_X12_init_409 (d : Nat) (M : zM) (l0 : Nat) :
  evk zcod none d zc_X12_init 409 [(0, .ref l0)] [] M =
  if (0 ≤ (20 : Int32).toInt ∧ (20 : Int32).toInt < 100000) ∧ okS M [(0, .ref l0)] [.ref l0] = true then
  (if gK (alc M 20 (20 : Int32).toInt.toNat) l0 = 12 ∧ (M.1.1 + 7) < (alc M 20 (20 : Int32).toInt.toNat).1.1 + 7 then
  (evk zcod none d zc_X12_init 417 [(0, .ref l0)] [] (sR (alc M 20 (20 : Int32).toInt.toNat) l0 79 (M.1.1 + 7))) else none) else none :=
  (blk_ok zcod none d zc_X12_init [(410, .bipush 20, 412, [], none), (412, .newarray .int, 414, [20, 5], none), (414, .putfield 167, 417, [12, 79, 2, 656, 0, 1], none)] (409, .aload_n 0, 410, [], some [0]) (by decide +kernel) _ _ _).trans rfl
theorem B_X12_init_417 (d : Nat) (M : zM) (l0 : Nat) :
  evk zcod none d zc_X12_init 417 [(0, .ref l0)] [] M =
  if (0 ≤ (3 : Int32).toInt ∧ (3 : Int32).toInt < 100000) ∧ okS M [(0, .ref l0)] [.ref l0] = true then
  (if gK (alc M 22 (3 : Int32).toInt.toNat) l0 = 12 ∧ (M.1.1 + 7) < (alc M 22 (3 : Int32).toInt.toNat).1.1 + 7 then
  (evk zcod none d zc_X12_init 424 [(0, .ref l0)] [] (sR (alc M 22 (3 : Int32).toInt.toNat) l0 80 (M.1.1 + 7))) else none) else none :=
  (blk_ok zcod none d zc_X12_init [(418, .iconst 3, 419, [], none), (419, .newarray .boolean, 421, [22, 630], none), (421, .putfield 170, 424, [12, 80, 2, 657, 0, 1], none)] (417, .aload_n 0, 418, [], some [0]) (by decide +kernel) _ _ _).trans rfl
theorem B_X12_init_424 (d : Nat) (M : zM) (l0 : Nat) :
  evk zcod none d zc_X12_init 424 [(0, .ref l0)] [] M =
  if (0 ≤ (174 : Int32).toInt ∧ (174 : Int32).toInt < 100000) ∧ okS M [(0, .ref l0)] [.ref l0] = true then
  (if gK (alc M 20 (174 : Int32).toInt.toNat) l0 = 12 ∧ (M.1.1 + 7) < (alc M 20 (174 : Int32).toInt.toNat).1.1 + 7 then
  (evk zcod none d zc_X12_init 433 [(0, .ref l0)] [] (sR (alc M 20 (174 : Int32).toInt.toNat) l0 81 (M.1.1 + 7))) else none) else none :=
  (blk_ok zcod none d zc_X12_init [(425, .sipush 174, 428, [], none), (428, .newarray .int, 430, [20, 5], none), (430, .putfield 173, 433, [12, 81, 2, 658, 0, 1], none)] (424, .aload_n 0, 425, [], some [0]) (by decide +kernel) _ _ _).trans rfl
theorem B_X12_init_433 (d : Nat) (M : zM) (l0 : Nat) :
  evk zcod none d zc_X12_init 433 [(0, .ref l0)] [] M =
  if gK M l0 = 12 then
  (bV (evM zcod d 172 [.ref l0, .int (0 : Int32)] M) fun M1 =>
  if M1.1.1 = M.1.1 then
  (if gK M1 l0 = 12 then
  (bL (evM zcod d 163 [.int (108 : Int32), .int (111 : Int32), .int (97 : Int32), .int (100 : Int32), .int (0 : Int32), .int (0 : Int32), .int (0 : Int32)] M1) fun x2 M2 =>
  if M2.1.1 = M1.1.1 then
  (if gK M2 (gR M1 l0 9) = 23 ∧ zin (0 : Int32) (gN M2 (gR M1 l0 9)) then
  (if gK (sL M2 (gR M1 l0 9) (zix (0 : Int32)) x2) l0 = 12 then
  (bL (evM zcod d 163 [.int (115 : Int32), .int (105 : Int32), .int (108 : Int32), .int (107 : Int32), .int (0 : Int32), .int (0 : Int32), .int (0 : Int32)] (sL M2 (gR M1 l0 9) (zix (0 : Int32)) x2)) fun x3 M3 =>
  if M3.1.1 = (sL M2 (gR M1 l0 9) (zix (0 : Int32)) x2).1.1 then
  (if gK M3 (gR (sL M2 (gR M1 l0 9) (zix (0 : Int32)) x2) l0 9) = 23 ∧ zin (1 : Int32) (gN M3 (gR (sL M2 (gR M1 l0 9) (zix (0 : Int32)) x2) l0 9)) then
  (evk zcod none d zc_X12_init 478 [(0, .ref l0)] [] (sL M3 (gR (sL M2 (gR M1 l0 9) (zix (0 : Int32)) x2) l0 9) (zix (1 : Int32)) x3)) else none) else none) else none) else none) else none) else none) else none) else none :=
  (blk_ok zcod none d zc_X12_init [(434, .iconst 0, 435, [], none), (435, .invokevirtual 176, 438, [172, 1, 0, 12, 659, 660, 661, 662], none), (438, .aload_n 0, 439, [], none), (439, .getfield 34, 442, [12, 9, 2, 611, 0], none), (442, .iconst 0, 443, [], none), (443, .bipush 108, 445, [], none), (445, .bipush 111, 447, [], none), (447, .bipush 97, 449, [], none), (449, .bipush 100, 451, [], none), (451, .iconst 0, 452, [], none), (452, .iconst 0, 453, [], none), (453, .iconst 0, 454, [], none), (454, .invokestatic 180, 457, [163, 7, 2, 0, 663, 664, 662], none), (457, .lastore, 458, [23], none), (458, .aload_n 0, 459, [], none), (459, .getfield 34, 462, [12, 9, 2, 611, 0], none), (462, .iconst 1, 463, [], none), (463, .bipush 115, 465, [], none), (465, .bipush 105, 467, [], none), (467, .bipush 108, 469, [], none), (469, .bipush 107, 471, [], none), (471, .iconst 0, 472, [], none), (472, .iconst 0, 473, [], none), (473, .iconst 0, 474, [], none), (474, .invokestatic 180, 477, [163, 7, 2, 0, 663, 664, 662], none), (477, .lastore, 478, [23], none)] (433, .aload_n 0, 434, [], some [0]) (by decide +kernel) _ _ _).trans rfl
theorem B_X12_init_478 (d : Nat) (M : zM) (l0 : Nat) :
  evk zcod none d zc_X12_init 478 [(0, .ref l0)] [] M =
  if gK M l0 = 12 then
  (bL (evM zcod d 163 [.int (104 : Int32), .int (111 : Int32), .int (111 : Int32), .int (107 : Int32), .int (0 : Int32), .int (0 : Int32), .int (0 : Int32)] M) fun x1 M1 =>
  if M1.1.1 = M.1.1 then
  (if gK M1 (gR M l0 9) = 23 ∧ zin (2 : Int32) (gN M1 (gR M l0 9)) then
  (if gK (sL M1 (gR M l0 9) (zix (2 : Int32)) x1) l0 = 12 then
  (bL (evM zcod d 163 [.int (108 : Int32), .int (105 : Int32), .int (102 : Int32), .int (116 : Int32), .int (0 : Int32), .int (0 : Int32), .int (0 : Int32)] (sL M1 (gR M l0 9) (zix (2 : Int32)) x1)) fun x2 M2 =>
  if M2.1.1 = (sL M1 (gR M l0 9) (zix (2 : Int32)) x1).1.1 then
  (if gK M2 (gR (sL M1 (gR M l0 9) (zix (2 : Int32)) x1) l0 9) = 23 ∧ zin (3 : Int32) (gN M2 (gR (sL M1 (gR M l0 9) (zix (2 : Int32)) x1) l0 9)) then
  (evk zcod none d zc_X12_init 518 [(0, .ref l0)] [] (sL M2 (gR (sL M1 (gR M l0 9) (zix (2 : Int32)) x1) l0 9) (zix (3 : Int32)) x2)) else none) else none) else none) else none) else none) else none :=
  (blk_ok zcod none d zc_X12_init [(479, .getfield 34, 482, [12, 9, 2, 611, 0], none), (482, .iconst 2, 483, [], none), (483, .bipush 104, 485, [], none), (485, .bipush 111, 487, [], none), (487, .bipush 111, 489, [], none), (489, .bipush 107, 491, [], none), (491, .iconst 0, 492, [], none), (492, .iconst 0, 493, [], none), (493, .iconst 0, 494, [], none), (494, .invokestatic 180, 497, [163, 7, 2, 0, 663, 664, 662], none), (497, .lastore, 498, [23], none), (498, .aload_n 0, 499, [], none), (499, .getfield 34, 502, [12, 9, 2, 611, 0], none), (502, .iconst 3, 503, [], none), (503, .bipush 108, 505, [], none), (505, .bipush 105, 507, [], none), (507, .bipush 102, 509, [], none), (509, .bipush 116, 511, [], none), (511, .iconst 0, 512, [], none), (512, .iconst 0, 513, [], none), (513, .iconst 0, 514, [], none), (514, .invokestatic 180, 517, [163, 7, 2, 0, 663, 664, 662], none), (517, .lastore, 518, [23], none)] (478, .aload_n 0, 479, [], some [0]) (by decide +kernel) _ _ _).trans rfl
theorem B_X12_init_518 (d : Nat) (M : zM) (l0 : Nat) :
  evk zcod none d zc_X12_init 518 [(0, .ref l0)] [] M =
  if gK M l0 = 12 then
  (bL (evM zcod d 163 [.int (119 : Int32), .int (105 : Int32), .int (110 : Int32), .int (100 : Int32), .int (0 : Int32), .int (0 : Int32), .int (0 : Int32)] M) fun x1 M1 =>
  if M1.1.1 = M.1.1 then
  (if gK M1 (gR M l0 9) = 23 ∧ zin (4 : Int32) (gN M1 (gR M l0 9)) then
  (if gK (sL M1 (gR M l0 9) (zix (4 : Int32)) x1) l0 = 12 then
  (bL (evM zcod d 163 [.int (116 : Int32), .int (105 : Int32), .int (101 : Int32), .int (115 : Int32), .int (0 : Int32), .int (0 : Int32), .int (0 : Int32)] (sL M1 (gR M l0 9) (zix (4 : Int32)) x1)) fun x2 M2 =>
  if M2.1.1 = (sL M1 (gR M l0 9) (zix (4 : Int32)) x1).1.1 then
  (if gK M2 (gR (sL M1 (gR M l0 9) (zix (4 : Int32)) x1) l0 9) = 23 ∧ zin (5 : Int32) (gN M2 (gR (sL M1 (gR M l0 9) (zix (4 : Int32)) x1) l0 9)) then
  (evk zcod none d zc_X12_init 558 [(0, .ref l0)] [] (sL M2 (gR (sL M1 (gR M l0 9) (zix (4 : Int32)) x1) l0 9) (zix (5 : Int32)) x2)) else none) else none) else none) else none) else none) else none :=
  (blk_ok zcod none d zc_X12_init [(519, .getfield 34, 522, [12, 9, 2, 611, 0], none), (522, .iconst 4, 523, [], none), (523, .bipush 119, 525, [], none), (525, .bipush 105, 527, [], none), (527, .bipush 110, 529, [], none), (529, .bipush 100, 531, [], none), (531, .iconst 0, 532, [], none), (532, .iconst 0, 533, [], none), (533, .iconst 0, 534, [], none), (534, .invokestatic 180, 537, [163, 7, 2, 0, 663, 664, 662], none), (537, .lastore, 538, [23], none), (538, .aload_n 0, 539, [], none), (539, .getfield 34, 542, [12, 9, 2, 611, 0], none), (542, .iconst 5, 543, [], none), (543, .bipush 116, 545, [], none), (545, .bipush 105, 547, [], none), (547, .bipush 101, 549, [], none), (549, .bipush 115, 551, [], none), (551, .iconst 0, 552, [], none), (552, .iconst 0, 553, [], none), (553, .iconst 0, 554, [], none), (554, .invokestatic 180, 557, [163, 7, 2, 0, 663, 664, 662], none), (557, .lastore, 558, [23], none)] (518, .aload_n 0, 519, [], some [0]) (by decide +kernel) _ _ _).trans rfl
theorem B_X12_init_558 (d : Nat) (M : zM) (l0 : Nat) :
  evk zcod none d zc_X12_init 558 [(0, .ref l0)] [] M =
  if gK M l0 = 12 then
  (bL (evM zcod d 163 [.int (112 : Int32), .int (97 : Int32), .int (121 : Int32), .int (115 : Int32), .int (0 : Int32), .int (0 : Int32), .int (0 : Int32)] M) fun x1 M1 =>
  if M1.1.1 = M.1.1 then
  (if gK M1 (gR M l0 9) = 23 ∧ zin (6 : Int32) (gN M1 (gR M l0 9)) then
  (if gK (sL M1 (gR M l0 9) (zix (6 : Int32)) x1) l0 = 12 then
  (bL (evM zcod d 163 [.int (114 : Int32), .int (105 : Int32), .int (109 : Int32), .int (0 : Int32), .int (0 : Int32), .int (0 : Int32), .int (0 : Int32)] (sL M1 (gR M l0 9) (zix (6 : Int32)) x1)) fun x2 M2 =>
  if M2.1.1 = (sL M1 (gR M l0 9) (zix (6 : Int32)) x1).1.1 then
  (if gK M2 (gR (sL M1 (gR M l0 9) (zix (6 : Int32)) x1) l0 9) = 23 ∧ zin (7 : Int32) (gN M2 (gR (sL M1 (gR M l0 9) (zix (6 : Int32)) x1) l0 9)) then
  (evk zcod none d zc_X12_init 599 [(0, .ref l0)] [] (sL M2 (gR (sL M1 (gR M l0 9) (zix (6 : Int32)) x1) l0 9) (zix (7 : Int32)) x2)) else none) else none) else none) else none) else none) else none :=
  (blk_ok zcod none d zc_X12_init [(559, .getfield 34, 562, [12, 9, 2, 611, 0], none), (562, .bipush 6, 564, [], none), (564, .bipush 112, 566, [], none), (566, .bipush 97, 568, [], none), (568, .bipush 121, 570, [], none), (570, .bipush 115, 572, [], none), (572, .iconst 0, 573, [], none), (573, .iconst 0, 574, [], none), (574, .iconst 0, 575, [], none), (575, .invokestatic 180, 578, [163, 7, 2, 0, 663, 664, 662], none), (578, .lastore, 579, [23], none), (579, .aload_n 0, 580, [], none), (580, .getfield 34, 583, [12, 9, 2, 611, 0], none), (583, .bipush 7, 585, [], none), (585, .bipush 114, 587, [], none), (587, .bipush 105, 589, [], none), (589, .bipush 109, 591, [], none), (591, .iconst 0, 592, [], none), (592, .iconst 0, 593, [], none), (593, .iconst 0, 594, [], none), (594, .iconst 0, 595, [], none), (595, .invokestatic 180, 598, [163, 7, 2, 0, 663, 664, 662], none), (598, .lastore, 599, [23], none)] (558, .aload_n 0, 559, [], some [0]) (by decide +kernel) _ _ _).trans rfl
theorem B_X12_init_599 (d : Nat) (M : zM) (l0 : Nat) :
  evk zcod none d zc_X12_init 599 [(0, .ref l0)] [] M =
  if gK M l0 = 12 then
  (bL (evM zcod d 163 [.int (103 : Int32), .int (117 : Int32), .int (115 : Int32), .int (116 : Int32), .int (115 : Int32), .int (0 : Int32), .int (0 : Int32)] M) fun x1 M1 =>
  if M1.1.1 = M.1.1 then
  (if gK M1 (gR M l0 9) = 23 ∧ zin (8 : Int32) (gN M1 (gR M l0 9)) then
  (if gK (sL M1 (gR M l0 9) (zix (8 : Int32)) x1) l0 = 12 then
  (bL (evM zcod d 163 [.int (115 : Int32), .int (101 : Int32), .int (101 : Int32), .int (100 : Int32), .int (0 : Int32), .int (0 : Int32), .int (0 : Int32)] (sL M1 (gR M l0 9) (zix (8 : Int32)) x1)) fun x2 M2 =>
  if M2.1.1 = (sL M1 (gR M l0 9) (zix (8 : Int32)) x1).1.1 then
  (if gK M2 (gR (sL M1 (gR M l0 9) (zix (8 : Int32)) x1) l0 9) = 23 ∧ zin (9 : Int32) (gN M2 (gR (sL M1 (gR M l0 9) (zix (8 : Int32)) x1) l0 9)) then
  (evk zcod none d zc_X12_init 642 [(0, .ref l0)] [] (sL M2 (gR (sL M1 (gR M l0 9) (zix (8 : Int32)) x1) l0 9) (zix (9 : Int32)) x2)) else none) else none) else none) else none) else none) else none :=
  (blk_ok zcod none d zc_X12_init [(600, .getfield 34, 603, [12, 9, 2, 611, 0], none), (603, .bipush 8, 605, [], none), (605, .bipush 103, 607, [], none), (607, .bipush 117, 609, [], none), (609, .bipush 115, 611, [], none), (611, .bipush 116, 613, [], none), (613, .bipush 115, 615, [], none), (615, .iconst 0, 616, [], none), (616, .iconst 0, 617, [], none), (617, .invokestatic 180, 620, [163, 7, 2, 0, 663, 664, 662], none), (620, .lastore, 621, [23], none), (621, .aload_n 0, 622, [], none), (622, .getfield 34, 625, [12, 9, 2, 611, 0], none), (625, .bipush 9, 627, [], none), (627, .bipush 115, 629, [], none), (629, .bipush 101, 631, [], none), (631, .bipush 101, 633, [], none), (633, .bipush 100, 635, [], none), (635, .iconst 0, 636, [], none), (636, .iconst 0, 637, [], none), (637, .iconst 0, 638, [], none), (638, .invokestatic 180, 641, [163, 7, 2, 0, 663, 664, 662], none), (641, .lastore, 642, [23], none)] (599, .aload_n 0, 600, [], some [0]) (by decide +kernel) _ _ _).trans rfl
theorem B_X12_init_642 (d : Nat) (M : zM) (l0 : Nat) :
  evk zcod none d zc_X12_init 642 [(0, .ref l0)] [] M =
  if gK M l0 = 12 then
  (bL (evM zcod d 163 [.int (105 : Int32), .int (102 : Int32), .int (0 : Int32), .int (0 : Int32), .int (0 : Int32), .int (0 : Int32), .int (0 : Int32)] M) fun x1 M1 =>
  if M1.1.1 = M.1.1 then
  (if gK M1 (gR M l0 9) = 23 ∧ zin (10 : Int32) (gN M1 (gR M l0 9)) then
  (if gK (sL M1 (gR M l0 9) (zix (10 : Int32)) x1) l0 = 12 then
  (bL (evM zcod d 163 [.int (116 : Int32), .int (104 : Int32), .int (101 : Int32), .int (110 : Int32), .int (0 : Int32), .int (0 : Int32), .int (0 : Int32)] (sL M1 (gR M l0 9) (zix (10 : Int32)) x1)) fun x2 M2 =>
  if M2.1.1 = (sL M1 (gR M l0 9) (zix (10 : Int32)) x1).1.1 then
  (if gK M2 (gR (sL M1 (gR M l0 9) (zix (10 : Int32)) x1) l0 9) = 23 ∧ zin (11 : Int32) (gN M2 (gR (sL M1 (gR M l0 9) (zix (10 : Int32)) x1) l0 9)) then
  (evk zcod none d zc_X12_init 682 [(0, .ref l0)] [] (sL M2 (gR (sL M1 (gR M l0 9) (zix (10 : Int32)) x1) l0 9) (zix (11 : Int32)) x2)) else none) else none) else none) else none) else none) else none :=
  (blk_ok zcod none d zc_X12_init [(643, .getfield 34, 646, [12, 9, 2, 611, 0], none), (646, .bipush 10, 648, [], none), (648, .bipush 105, 650, [], none), (650, .bipush 102, 652, [], none), (652, .iconst 0, 653, [], none), (653, .iconst 0, 654, [], none), (654, .iconst 0, 655, [], none), (655, .iconst 0, 656, [], none), (656, .iconst 0, 657, [], none), (657, .invokestatic 180, 660, [163, 7, 2, 0, 663, 664, 662], none), (660, .lastore, 661, [23], none), (661, .aload_n 0, 662, [], none), (662, .getfield 34, 665, [12, 9, 2, 611, 0], none), (665, .bipush 11, 667, [], none), (667, .bipush 116, 669, [], none), (669, .bipush 104, 671, [], none), (671, .bipush 101, 673, [], none), (673, .bipush 110, 675, [], none), (675, .iconst 0, 676, [], none), (676, .iconst 0, 677, [], none), (677, .iconst 0, 678, [], none), (678, .invokestatic 180, 681, [163, 7, 2, 0, 663, 664, 662], none), (681, .lastore, 682, [23], none)] (642, .aload_n 0, 643, [], some [0]) (by decide +kernel) _ _ _).trans rfl
theorem B_X12_init_682 (d : Nat) (M : zM) (l0 : Nat) :
  evk zcod none d zc_X12_init 682 [(0, .ref l0)] [] M =
  if gK M l0 = 12 then
  (bL (evM zcod d 163 [.int (101 : Int32), .int (108 : Int32), .int (115 : Int32), .int (101 : Int32), .int (0 : Int32), .int (0 : Int32), .int (0 : Int32)] M) fun x1 M1 =>
  if M1.1.1 = M.1.1 then
  (if gK M1 (gR M l0 9) = 23 ∧ zin (12 : Int32) (gN M1 (gR M l0 9)) then
  (if gK (sL M1 (gR M l0 9) (zix (12 : Int32)) x1) l0 = 12 then
  (bL (evM zcod d 163 [.int (104 : Int32), .int (111 : Int32), .int (117 : Int32), .int (114 : Int32), .int (0 : Int32), .int (0 : Int32), .int (0 : Int32)] (sL M1 (gR M l0 9) (zix (12 : Int32)) x1)) fun x2 M2 =>
  if M2.1.1 = (sL M1 (gR M l0 9) (zix (12 : Int32)) x1).1.1 then
  (if gK M2 (gR (sL M1 (gR M l0 9) (zix (12 : Int32)) x1) l0 9) = 23 ∧ zin (13 : Int32) (gN M2 (gR (sL M1 (gR M l0 9) (zix (12 : Int32)) x1) l0 9)) then
  (evk zcod none d zc_X12_init 724 [(0, .ref l0)] [] (sL M2 (gR (sL M1 (gR M l0 9) (zix (12 : Int32)) x1) l0 9) (zix (13 : Int32)) x2)) else none) else none) else none) else none) else none) else none :=
  (blk_ok zcod none d zc_X12_init [(683, .getfield 34, 686, [12, 9, 2, 611, 0], none), (686, .bipush 12, 688, [], none), (688, .bipush 101, 690, [], none), (690, .bipush 108, 692, [], none), (692, .bipush 115, 694, [], none), (694, .bipush 101, 696, [], none), (696, .iconst 0, 697, [], none), (697, .iconst 0, 698, [], none), (698, .iconst 0, 699, [], none), (699, .invokestatic 180, 702, [163, 7, 2, 0, 663, 664, 662], none), (702, .lastore, 703, [23], none), (703, .aload_n 0, 704, [], none), (704, .getfield 34, 707, [12, 9, 2, 611, 0], none), (707, .bipush 13, 709, [], none), (709, .bipush 104, 711, [], none), (711, .bipush 111, 713, [], none), (713, .bipush 117, 715, [], none), (715, .bipush 114, 717, [], none), (717, .iconst 0, 718, [], none), (718, .iconst 0, 719, [], none), (719, .iconst 0, 720, [], none), (720, .invokestatic 180, 723, [163, 7, 2, 0, 663, 664, 662], none), (723, .lastore, 724, [23], none)] (682, .aload_n 0, 683, [], some [0]) (by decide +kernel) _ _ _).trans rfl
theorem B_X12_init_724 (d : Nat) (M : zM) (l0 : Nat) :
  evk zcod none d zc_X12_init 724 [(0, .ref l0)] [] M =
  if gK M l0 = 12 then
  (bL (evM zcod d 163 [.int (100 : Int32), .int (97 : Int32), .int (121 : Int32), .int (0 : Int32), .int (0 : Int32), .int (0 : Int32), .int (0 : Int32)] M) fun x1 M1 =>
  if M1.1.1 = M.1.1 then
  (if gK M1 (gR M l0 9) = 23 ∧ zin (14 : Int32) (gN M1 (gR M l0 9)) then
  (if gK (sL M1 (gR M l0 9) (zix (14 : Int32)) x1) l0 = 12 then
  (bL (evM zcod d 163 [.int (115 : Int32), .int (105 : Int32), .int (122 : Int32), .int (101 : Int32), .int (0 : Int32), .int (0 : Int32), .int (0 : Int32)] (sL M1 (gR M l0 9) (zix (14 : Int32)) x1)) fun x2 M2 =>
  if M2.1.1 = (sL M1 (gR M l0 9) (zix (14 : Int32)) x1).1.1 then
  (if gK M2 (gR (sL M1 (gR M l0 9) (zix (14 : Int32)) x1) l0 9) = 23 ∧ zin (15 : Int32) (gN M2 (gR (sL M1 (gR M l0 9) (zix (14 : Int32)) x1) l0 9)) then
  (evk zcod none d zc_X12_init 765 [(0, .ref l0)] [] (sL M2 (gR (sL M1 (gR M l0 9) (zix (14 : Int32)) x1) l0 9) (zix (15 : Int32)) x2)) else none) else none) else none) else none) else none) else none :=
  (blk_ok zcod none d zc_X12_init [(725, .getfield 34, 728, [12, 9, 2, 611, 0], none), (728, .bipush 14, 730, [], none), (730, .bipush 100, 732, [], none), (732, .bipush 97, 734, [], none), (734, .bipush 121, 736, [], none), (736, .iconst 0, 737, [], none), (737, .iconst 0, 738, [], none), (738, .iconst 0, 739, [], none), (739, .iconst 0, 740, [], none), (740, .invokestatic 180, 743, [163, 7, 2, 0, 663, 664, 662], none), (743, .lastore, 744, [23], none), (744, .aload_n 0, 745, [], none), (745, .getfield 34, 748, [12, 9, 2, 611, 0], none), (748, .bipush 15, 750, [], none), (750, .bipush 115, 752, [], none), (752, .bipush 105, 754, [], none), (754, .bipush 122, 756, [], none), (756, .bipush 101, 758, [], none), (758, .iconst 0, 759, [], none), (759, .iconst 0, 760, [], none), (760, .iconst 0, 761, [], none), (761, .invokestatic 180, 764, [163, 7, 2, 0, 663, 664, 662], none), (764, .lastore, 765, [23], none)] (724, .aload_n 0, 725, [], some [0]) (by decide +kernel) _ _ _).trans rfl
theorem B_X12_init_765 (d : Nat) (M : zM) (l0 : Nat) :
  evk zcod none d zc_X12_init 765 [(0, .ref l0)] [] M =
  if gK M l0 = 12 then
  (bL (evM zcod d 163 [.int (119 : Int32), .int (101 : Int32), .int (105 : Int32), .int (103 : Int32), .int (104 : Int32), .int (116 : Int32), .int (0 : Int32)] M) fun x1 M1 =>
  if M1.1.1 = M.1.1 then
  (if gK M1 (gR M l0 9) = 23 ∧ zin (16 : Int32) (gN M1 (gR M l0 9)) then
  (if gK (sL M1 (gR M l0 9) (zix (16 : Int32)) x1) l0 = 12 then
  (bL (evM zcod d 163 [.int (104 : Int32), .int (105 : Int32), .int (103 : Int32), .int (104 : Int32), .int (0 : Int32), .int (0 : Int32), .int (0 : Int32)] (sL M1 (gR M l0 9) (zix (16 : Int32)) x1)) fun x2 M2 =>
  if M2.1.1 = (sL M1 (gR M l0 9) (zix (16 : Int32)) x1).1.1 then
  (if gK M2 (gR (sL M1 (gR M l0 9) (zix (16 : Int32)) x1) l0 9) = 23 ∧ zin (17 : Int32) (gN M2 (gR (sL M1 (gR M l0 9) (zix (16 : Int32)) x1) l0 9)) then
  (evk zcod none d zc_X12_init 809 [(0, .ref l0)] [] (sL M2 (gR (sL M1 (gR M l0 9) (zix (16 : Int32)) x1) l0 9) (zix (17 : Int32)) x2)) else none) else none) else none) else none) else none) else none :=
  (blk_ok zcod none d zc_X12_init [(766, .getfield 34, 769, [12, 9, 2, 611, 0], none), (769, .bipush 16, 771, [], none), (771, .bipush 119, 773, [], none), (773, .bipush 101, 775, [], none), (775, .bipush 105, 777, [], none), (777, .bipush 103, 779, [], none), (779, .bipush 104, 781, [], none), (781, .bipush 116, 783, [], none), (783, .iconst 0, 784, [], none), (784, .invokestatic 180, 787, [163, 7, 2, 0, 663, 664, 662], none), (787, .lastore, 788, [23], none), (788, .aload_n 0, 789, [], none), (789, .getfield 34, 792, [12, 9, 2, 611, 0], none), (792, .bipush 17, 794, [], none), (794, .bipush 104, 796, [], none), (796, .bipush 105, 798, [], none), (798, .bipush 103, 800, [], none), (800, .bipush 104, 802, [], none), (802, .iconst 0, 803, [], none), (803, .iconst 0, 804, [], none), (804, .iconst 0, 805, [], none), (805, .invokestatic 180, 808, [163, 7, 2, 0, 663, 664, 662], none), (808, .lastore, 809, [23], none)] (765, .aload_n 0, 766, [], some [0]) (by decide +kernel) _ _ _).trans rfl
theorem B_X12_init_809 (d : Nat) (M : zM) (l0 : Nat) :
  evk zcod none d zc_X12_init 809 [(0, .ref l0)] [] M =
  if gK M l0 = 12 then
  (bL (evM zcod d 163 [.int (97 : Int32), .int (99 : Int32), .int (114 : Int32), .int (111 : Int32), .int (115 : Int32), .int (115 : Int32), .int (0 : Int32)] M) fun x1 M1 =>
  if M1.1.1 = M.1.1 then
  (if gK M1 (gR M l0 9) = 23 ∧ zin (18 : Int32) (gN M1 (gR M l0 9)) then
  (if gK (sL M1 (gR M l0 9) (zix (18 : Int32)) x1) l0 = 12 then
  (bL (evM zcod d 163 [.int (112 : Int32), .int (114 : Int32), .int (105 : Int32), .int (99 : Int32), .int (101 : Int32), .int (0 : Int32), .int (0 : Int32)] (sL M1 (gR M l0 9) (zix (18 : Int32)) x1)) fun x2 M2 =>
  if M2.1.1 = (sL M1 (gR M l0 9) (zix (18 : Int32)) x1).1.1 then
  (if gK M2 (gR (sL M1 (gR M l0 9) (zix (18 : Int32)) x1) l0 9) = 23 ∧ zin (19 : Int32) (gN M2 (gR (sL M1 (gR M l0 9) (zix (18 : Int32)) x1) l0 9)) then
  (evk zcod none d zc_X12_init 854 [(0, .ref l0)] [] (sL M2 (gR (sL M1 (gR M l0 9) (zix (18 : Int32)) x1) l0 9) (zix (19 : Int32)) x2)) else none) else none) else none) else none) else none) else none :=
  (blk_ok zcod none d zc_X12_init [(810, .getfield 34, 813, [12, 9, 2, 611, 0], none), (813, .bipush 18, 815, [], none), (815, .bipush 97, 817, [], none), (817, .bipush 99, 819, [], none), (819, .bipush 114, 821, [], none), (821, .bipush 111, 823, [], none), (823, .bipush 115, 825, [], none), (825, .bipush 115, 827, [], none), (827, .iconst 0, 828, [], none), (828, .invokestatic 180, 831, [163, 7, 2, 0, 663, 664, 662], none), (831, .lastore, 832, [23], none), (832, .aload_n 0, 833, [], none), (833, .getfield 34, 836, [12, 9, 2, 611, 0], none), (836, .bipush 19, 838, [], none), (838, .bipush 112, 840, [], none), (840, .bipush 114, 842, [], none), (842, .bipush 105, 844, [], none), (844, .bipush 99, 846, [], none), (846, .bipush 101, 848, [], none), (848, .iconst 0, 849, [], none), (849, .iconst 0, 850, [], none), (850, .invokestatic 180, 853, [163, 7, 2, 0, 663, 664, 662], none), (853, .lastore, 854, [23], none)] (809, .aload_n 0, 810, [], some [0]) (by decide +kernel) _ _ _).trans rfl
theorem B_X12_init_854 (d : Nat) (M : zM) (l0 : Nat) :
  evk zcod none d zc_X12_init 854 [(0, .ref l0)] [] M =
  if gK M l0 = 12 then
  (bL (evM zcod d 163 [.int (117 : Int32), .int (112 : Int32), .int (0 : Int32), .int (0 : Int32), .int (0 : Int32), .int (0 : Int32), .int (0 : Int32)] M) fun x1 M1 =>
  if M1.1.1 = M.1.1 then
  (if gK M1 (gR M l0 9) = 23 ∧ zin (20 : Int32) (gN M1 (gR M l0 9)) then
  (if gK (sL M1 (gR M l0 9) (zix (20 : Int32)) x1) l0 = 12 then
  (bL (evM zcod d 163 [.int (115 : Int32), .int (116 : Int32), .int (111 : Int32), .int (114 : Int32), .int (101 : Int32), .int (100 : Int32), .int (0 : Int32)] (sL M1 (gR M l0 9) (zix (20 : Int32)) x1)) fun x2 M2 =>
  if M2.1.1 = (sL M1 (gR M l0 9) (zix (20 : Int32)) x1).1.1 then
  (if gK M2 (gR (sL M1 (gR M l0 9) (zix (20 : Int32)) x1) l0 9) = 23 ∧ zin (21 : Int32) (gN M2 (gR (sL M1 (gR M l0 9) (zix (20 : Int32)) x1) l0 9)) then
  (evk zcod none d zc_X12_init 896 [(0, .ref l0)] [] (sL M2 (gR (sL M1 (gR M l0 9) (zix (20 : Int32)) x1) l0 9) (zix (21 : Int32)) x2)) else none) else none) else none) else none) else none) else none :=
  (blk_ok zcod none d zc_X12_init [(855, .getfield 34, 858, [12, 9, 2, 611, 0], none), (858, .bipush 20, 860, [], none), (860, .bipush 117, 862, [], none), (862, .bipush 112, 864, [], none), (864, .iconst 0, 865, [], none), (865, .iconst 0, 866, [], none), (866, .iconst 0, 867, [], none), (867, .iconst 0, 868, [], none), (868, .iconst 0, 869, [], none), (869, .invokestatic 180, 872, [163, 7, 2, 0, 663, 664, 662], none), (872, .lastore, 873, [23], none), (873, .aload_n 0, 874, [], none), (874, .getfield 34, 877, [12, 9, 2, 611, 0], none), (877, .bipush 21, 879, [], none), (879, .bipush 115, 881, [], none), (881, .bipush 116, 883, [], none), (883, .bipush 111, 885, [], none), (885, .bipush 114, 887, [], none), (887, .bipush 101, 889, [], none), (889, .bipush 100, 891, [], none), (891, .iconst 0, 892, [], none), (892, .invokestatic 180, 895, [163, 7, 2, 0, 663, 664, 662], none), (895, .lastore, 896, [23], none)] (854, .aload_n 0, 855, [], some [0]) (by decide +kernel) _ _ _).trans rfl
theorem B_X12_init_896 (d : Nat) (M : zM) (l0 : Nat) :
  evk zcod none d zc_X12_init 896 [(0, .ref l0)] [] M =
  if gK M l0 = 12 then
  (bV (evM zcod d 198 [.ref l0] M) fun M1 =>
  if M1.1.1 = M.1.1 then
  (if gK M1 l0 = 12 then
  (bV (evM zcod d 199 [.ref l0] M1) fun M2 =>
  if M2.1.1 = M1.1.1 then
  (some (none, M2)) else none) else none) else none) else none :=
  (blk_ok zcod none d zc_X12_init [(897, .invokevirtual 184, 900, [198, 0, 0, 12, 665, 666, 667, 662], none), (900, .aload_n 0, 901, [], none), (901, .invokevirtual 187, 904, [199, 0, 0, 12, 668, 669, 670, 662], none), (904, .return_, 905, [], none)] (896, .aload_n 0, 897, [], some [0]) (by decide +kernel) _ _ _).trans rfl
theorem E_X12_feed (d : Nat) (M : zM) (l0 : Nat) (l1 : Int32) (l2 : Int32) (l3 : Int32) (l4 : Int32) (l5 : Int32) : evM zcod (d + 1) 156 [.ref l0, .int l1, .int l2, .int l3, .int l4, .int l5] M = evk zcod none d zc_X12_feed 0 [(0, .ref l0), (1, .int l1), (2, .int l2), (3, .int l3), (4, .int l4), (5, .int l5)] [] M := evM_eq zcod d 156 _ M (Nat.le_of_ble_eq_true rfl)
theorem B_X12_feed_0 (d : Nat) (M : zM) (l0 : Nat) (l1 : Int32) (l2 : Int32) (l3 : Int32) (l4 : Int32) (l5 : Int32) :
  evk zcod none d zc_X12_feed 0 [(0, .ref l0), (1, .int l1), (2, .int l2), (3, .int l3), (4, .int l4), (5, .int l5)] [] M =
  if gK M l0 = 12 then
  (if ((gI M l0 2) + (20 : Int32)) ≤ (2000 : Int32) then
  evk zcod none d zc_X12_feed 15 [(0, .ref l0), (1, .int l1), (2, .int l2), (3, .int l3), (4, .int l4), (5, .int l5)] [] M
  else
  some (some (.int (-1 : Int32)), M)) else none :=
  (blk_ok zcod none d zc_X12_feed [(1, .getfield 190, 4, [12, 2, 0, 671, 0], none), (4, .bipush 20, 6, [], none), (6, .iadd, 7, [], none), (7, .sipush 2000, 10, [], none), (10, .if_icmp .le 5, 13, [15], none), (13, .iconst (-1), 14, [], none), (14, .ireturn, 15, [0], none)] (0, .aload_n 0, 1, [], none) (by decide +kernel) _ _ _).trans rfl
theorem B_X12_feed_15 (d : Nat) (M : zM) (l0 : Nat) (l1 : Int32) (l2 : Int32) (l3 : Int32) (l4 : Int32) (l5 : Int32) :
  evk zcod none d zc_X12_feed 15 [(0, .ref l0), (1, .int l1), (2, .int l2), (3, .int l3), (4, .int l4), (5, .int l5)] [] M =
  if gK M l0 = 12 then
  (bV (evM zcod d 157 [.ref l0, .int l1] M) fun M1 =>
  if M1.1.1 = M.1.1 then
  (if gK M1 l0 = 12 then
  (bV (evM zcod d 157 [.ref l0, .int l2] M1) fun M2 =>
  if M2.1.1 = M1.1.1 then
  (if gK M2 l0 = 12 then
  (bV (evM zcod d 157 [.ref l0, .int l3] M2) fun M3 =>
  if M3.1.1 = M2.1.1 then
  (if gK M3 l0 = 12 then
  (bV (evM zcod d 157 [.ref l0, .int l4] M3) fun M4 =>
  if M4.1.1 = M3.1.1 then
  (evk zcod none d zc_X12_feed 36 [(0, .ref l0), (5, .int l5)] [] M4) else none) else none) else none) else none) else none) else none) else none) else none :=
  (blk_ok zcod none d zc_X12_feed [(16, .iload_n 1, 17, [], none), (17, .invokevirtual 193, 20, [157, 1, 0, 12, 672, 673, 674, 662], none), (20, .aload_n 0, 21, [], none), (21, .iload_n 2, 22, [], none), (22, .invokevirtual 193, 25, [157, 1, 0, 12, 672, 673, 674, 662], none), (25, .aload_n 0, 26, [], none), (26, .iload_n 3, 27, [], none), (27, .invokevirtual 193, 30, [157, 1, 0, 12, 672, 673, 674, 662], none), (30, .aload_n 0, 31, [], none), (31, .iload 4, 33, [], none), (33, .invokevirtual 193, 36, [157, 1, 0, 12, 672, 673, 674, 662], none)] (15, .aload_n 0, 16, [], some [0, 1, 2, 3, 4, 5]) (by decide +kernel) _ _ _).trans rfl
theorem B_X12_feed_36 (d : Nat) (M : zM) (l0 : Nat) (l5 : Int32) :
  evk zcod none d zc_X12_feed 36 [(0, .ref l0), (5, .int l5)] [] M =
  if gK M l0 = 12 then
  (bV (evM zcod d 157 [.ref l0, .int l5] M) fun M1 =>
  if M1.1.1 = M.1.1 then
  (if gK M1 l0 = 12 then
  (some (some (.int (gI M1 l0 2)), M1)) else none) else none) else none :=
  (blk_ok zcod none d zc_X12_feed [(37, .iload 5, 39, [], none), (39, .invokevirtual 193, 42, [157, 1, 0, 12, 672, 673, 674, 662], none), (42, .aload_n 0, 43, [], none), (43, .getfield 190, 46, [12, 2, 0, 671, 0], none), (46, .ireturn, 47, [0], none)] (36, .aload_n 0, 37, [], some [0, 5]) (by decide +kernel) _ _ _).trans rfl
theorem E_X12_put (d : Nat) (M : zM) (l0 : Nat) (l1 : Int32) : evM zcod (d + 1) 157 [.ref l0, .int l1] M = evk zcod none d zc_X12_put 0 [(0, .ref l0), (1, .int l1)] [] M := evM_eq zcod d 157 _ M (Nat.le_of_ble_eq_true rfl)
theorem B_X12_put_0 (d : Nat) (M : zM) (l0 : Nat) (l1 : Int32) :
  evk zcod none d zc_X12_put 0 [(0, .ref l0), (1, .int l1)] [] M =
  evk zcod none d zc_X12_put 3 [(0, .ref l0), (1, .int l1), (2, .int (24 : Int32))] [] M :=
  (blk_ok zcod none d zc_X12_put [(2, .istore_n 2, 3, [], none)] (0, .bipush 24, 2, [], none) (by decide +kernel) _ _ _).trans rfl
theorem B_X12_put_3 (d : Nat) (M : zM) (l0 : Nat) (l1 : Int32) (l2 : Int32) :
  evk zcod none d zc_X12_put 3 [(0, .ref l0), (1, .int l1), (2, .int l2)] [] M =
  if l2 < 0 then
  evk zcod none d zc_X12_put 36 [] [] M
  else
  if gK M l0 = 12 then
  (if gK M l0 = 12 then
  (if gK M (gR M l0 1) = 21 ∧ zin (gI M l0 2) (gN M (gR M l0 1)) then
  (if gK (sI M (gR M l0 1) (zix (gI M l0 2)) (((l1 >>> (l2 &&& 31)).toInt8.toInt32).toInt8.toInt32)) l0 = 12 then
  (if gK (sI M (gR M l0 1) (zix (gI M l0 2)) (((l1 >>> (l2 &&& 31)).toInt8.toInt32).toInt8.toInt32)) l0 = 12 then
  (evk zcod none d zc_X12_put 3 [(0, .ref l0), (1, .int l1), (2, .int (l2 + (-8)))] [] (sI (sI M (gR M l0 1) (zix (gI M l0 2)) (((l1 >>> (l2 &&& 31)).toInt8.toInt32).toInt8.toInt32)) l0 2 ((gI (sI M (gR M l0 1) (zix (gI M l0 2)) (((l1 >>> (l2 &&& 31)).toInt8.toInt32).toInt8.toInt32)) l0 2) + (1 : Int32)))) else none) else none) else none) else none) else none :=
  (blk_ok zcod none d zc_X12_put [(4, .ifCond .lt 32, 7, [36], none), (7, .aload_n 0, 8, [], none), (8, .getfield 13, 11, [12, 1, 2, 605, 0], none), (11, .aload_n 0, 12, [], none), (12, .getfield 190, 15, [12, 2, 0, 671, 0], none), (15, .iload_n 1, 16, [], none), (16, .iload_n 2, 17, [], none), (17, .ishr, 18, [], none), (18, .i2b, 19, [], none), (19, .bastore, 20, [21], none), (20, .aload_n 0, 21, [], none), (21, .dup, 22, [], none), (22, .getfield 190, 25, [12, 2, 0, 671, 0], none), (25, .iconst 1, 26, [], none), (26, .iadd, 27, [], none), (27, .putfield 190, 30, [12, 2, 0, 671, 0, 0], none), (30, .iinc 2 (-8), 33, [], none), (33, .goto (-30), 36, [3], none)] (3, .iload_n 2, 4, [], some [0, 1, 2]) (by decide +kernel) _ _ _).trans rfl
theorem B_X12_put_36 (d : Nat) (M : zM)  :
  evk zcod none d zc_X12_put 36 [] [] M =
  some (none, M) :=
  (blk_ok zcod none d zc_X12_put [] (36, .return_, 37, [], some []) (by decide +kernel) _ _ _).trans rfl
theorem E_X12_back (d : Nat) (M : zM) (l0 : Nat) (l1 : Int32) : evM zcod (d + 1) 158 [.ref l0, .int l1] M = evk zcod none d zc_X12_back 0 [(0, .ref l0), (1, .int l1)] [] M := evM_eq zcod d 158 _ M (Nat.le_of_ble_eq_true rfl)
theorem B_X12_back_0 (d : Nat) (M : zM) (l0 : Nat) (l1 : Int32) :
  evk zcod none d zc_X12_back 0 [(0, .ref l0), (1, .int l1)] [] M =
  if l1 < 0 then
  evk zcod none d zc_X12_back 12 [] [] M
  else
  if gK M l0 = 12 then
  (if l1 ≤ (gI M l0 2) then
  evk zcod none d zc_X12_back 14 [(0, .ref l0), (1, .int l1)] [] M
  else
  evk zcod none d zc_X12_back 12 [] [] M) else none :=
  (blk_ok zcod none d zc_X12_back [(1, .ifCond .lt 11, 4, [12], none), (4, .iload_n 1, 5, [], none), (5, .aload_n 0, 6, [], none), (6, .getfield 190, 9, [12, 2, 0, 671, 0], none), (9, .if_icmp .le 5, 12, [14], none)] (0, .iload_n 1, 1, [], none) (by decide +kernel) _ _ _).trans rfl
theorem B_X12_back_12 (d : Nat) (M : zM)  :
  evk zcod none d zc_X12_back 12 [] [] M =
  some (some (.int (-1 : Int32)), M) :=
  (blk_ok zcod none d zc_X12_back [(13, .ireturn, 14, [0], none)] (12, .iconst (-1), 13, [], some []) (by decide +kernel) _ _ _).trans rfl
theorem B_X12_back_14 (d : Nat) (M : zM) (l0 : Nat) (l1 : Int32) :
  evk zcod none d zc_X12_back 14 [(0, .ref l0), (1, .int l1)] [] M =
  if gK M l0 = 12 then
  (if gK M l0 = 12 then
  (if gK (sI M l0 2 ((gI M l0 2) - l1)) l0 = 12 then
  (some (some (.int (gI (sI M l0 2 ((gI M l0 2) - l1)) l0 2)), (sI M l0 2 ((gI M l0 2) - l1)))) else none) else none) else none :=
  (blk_ok zcod none d zc_X12_back [(15, .dup, 16, [], none), (16, .getfield 190, 19, [12, 2, 0, 671, 0], none), (19, .iload_n 1, 20, [], none), (20, .isub, 21, [], none), (21, .putfield 190, 24, [12, 2, 0, 671, 0, 0], none), (24, .aload_n 0, 25, [], none), (25, .getfield 190, 28, [12, 2, 0, 671, 0], none), (28, .ireturn, 29, [0], none)] (14, .aload_n 0, 15, [], some [0, 1]) (by decide +kernel) _ _ _).trans rfl
theorem E_X12_byteAt (d : Nat) (M : zM) (l0 : Nat) (l1 : Int32) : evM zcod (d + 1) 159 [.ref l0, .int l1] M = evk zcod none d zc_X12_byteAt 0 [(0, .ref l0), (1, .int l1)] [] M := evM_eq zcod d 159 _ M (Nat.le_of_ble_eq_true rfl)
theorem B_X12_byteAt_0 (d : Nat) (M : zM) (l0 : Nat) (l1 : Int32) :
  evk zcod none d zc_X12_byteAt 0 [(0, .ref l0), (1, .int l1)] [] M =
  if gK M l0 = 12 then
  (if (gI M l0 4) ≤ l1 then
  evk zcod none d zc_X12_byteAt 21 [] [] M
  else
  if gK M l0 = 12 then
  (if gK M (gR M l0 3) = 21 ∧ zin l1 (gN M (gR M l0 3)) then
  (evk zcod none d zc_X12_byteAt 22 [] [.int ((gI M (gR M l0 3) (zix l1)) &&& (255 : Int32))] M) else none) else none) else none :=
  (blk_ok zcod none d zc_X12_byteAt [(1, .aload_n 0, 2, [], none), (2, .getfield 196, 5, [12, 4, 0, 675, 0], none), (5, .if_icmp .ge 16, 8, [21], none), (8, .aload_n 0, 9, [], none), (9, .getfield 17, 12, [12, 3, 2, 606, 0], none), (12, .iload_n 1, 13, [], none), (13, .baload, 14, [21], none), (14, .sipush 255, 17, [], none), (17, .iand, 18, [], none), (18, .goto 4, 21, [22], none)] (0, .iload_n 1, 1, [], none) (by decide +kernel) _ _ _).trans rfl
theorem B_X12_byteAt_21 (d : Nat) (M : zM)  :
  evk zcod none d zc_X12_byteAt 21 [] [] M =
  evk zcod none d zc_X12_byteAt 22 [] [.int (0 : Int32)] M :=
  (blk_ok zcod none d zc_X12_byteAt [] (21, .iconst 0, 22, [], some []) (by decide +kernel) _ _ _).trans rfl
theorem B_X12_byteAt_22 (d : Nat) (M : zM) (s0 : Int32) :
  evk zcod none d zc_X12_byteAt 22 [] [.int s0] M =
  some (some (.int s0), M) :=
  (blk_ok zcod none d zc_X12_byteAt [] (22, .ireturn, 23, [0], some []) (by decide +kernel) _ _ _).trans rfl
theorem E_X12_isDigit (d : Nat) (M : zM) (l0 : Int32) : evM zcod (d + 1) 160 [.int l0] M = evk zcod none d zc_X12_isDigit 0 [(0, .int l0)] [] M := evM_eq zcod d 160 _ M (Nat.le_of_ble_eq_true rfl)
theorem B_X12_isDigit_0 (d : Nat) (M : zM) (l0 : Int32) :
  evk zcod none d zc_X12_isDigit 0 [(0, .int l0)] [] M =
  if l0 < (48 : Int32) then
  evk zcod none d zc_X12_isDigit 16 [] [] M
  else
  if (57 : Int32) < l0 then
  evk zcod none d zc_X12_isDigit 16 [] [] M
  else
  evk zcod none d zc_X12_isDigit 17 [] [.int (1 : Int32)] M :=
  (blk_ok zcod none d zc_X12_isDigit [(1, .bipush 48, 3, [], none), (3, .if_icmp .lt 13, 6, [16], none), (6, .iload_n 0, 7, [], none), (7, .bipush 57, 9, [], none), (9, .if_icmp .gt 7, 12, [16], none), (12, .iconst 1, 13, [], none), (13, .goto 4, 16, [17], none)] (0, .iload_n 0, 1, [], none) (by decide +kernel) _ _ _).trans rfl
theorem B_X12_isDigit_16 (d : Nat) (M : zM)  :
  evk zcod none d zc_X12_isDigit 16 [] [] M =
  evk zcod none d zc_X12_isDigit 17 [] [.int (0 : Int32)] M :=
  (blk_ok zcod none d zc_X12_isDigit [] (16, .iconst 0, 17, [], some []) (by decide +kernel) _ _ _).trans rfl
theorem B_X12_isDigit_17 (d : Nat) (M : zM) (s0 : Int32) :
  evk zcod none d zc_X12_isDigit 17 [] [.int s0] M =
  if s0 = 0 ∨ s0 = 1 then some (some (.int s0), M) else none :=
  (blk_ok zcod none d zc_X12_isDigit [] (17, .ireturn, 18, [1], some []) (by decide +kernel) _ _ _).trans rfl
theorem E_X12_isLetter (d : Nat) (M : zM) (l0 : Int32) : evM zcod (d + 1) 161 [.int l0] M = evk zcod none d zc_X12_isLetter 0 [(0, .int l0)] [] M := evM_eq zcod d 161 _ M (Nat.le_of_ble_eq_true rfl)
theorem B_X12_isLetter_0 (d : Nat) (M : zM) (l0 : Int32) :
  evk zcod none d zc_X12_isLetter 0 [(0, .int l0)] [] M =
  if l0 < (97 : Int32) then
  evk zcod none d zc_X12_isLetter 16 [] [] M
  else
  if (122 : Int32) < l0 then
  evk zcod none d zc_X12_isLetter 16 [] [] M
  else
  evk zcod none d zc_X12_isLetter 17 [] [.int (1 : Int32)] M :=
  (blk_ok zcod none d zc_X12_isLetter [(1, .bipush 97, 3, [], none), (3, .if_icmp .lt 13, 6, [16], none), (6, .iload_n 0, 7, [], none), (7, .bipush 122, 9, [], none), (9, .if_icmp .gt 7, 12, [16], none), (12, .iconst 1, 13, [], none), (13, .goto 4, 16, [17], none)] (0, .iload_n 0, 1, [], none) (by decide +kernel) _ _ _).trans rfl
theorem B_X12_isLetter_16 (d : Nat) (M : zM)  :
  evk zcod none d zc_X12_isLetter 16 [] [] M =
  evk zcod none d zc_X12_isLetter 17 [] [.int (0 : Int32)] M :=
  (blk_ok zcod none d zc_X12_isLetter [] (16, .iconst 0, 17, [], some []) (by decide +kernel) _ _ _).trans rfl
theorem B_X12_isLetter_17 (d : Nat) (M : zM) (s0 : Int32) :
  evk zcod none d zc_X12_isLetter 17 [] [.int s0] M =
  if s0 = 0 ∨ s0 = 1 then some (some (.int s0), M) else none :=
  (blk_ok zcod none d zc_X12_isLetter [] (17, .ireturn, 18, [1], some []) (by decide +kernel) _ _ _).trans rfl
theorem E_X12_appends (d : Nat) (M : zM) (l0 : Int64) (l2 : Int32) : evM zcod (d + 1) 162 [.long l0, .int l2] M = evk zcod none d zc_X12_appends 0 [(0, .long l0), (2, .int l2)] [] M := evM_eq zcod d 162 _ M (Nat.le_of_ble_eq_true rfl)
theorem B_X12_appends_0 (d : Nat) (M : zM) (l0 : Int64) (l2 : Int32) :
  evk zcod none d zc_X12_appends 0 [(0, .long l0), (2, .int l2)] [] M =
  if ¬ l2 = 0 then
  evk zcod none d zc_X12_appends 8 [(0, .long l0), (2, .int l2)] [] M
  else
  evk zcod none d zc_X12_appends 21 [] [.long l0] M :=
  (blk_ok zcod none d zc_X12_appends [(1, .ifCond .ne 7, 4, [8], none), (4, .lload_n 0, 5, [], none), (5, .goto 16, 8, [21], none)] (0, .iload_n 2, 1, [], none) (by decide +kernel) _ _ _).trans rfl
theorem B_X12_appends_8 (d : Nat) (M : zM) (l0 : Int64) (l2 : Int32) :
  evk zcod none d zc_X12_appends 8 [(0, .long l0), (2, .int l2)] [] M =
  evk zcod none d zc_X12_appends 21 [] [.long (((Int64.ofNat 27) * l0) + ((l2 - (97 : Int32)) + (1 : Int32)).toInt64)] M :=
  (blk_ok zcod none d zc_X12_appends [(11, .lload_n 0, 12, [], none), (12, .lmul, 13, [], none), (13, .iload_n 2, 14, [], none), (14, .bipush 97, 16, [], none), (16, .isub, 17, [], none), (17, .iconst 1, 18, [], none), (18, .iadd, 19, [], none), (19, .i2l, 20, [], none), (20, .ladd, 21, [], none)] (8, .ldc2_w 199, 11, [0, 27, 676], some [0, 2]) (by decide +kernel) _ _ _).trans rfl
theorem B_X12_appends_21 (d : Nat) (M : zM) (s0 : Int64) :
  evk zcod none d zc_X12_appends 21 [] [.long s0] M =
  some (some (.long s0), M) :=
  (blk_ok zcod none d zc_X12_appends [] (21, .lreturn, 22, [], some []) (by decide +kernel) _ _ _).trans rfl
theorem E_X12_word (d : Nat) (M : zM) (l0 : Int32) (l1 : Int32) (l2 : Int32) (l3 : Int32) (l4 : Int32) (l5 : Int32) (l6 : Int32) : evM zcod (d + 1) 163 [.int l0, .int l1, .int l2, .int l3, .int l4, .int l5, .int l6] M = evk zcod none d zc_X12_word 0 [(0, .int l0), (1, .int l1), (2, .int l2), (3, .int l3), (4, .int l4), (5, .int l5), (6, .int l6)] [] M := evM_eq zcod d 163 _ M (Nat.le_of_ble_eq_true rfl)
theorem B_X12_word_0 (d : Nat) (M : zM) (l0 : Int32) (l1 : Int32) (l2 : Int32) (l3 : Int32) (l4 : Int32) (l5 : Int32) (l6 : Int32) :
  evk zcod none d zc_X12_word 0 [(0, .int l0), (1, .int l1), (2, .int l2), (3, .int l3), (4, .int l4), (5, .int l5), (6, .int l6)] [] M =
  bL (evM zcod d 162 [.long (0 : Int64), .int l0] M) fun x1 M1 =>
  if M1.1.1 = M.1.1 then
  (bL (evM zcod d 162 [.long x1, .int l1] M1) fun x2 M2 =>
  if M2.1.1 = M1.1.1 then
  (bL (evM zcod d 162 [.long x2, .int l2] M2) fun x3 M3 =>
  if M3.1.1 = M2.1.1 then
  (bL (evM zcod d 162 [.long x3, .int l3] M3) fun x4 M4 =>
  if M4.1.1 = M3.1.1 then
  (bL (evM zcod d 162 [.long x4, .int l4] M4) fun x5 M5 =>
  if M5.1.1 = M4.1.1 then
  (bL (evM zcod d 162 [.long x5, .int l5] M5) fun x6 M6 =>
  if M6.1.1 = M5.1.1 then
  (bL (evM zcod d 162 [.long x6, .int l6] M6) fun x7 M7 =>
  if M7.1.1 = M6.1.1 then
  (some (some (.long x7), M7)) else none) else none) else none) else none) else none) else none) else none :=
  (blk_ok zcod none d zc_X12_word [(1, .iload_n 0, 2, [], none), (2, .invokestatic 201, 5, [162, 2, 2, 0, 677, 678, 662], none), (5, .iload_n 1, 6, [], none), (6, .invokestatic 201, 9, [162, 2, 2, 0, 677, 678, 662], none), (9, .iload_n 2, 10, [], none), (10, .invokestatic 201, 13, [162, 2, 2, 0, 677, 678, 662], none), (13, .iload_n 3, 14, [], none), (14, .invokestatic 201, 17, [162, 2, 2, 0, 677, 678, 662], none), (17, .iload 4, 19, [], none), (19, .invokestatic 201, 22, [162, 2, 2, 0, 677, 678, 662], none), (22, .iload 5, 24, [], none), (24, .invokestatic 201, 27, [162, 2, 2, 0, 677, 678, 662], none), (27, .iload 6, 29, [], none), (29, .invokestatic 201, 32, [162, 2, 2, 0, 677, 678, 662], none), (32, .lreturn, 33, [], none)] (0, .lconst 0, 1, [], none) (by decide +kernel) _ _ _).trans rfl
theorem E_X12_token (d : Nat) (M : zM) (l0 : Nat) (l1 : Int32) (l2 : Int32) (l3 : Int32) (l4 : Int64) : evM zcod (d + 1) 164 [.ref l0, .int l1, .int l2, .int l3, .long l4] M = evk zcod none d zc_X12_token 0 [(0, .ref l0), (1, .int l1), (2, .int l2), (3, .int l3), (4, .long l4)] [] M := evM_eq zcod d 164 _ M (Nat.le_of_ble_eq_true rfl)
theorem B_X12_token_0 (d : Nat) (M : zM) (l0 : Nat) (l1 : Int32) (l2 : Int32) (l3 : Int32) (l4 : Int64) :
  evk zcod none d zc_X12_token 0 [(0, .ref l0), (1, .int l1), (2, .int l2), (3, .int l3), (4, .long l4)] [] M =
  if gK M l0 = 12 then
  (if gK M l0 = 12 then
  (if gK M (gR M l0 5) = 20 ∧ zin (gI M l0 10) (gN M (gR M l0 5)) then
  (if gK (sI M (gR M l0 5) (zix (gI M l0 10)) l1) l0 = 12 then
  (if gK (sI M (gR M l0 5) (zix (gI M l0 10)) l1) l0 = 12 then
  (if gK (sI M (gR M l0 5) (zix (gI M l0 10)) l1) (gR (sI M (gR M l0 5) (zix (gI M l0 10)) l1) l0 6) = 20 ∧ zin (gI (sI M (gR M l0 5) (zix (gI M l0 10)) l1) l0 10) (gN (sI M (gR M l0 5) (zix (gI M l0 10)) l1) (gR (sI M (gR M l0 5) (zix (gI M l0 10)) l1) l0 6)) then
  (if gK (sI (sI M (gR M l0 5) (zix (gI M l0 10)) l1) (gR (sI M (gR M l0 5) (zix (gI M l0 10)) l1) l0 6) (zix (gI (sI M (gR M l0 5) (zix (gI M l0 10)) l1) l0 10)) l2) l0 = 12 then
  (if gK (sI (sI M (gR M l0 5) (zix (gI M l0 10)) l1) (gR (sI M (gR M l0 5) (zix (gI M l0 10)) l1) l0 6) (zix (gI (sI M (gR M l0 5) (zix (gI M l0 10)) l1) l0 10)) l2) l0 = 12 then
  (if gK (sI (sI M (gR M l0 5) (zix (gI M l0 10)) l1) (gR (sI M (gR M l0 5) (zix (gI M l0 10)) l1) l0 6) (zix (gI (sI M (gR M l0 5) (zix (gI M l0 10)) l1) l0 10)) l2) (gR (sI (sI M (gR M l0 5) (zix (gI M l0 10)) l1) (gR (sI M (gR M l0 5) (zix (gI M l0 10)) l1) l0 6) (zix (gI (sI M (gR M l0 5) (zix (gI M l0 10)) l1) l0 10)) l2) l0 7) = 20 ∧ zin (gI (sI (sI M (gR M l0 5) (zix (gI M l0 10)) l1) (gR (sI M (gR M l0 5) (zix (gI M l0 10)) l1) l0 6) (zix (gI (sI M (gR M l0 5) (zix (gI M l0 10)) l1) l0 10)) l2) l0 10) (gN (sI (sI M (gR M l0 5) (zix (gI M l0 10)) l1) (gR (sI M (gR M l0 5) (zix (gI M l0 10)) l1) l0 6) (zix (gI (sI M (gR M l0 5) (zix (gI M l0 10)) l1) l0 10)) l2) (gR (sI (sI M (gR M l0 5) (zix (gI M l0 10)) l1) (gR (sI M (gR M l0 5) (zix (gI M l0 10)) l1) l0 6) (zix (gI (sI M (gR M l0 5) (zix (gI M l0 10)) l1) l0 10)) l2) l0 7)) then
  (if gK (sI (sI (sI M (gR M l0 5) (zix (gI M l0 10)) l1) (gR (sI M (gR M l0 5) (zix (gI M l0 10)) l1) l0 6) (zix (gI (sI M (gR M l0 5) (zix (gI M l0 10)) l1) l0 10)) l2) (gR (sI (sI M (gR M l0 5) (zix (gI M l0 10)) l1) (gR (sI M (gR M l0 5) (zix (gI M l0 10)) l1) l0 6) (zix (gI (sI M (gR M l0 5) (zix (gI M l0 10)) l1) l0 10)) l2) l0 7) (zix (gI (sI (sI M (gR M l0 5) (zix (gI M l0 10)) l1) (gR (sI M (gR M l0 5) (zix (gI M l0 10)) l1) l0 6) (zix (gI (sI M (gR M l0 5) (zix (gI M l0 10)) l1) l0 10)) l2) l0 10)) l3) l0 = 12 then
  (if gK (sI (sI (sI M (gR M l0 5) (zix (gI M l0 10)) l1) (gR (sI M (gR M l0 5) (zix (gI M l0 10)) l1) l0 6) (zix (gI (sI M (gR M l0 5) (zix (gI M l0 10)) l1) l0 10)) l2) (gR (sI (sI M (gR M l0 5) (zix (gI M l0 10)) l1) (gR (sI M (gR M l0 5) (zix (gI M l0 10)) l1) l0 6) (zix (gI (sI M (gR M l0 5) (zix (gI M l0 10)) l1) l0 10)) l2) l0 7) (zix (gI (sI (sI M (gR M l0 5) (zix (gI M l0 10)) l1) (gR (sI M (gR M l0 5) (zix (gI M l0 10)) l1) l0 6) (zix (gI (sI M (gR M l0 5) (zix (gI M l0 10)) l1) l0 10)) l2) l0 10)) l3) l0 = 12 then
  (if gK (sI (sI (sI M (gR M l0 5) (zix (gI M l0 10)) l1) (gR (sI M (gR M l0 5) (zix (gI M l0 10)) l1) l0 6) (zix (gI (sI M (gR M l0 5) (zix (gI M l0 10)) l1) l0 10)) l2) (gR (sI (sI M (gR M l0 5) (zix (gI M l0 10)) l1) (gR (sI M (gR M l0 5) (zix (gI M l0 10)) l1) l0 6) (zix (gI (sI M (gR M l0 5) (zix (gI M l0 10)) l1) l0 10)) l2) l0 7) (zix (gI (sI (sI M (gR M l0 5) (zix (gI M l0 10)) l1) (gR (sI M (gR M l0 5) (zix (gI M l0 10)) l1) l0 6) (zix (gI (sI M (gR M l0 5) (zix (gI M l0 10)) l1) l0 10)) l2) l0 10)) l3) (gR (sI (sI (sI M (gR M l0 5) (zix (gI M l0 10)) l1) (gR (sI M (gR M l0 5) (zix (gI M l0 10)) l1) l0 6) (zix (gI (sI M (gR M l0 5) (zix (gI M l0 10)) l1) l0 10)) l2) (gR (sI (sI M (gR M l0 5) (zix (gI M l0 10)) l1) (gR (sI M (gR M l0 5) (zix (gI M l0 10)) l1) l0 6) (zix (gI (sI M (gR M l0 5) (zix (gI M l0 10)) l1) l0 10)) l2) l0 7) (zix (gI (sI (sI M (gR M l0 5) (zix (gI M l0 10)) l1) (gR (sI M (gR M l0 5) (zix (gI M l0 10)) l1) l0 6) (zix (gI (sI M (gR M l0 5) (zix (gI M l0 10)) l1) l0 10)) l2) l0 10)) l3) l0 8) = 23 ∧ zin (gI (sI (sI (sI M (gR M l0 5) (zix (gI M l0 10)) l1) (gR (sI M (gR M l0 5) (zix (gI M l0 10)) l1) l0 6) (zix (gI (sI M (gR M l0 5) (zix (gI M l0 10)) l1) l0 10)) l2) (gR (sI (sI M (gR M l0 5) (zix (gI M l0 10)) l1) (gR (sI M (gR M l0 5) (zix (gI M l0 10)) l1) l0 6) (zix (gI (sI M (gR M l0 5) (zix (gI M l0 10)) l1) l0 10)) l2) l0 7) (zix (gI (sI (sI M (gR M l0 5) (zix (gI M l0 10)) l1) (gR (sI M (gR M l0 5) (zix (gI M l0 10)) l1) l0 6) (zix (gI (sI M (gR M l0 5) (zix (gI M l0 10)) l1) l0 10)) l2) l0 10)) l3) l0 10) (gN (sI (sI (sI M (gR M l0 5) (zix (gI M l0 10)) l1) (gR (sI M (gR M l0 5) (zix (gI M l0 10)) l1) l0 6) (zix (gI (sI M (gR M l0 5) (zix (gI M l0 10)) l1) l0 10)) l2) (gR (sI (sI M (gR M l0 5) (zix (gI M l0 10)) l1) (gR (sI M (gR M l0 5) (zix (gI M l0 10)) l1) l0 6) (zix (gI (sI M (gR M l0 5) (zix (gI M l0 10)) l1) l0 10)) l2) l0 7) (zix (gI (sI (sI M (gR M l0 5) (zix (gI M l0 10)) l1) (gR (sI M (gR M l0 5) (zix (gI M l0 10)) l1) l0 6) (zix (gI (sI M (gR M l0 5) (zix (gI M l0 10)) l1) l0 10)) l2) l0 10)) l3) (gR (sI (sI (sI M (gR M l0 5) (zix (gI M l0 10)) l1) (gR (sI M (gR M l0 5) (zix (gI M l0 10)) l1) l0 6) (zix (gI (sI M (gR M l0 5) (zix (gI M l0 10)) l1) l0 10)) l2) (gR (sI (sI M (gR M l0 5) (zix (gI M l0 10)) l1) (gR (sI M (gR M l0 5) (zix (gI M l0 10)) l1) l0 6) (zix (gI (sI M (gR M l0 5) (zix (gI M l0 10)) l1) l0 10)) l2) l0 7) (zix (gI (sI (sI M (gR M l0 5) (zix (gI M l0 10)) l1) (gR (sI M (gR M l0 5) (zix (gI M l0 10)) l1) l0 6) (zix (gI (sI M (gR M l0 5) (zix (gI M l0 10)) l1) l0 10)) l2) l0 10)) l3) l0 8)) then
  (evk zcod none d zc_X12_token 41 [(0, .ref l0)] [] (sL (sI (sI (sI M (gR M l0 5) (zix (gI M l0 10)) l1) (gR (sI M (gR M l0 5) (zix (gI M l0 10)) l1) l0 6) (zix (gI (sI M (gR M l0 5) (zix (gI M l0 10)) l1) l0 10)) l2) (gR (sI (sI M (gR M l0 5) (zix (gI M l0 10)) l1) (gR (sI M (gR M l0 5) (zix (gI M l0 10)) l1) l0 6) (zix (gI (sI M (gR M l0 5) (zix (gI M l0 10)) l1) l0 10)) l2) l0 7) (zix (gI (sI (sI M (gR M l0 5) (zix (gI M l0 10)) l1) (gR (sI M (gR M l0 5) (zix (gI M l0 10)) l1) l0 6) (zix (gI (sI M (gR M l0 5) (zix (gI M l0 10)) l1) l0 10)) l2) l0 10)) l3) (gR (sI (sI (sI M (gR M l0 5) (zix (gI M l0 10)) l1) (gR (sI M (gR M l0 5) (zix (gI M l0 10)) l1) l0 6) (zix (gI (sI M (gR M l0 5) (zix (gI M l0 10)) l1) l0 10)) l2) (gR (sI (sI M (gR M l0 5) (zix (gI M l0 10)) l1) (gR (sI M (gR M l0 5) (zix (gI M l0 10)) l1) l0 6) (zix (gI (sI M (gR M l0 5) (zix (gI M l0 10)) l1) l0 10)) l2) l0 7) (zix (gI (sI (sI M (gR M l0 5) (zix (gI M l0 10)) l1) (gR (sI M (gR M l0 5) (zix (gI M l0 10)) l1) l0 6) (zix (gI (sI M (gR M l0 5) (zix (gI M l0 10)) l1) l0 10)) l2) l0 10)) l3) l0 8) (zix (gI (sI (sI (sI M (gR M l0 5) (zix (gI M l0 10)) l1) (gR (sI M (gR M l0 5) (zix (gI M l0 10)) l1) l0 6) (zix (gI (sI M (gR M l0 5) (zix (gI M l0 10)) l1) l0 10)) l2) (gR (sI (sI M (gR M l0 5) (zix (gI M l0 10)) l1) (gR (sI M (gR M l0 5) (zix (gI M l0 10)) l1) l0 6) (zix (gI (sI M (gR M l0 5) (zix (gI M l0 10)) l1) l0 10)) l2) l0 7) (zix (gI (sI (sI M (gR M l0 5) (zix (gI M l0 10)) l1) (gR (sI M (gR M l0 5) (zix (gI M l0 10)) l1) l0 6) (zix (gI (sI M (gR M l0 5) (zix (gI M l0 10)) l1) l0 10)) l2) l0 10)) l3) l0 10)) l4)) else none) else none) else none) else none) else none) else none) else none) else none) else none) else none) else none) else none :=
  (blk_ok zcod none d zc_X12_token [(1, .getfield 20, 4, [12, 5, 2, 607, 0], none), (4, .aload_n 0, 5, [], none), (5, .getfield 205, 8, [12, 10, 0, 679, 0], none), (8, .iload_n 1, 9, [], none), (9, .iastore, 10, [20], none), (10, .aload_n 0, 11, [], none), (11, .getfield 24, 14, [12, 6, 2, 608, 0], none), (14, .aload_n 0, 15, [], none), (15, .getfield 205, 18, [12, 10, 0, 679, 0], none), (18, .iload_n 2, 19, [], none), (19, .iastore, 20, [20], none), (20, .aload_n 0, 21, [], none), (21, .getfield 27, 24, [12, 7, 2, 609, 0], none), (24, .aload_n 0, 25, [], none), (25, .getfield 205, 28, [12, 10, 0, 679, 0], none), (28, .iload_n 3, 29, [], none), (29, .iastore, 30, [20], none), (30, .aload_n 0, 31, [], none), (31, .getfield 30, 34, [12, 8, 2, 610, 0], none), (34, .aload_n 0, 35, [], none), (35, .getfield 205, 38, [12, 10, 0, 679, 0], none), (38, .lload 4, 40, [], none), (40, .lastore, 41, [23], none)] (0, .aload_n 0, 1, [], none) (by decide +kernel) _ _ _).trans rfl
theorem B_X12_token_41 (d : Nat) (M : zM) (l0 : Nat) :
  evk zcod none d zc_X12_token 41 [(0, .ref l0)] [] M =
  if gK M l0 = 12 then
  (if gK M l0 = 12 then
  (some (none, (sI M l0 10 ((gI M l0 10) + (1 : Int32))))) else none) else none :=
  (blk_ok zcod none d zc_X12_token [(42, .dup, 43, [], none), (43, .getfield 205, 46, [12, 10, 0, 679, 0], none), (46, .iconst 1, 47, [], none), (47, .iadd, 48, [], none), (48, .putfield 205, 51, [12, 10, 0, 679, 0, 0], none), (51, .return_, 52, [], none)] (41, .aload_n 0, 42, [], some [0]) (by decide +kernel) _ _ _).trans rfl
theorem E_X12_cut (d : Nat) (M : zM) (l0 : Nat) : evM zcod (d + 1) 165 [.ref l0] M = evk zcod none d zc_X12_cut 0 [(0, .ref l0)] [] M := evM_eq zcod d 165 _ M (Nat.le_of_ble_eq_true rfl)
theorem B_X12_cut_0 (d : Nat) (M : zM) (l0 : Nat) :
  evk zcod none d zc_X12_cut 0 [(0, .ref l0)] [] M =
  if gK M l0 = 12 then
  (evk zcod none d zc_X12_cut 7 [(0, .ref l0), (1, .int (0 : Int32))] [] (sI M l0 10 (0 : Int32))) else none :=
  (blk_ok zcod none d zc_X12_cut [(1, .iconst 0, 2, [], none), (2, .putfield 205, 5, [12, 10, 0, 679, 0, 0], none), (5, .iconst 0, 6, [], none), (6, .istore_n 1, 7, [], none)] (0, .aload_n 0, 1, [], none) (by decide +kernel) _ _ _).trans rfl
theorem B_X12_cut_7 (d : Nat) (M : zM) (l0 : Nat) (l1 : Int32) :
  evk zcod none d zc_X12_cut 7 [(0, .ref l0), (1, .int l1)] [] M =
  if gK M l0 = 12 then
  (if (400 : Int32) < (gI M l0 10) then
  evk zcod none d zc_X12_cut 294 [] [] M
  else
  if gK M l0 = 12 then
  (bI (evM zcod d 159 [.ref l0, .int l1] M) fun x1 M1 =>
  if M1.1.1 = M.1.1 then
  (if gK M1 l0 = 12 then
  (if l1 < (gI M1 l0 4) then
  evk zcod none d zc_X12_cut 43 [(0, .ref l0), (1, .int l1), (2, .int x1)] [] M1
  else
  if gK M1 l0 = 12 then
  (if gK M1 l0 = 12 then
  (bV (evM zcod d 164 [.ref l0, .int (0 : Int32), .int (gI M1 l0 4), .int (0 : Int32), .long (0 : Int64)] M1) fun M2 =>
  if M2.1.1 = M1.1.1 then
  (some (none, M2)) else none) else none) else none) else none) else none) else none) else none :=
  (blk_ok zcod none d zc_X12_cut [(8, .getfield 205, 11, [12, 10, 0, 679, 0], none), (11, .sipush 400, 14, [], none), (14, .if_icmp .gt 280, 17, [294], none), (17, .aload_n 0, 18, [], none), (18, .iload_n 1, 19, [], none), (19, .invokevirtual 208, 22, [159, 1, 1, 12, 680, 681, 682, 662], none), (22, .istore_n 2, 23, [], none), (23, .iload_n 1, 24, [], none), (24, .aload_n 0, 25, [], none), (25, .getfield 196, 28, [12, 4, 0, 675, 0], none), (28, .if_icmp .lt 15, 31, [43], none), (31, .aload_n 0, 32, [], none), (32, .iconst 0, 33, [], none), (33, .aload_n 0, 34, [], none), (34, .getfield 196, 37, [12, 4, 0, 675, 0], none), (37, .iconst 0, 38, [], none), (38, .lconst 0, 39, [], none), (39, .invokevirtual 212, 42, [164, 4, 0, 12, 683, 684, 685, 662], none), (42, .return_, 43, [], none)] (7, .aload_n 0, 8, [], some [0, 1]) (by decide +kernel) _ _ _).trans rfl
theorem B_X12_cut_43 (d : Nat) (M : zM) (l0 : Nat) (l1 : Int32) (l2 : Int32) :
  evk zcod none d zc_X12_cut 43 [(0, .ref l0), (1, .int l1), (2, .int l2)] [] M =
  if l2 = (9 : Int32) then
  evk zcod none d zc_X12_cut 67 [(0, .ref l0), (1, .int l1)] [] M
  else
  if l2 = (10 : Int32) then
  evk zcod none d zc_X12_cut 67 [(0, .ref l0), (1, .int l1)] [] M
  else
  if l2 = (13 : Int32) then
  evk zcod none d zc_X12_cut 67 [(0, .ref l0), (1, .int l1)] [] M
  else
  if ¬ l2 = (32 : Int32) then
  evk zcod none d zc_X12_cut 73 [(0, .ref l0), (1, .int l1), (2, .int l2)] [] M
  else
  evk zcod none d zc_X12_cut 67 [(0, .ref l0), (1, .int l1)] [] M :=
  (blk_ok zcod none d zc_X12_cut [(44, .bipush 9, 46, [], none), (46, .if_icmp .eq 21, 49, [67], none), (49, .iload_n 2, 50, [], none), (50, .bipush 10, 52, [], none), (52, .if_icmp .eq 15, 55, [67], none), (55, .iload_n 2, 56, [], none), (56, .bipush 13, 58, [], none), (58, .if_icmp .eq 9, 61, [67], none), (61, .iload_n 2, 62, [], none), (62, .bipush 32, 64, [], none), (64, .if_icmp .ne 9, 67, [73], none)] (43, .iload_n 2, 44, [], some [0, 1, 2]) (by decide +kernel) _ _ _).trans rfl
theorem B_X12_cut_67 (d : Nat) (M : zM) (l0 : Nat) (l1 : Int32) :
  evk zcod none d zc_X12_cut 67 [(0, .ref l0), (1, .int l1)] [] M =
  evk zcod none d zc_X12_cut 291 [(0, .ref l0), (1, .int (l1 + 1))] [] M :=
  (blk_ok zcod none d zc_X12_cut [(70, .goto 221, 73, [291], none)] (67, .iinc 1 1, 70, [], some [0, 1]) (by decide +kernel) _ _ _).trans rfl
theorem B_X12_cut_73 (d : Nat) (M : zM) (l0 : Nat) (l1 : Int32) (l2 : Int32) :
  evk zcod none d zc_X12_cut 73 [(0, .ref l0), (1, .int l1), (2, .int l2)] [] M =
  bI (evM zcod d 161 [.int l2] M) fun x1 M1 =>
  if M1.1.1 = M.1.1 then
  (if x1 = 0 then
  evk zcod none d zc_X12_cut 196 [(0, .ref l0), (1, .int l1), (2, .int l2)] [] M1
  else
  evk zcod none d zc_X12_cut 85 [(0, .ref l0), (1, .int l1), (3, .int (0 : Int32)), (4, .long (0 : Int64))] [] M1) else none :=
  (blk_ok zcod none d zc_X12_cut [(74, .invokestatic 216, 77, [161, 1, 1, 0, 686, 687, 662], none), (77, .ifCond .eq 119, 80, [196], none), (80, .iconst 0, 81, [], none), (81, .istore_n 3, 82, [], none), (82, .lconst 0, 83, [], none), (83, .lstore 4, 85, [], none)] (73, .iload_n 2, 74, [], some [0, 1, 2]) (by decide +kernel) _ _ _).trans rfl
theorem B_X12_cut_85 (d : Nat) (M : zM) (l0 : Nat) (l1 : Int32) (l3 : Int32) (l4 : Int64) :
  evk zcod none d zc_X12_cut 85 [(0, .ref l0), (1, .int l1), (3, .int l3), (4, .long l4)] [] M =
  if gK M l0 = 12 then
  (bI (evM zcod d 159 [.ref l0, .int (l1 + l3)] M) fun x1 M1 =>
  if M1.1.1 = M.1.1 then
  (bI (evM zcod d 161 [.int x1] M1) fun x2 M2 =>
  if M2.1.1 = M1.1.1 then
  (if x2 = 0 then
  evk zcod none d zc_X12_cut 124 [(0, .ref l0), (1, .int l1), (3, .int l3), (4, .long l4)] [] M2
  else
  if (8 : Int32) ≤ l3 then
  evk zcod none d zc_X12_cut 118 [(0, .ref l0), (1, .int l1), (3, .int l3), (4, .long l4)] [] M2
  else
  if gK M2 l0 = 12 then
  (bI (evM zcod d 159 [.ref l0, .int (l1 + l3)] M2) fun x3 M3 =>
  if M3.1.1 = M2.1.1 then
  (bL (evM zcod d 162 [.long l4, .int x3] M3) fun x4 M4 =>
  if M4.1.1 = M3.1.1 then
  (evk zcod none d zc_X12_cut 118 [(0, .ref l0), (1, .int l1), (3, .int l3), (4, .long x4)] [] M4) else none) else none) else none) else none) else none) else none :=
  (blk_ok zcod none d zc_X12_cut [(86, .iload_n 1, 87, [], none), (87, .iload_n 3, 88, [], none), (88, .iadd, 89, [], none), (89, .invokevirtual 208, 92, [159, 1, 1, 12, 680, 681, 682, 662], none), (92, .invokestatic 216, 95, [161, 1, 1, 0, 686, 687, 662], none), (95, .ifCond .eq 29, 98, [124], none), (98, .iload_n 3, 99, [], none), (99, .bipush 8, 101, [], none), (101, .if_icmp .ge 17, 104, [118], none), (104, .lload 4, 106, [], none), (106, .aload_n 0, 107, [], none), (107, .iload_n 1, 108, [], none), (108, .iload_n 3, 109, [], none), (109, .iadd, 110, [], none), (110, .invokevirtual 208, 113, [159, 1, 1, 12, 680, 681, 682, 662], none), (113, .invokestatic 201, 116, [162, 2, 2, 0, 677, 678, 662], none), (116, .lstore 4, 118, [], none)] (85, .aload_n 0, 86, [], some [0, 1, 3, 4]) (by decide +kernel) _ _ _).trans rfl
theorem B_X12_cut_118 (d : Nat) (M : zM) (l0 : Nat) (l1 : Int32) (l3 : Int32) (l4 : Int64) :
  evk zcod none d zc_X12_cut 118 [(0, .ref l0), (1, .int l1), (3, .int l3), (4, .long l4)] [] M =
  evk zcod none d zc_X12_cut 85 [(0, .ref l0), (1, .int l1), (3, .int (l3 + 1)), (4, .long l4)] [] M :=
  (blk_ok zcod none d zc_X12_cut [(121, .goto (-36), 124, [85], none)] (118, .iinc 3 1, 121, [], some [0, 1, 3, 4]) (by decide +kernel) _ _ _).trans rfl
theorem B_X12_cut_124 (d : Nat) (M : zM) (l0 : Nat) (l1 : Int32) (l3 : Int32) (l4 : Int64) :
  evk zcod none d zc_X12_cut 124 [(0, .ref l0), (1, .int l1), (3, .int l3), (4, .long l4)] [] M =
  if l3 ≤ (8 : Int32) then
  evk zcod none d zc_X12_cut 134 [(0, .ref l0), (1, .int l1), (3, .int l3), (4, .long l4)] [] M
  else
  evk zcod none d zc_X12_cut 135 [(0, .ref l0), (1, .int l1), (3, .int l3), (4, .long l4)] [.int (3 : Int32)] M :=
  (blk_ok zcod none d zc_X12_cut [(125, .bipush 8, 127, [], none), (127, .if_icmp .le 7, 130, [134], none), (130, .iconst 3, 131, [], none), (131, .goto 4, 134, [135], none)] (124, .iload_n 3, 125, [], some [0, 1, 3, 4]) (by decide +kernel) _ _ _).trans rfl
theorem B_X12_cut_134 (d : Nat) (M : zM) (l0 : Nat) (l1 : Int32) (l3 : Int32) (l4 : Int64) :
  evk zcod none d zc_X12_cut 134 [(0, .ref l0), (1, .int l1), (3, .int l3), (4, .long l4)] [] M =
  evk zcod none d zc_X12_cut 135 [(0, .ref l0), (1, .int l1), (3, .int l3), (4, .long l4)] [.int (1 : Int32)] M :=
  (blk_ok zcod none d zc_X12_cut [] (134, .iconst 1, 135, [], some [0, 1, 3, 4]) (by decide +kernel) _ _ _).trans rfl
theorem B_X12_cut_135 (d : Nat) (M : zM) (l0 : Nat) (l1 : Int32) (l3 : Int32) (l4 : Int64) (s0 : Int32) :
  evk zcod none d zc_X12_cut 135 [(0, .ref l0), (1, .int l1), (3, .int l3), (4, .long l4)] [.int s0] M =
  if (8 : Int32) < l3 then
  evk zcod none d zc_X12_cut 179 [(0, .ref l0), (1, .int l1), (3, .int l3), (4, .long l4), (6, .int s0)] [] M
  else
  evk zcod none d zc_X12_cut 146 [(0, .ref l0), (1, .int l1), (3, .int l3), (4, .long l4), (6, .int s0), (7, .int (0 : Int32))] [] M :=
  (blk_ok zcod none d zc_X12_cut [(137, .iload_n 3, 138, [], none), (138, .bipush 8, 140, [], none), (140, .if_icmp .gt 39, 143, [179], none), (143, .iconst 0, 144, [], none), (144, .istore 7, 146, [], none)] (135, .istore 6, 137, [], some [0, 1, 3, 4]) (by decide +kernel) _ _ _).trans rfl
theorem B_X12_cut_146 (d : Nat) (M : zM) (l0 : Nat) (l1 : Int32) (l3 : Int32) (l4 : Int64) (l6 : Int32) (l7 : Int32) :
  evk zcod none d zc_X12_cut 146 [(0, .ref l0), (1, .int l1), (3, .int l3), (4, .long l4), (6, .int l6), (7, .int l7)] [] M =
  if (22 : Int32) ≤ l7 then
  evk zcod none d zc_X12_cut 179 [(0, .ref l0), (1, .int l1), (3, .int l3), (4, .long l4), (6, .int l6)] [] M
  else
  if gK M l0 = 12 then
  (if gK M (gR M l0 9) = 23 ∧ zin l7 (gN M (gR M l0 9)) then
  (if ¬ (lg_cmp (gL M (gR M l0 9) (zix l7)) l4) = 0 then
  evk zcod none d zc_X12_cut 173 [(0, .ref l0), (1, .int l1), (3, .int l3), (4, .long l4), (6, .int l6), (7, .int l7)] [] M
  else
  evk zcod none d zc_X12_cut 173 [(0, .ref l0), (1, .int l1), (3, .int l3), (4, .long l4), (6, .int ((20 : Int32) + l7)), (7, .int l7)] [] M) else none) else none :=
  (blk_ok zcod none d zc_X12_cut [(148, .bipush 22, 150, [], none), (150, .if_icmp .ge 29, 153, [179], none), (153, .aload_n 0, 154, [], none), (154, .getfield 34, 157, [12, 9, 2, 611, 0], none), (157, .iload 7, 159, [], none), (159, .laload, 160, [23], none), (160, .lload 4, 162, [], none), (162, .lcmp, 163, [], none), (163, .ifCond .ne 10, 166, [173], none), (166, .bipush 20, 168, [], none), (168, .iload 7, 170, [], none), (170, .iadd, 171, [], none), (171, .istore 6, 173, [], none)] (146, .iload 7, 148, [], some [0, 1, 3, 4, 6, 7]) (by decide +kernel) _ _ _).trans rfl
theorem B_X12_cut_173 (d : Nat) (M : zM) (l0 : Nat) (l1 : Int32) (l3 : Int32) (l4 : Int64) (l6 : Int32) (l7 : Int32) :
  evk zcod none d zc_X12_cut 173 [(0, .ref l0), (1, .int l1), (3, .int l3), (4, .long l4), (6, .int l6), (7, .int l7)] [] M =
  evk zcod none d zc_X12_cut 146 [(0, .ref l0), (1, .int l1), (3, .int l3), (4, .long l4), (6, .int l6), (7, .int (l7 + 1))] [] M :=
  (blk_ok zcod none d zc_X12_cut [(176, .goto (-30), 179, [146], none)] (173, .iinc 7 1, 176, [], some [0, 1, 3, 4, 6, 7]) (by decide +kernel) _ _ _).trans rfl
theorem B_X12_cut_179 (d : Nat) (M : zM) (l0 : Nat) (l1 : Int32) (l3 : Int32) (l4 : Int64) (l6 : Int32) :
  evk zcod none d zc_X12_cut 179 [(0, .ref l0), (1, .int l1), (3, .int l3), (4, .long l4), (6, .int l6)] [] M =
  if gK M l0 = 12 then
  (bV (evM zcod d 164 [.ref l0, .int l6, .int l1, .int (0 : Int32), .long l4] M) fun M1 =>
  if M1.1.1 = M.1.1 then
  (evk zcod none d zc_X12_cut 291 [(0, .ref l0), (1, .int (l1 + l3))] [] M1) else none) else none :=
  (blk_ok zcod none d zc_X12_cut [(180, .iload 6, 182, [], none), (182, .iload_n 1, 183, [], none), (183, .iconst 0, 184, [], none), (184, .lload 4, 186, [], none), (186, .invokevirtual 212, 189, [164, 4, 0, 12, 683, 684, 685, 662], none), (189, .iload_n 1, 190, [], none), (190, .iload_n 3, 191, [], none), (191, .iadd, 192, [], none), (192, .istore_n 1, 193, [], none), (193, .goto 98, 196, [291], none)] (179, .aload_n 0, 180, [], some [0, 1, 3, 4, 6]) (by decide +kernel) _ _ _).trans rfl
theorem B_X12_cut_196 (d : Nat) (M : zM) (l0 : Nat) (l1 : Int32) (l2 : Int32) :
  evk zcod none d zc_X12_cut 196 [(0, .ref l0), (1, .int l1), (2, .int l2)] [] M =
  bI (evM zcod d 160 [.int l2] M) fun x1 M1 =>
  if M1.1.1 = M.1.1 then
  (if x1 = 0 then
  evk zcod none d zc_X12_cut 275 [(0, .ref l0), (1, .int l1), (2, .int l2)] [] M1
  else
  evk zcod none d zc_X12_cut 208 [(0, .ref l0), (1, .int l1), (3, .int (0 : Int32)), (4, .int (0 : Int32))] [] M1) else none :=
  (blk_ok zcod none d zc_X12_cut [(197, .invokestatic 220, 200, [160, 1, 1, 0, 688, 689, 662], none), (200, .ifCond .eq 75, 203, [275], none), (203, .iconst 0, 204, [], none), (204, .istore_n 3, 205, [], none), (205, .iconst 0, 206, [], none), (206, .istore 4, 208, [], none)] (196, .iload_n 2, 197, [], some [0, 1, 2]) (by decide +kernel) _ _ _).trans rfl
theorem B_X12_cut_208 (d : Nat) (M : zM) (l0 : Nat) (l1 : Int32) (l3 : Int32) (l4 : Int32) :
  evk zcod none d zc_X12_cut 208 [(0, .ref l0), (1, .int l1), (3, .int l3), (4, .int l4)] [] M =
  if gK M l0 = 12 then
  (bI (evM zcod d 159 [.ref l0, .int (l1 + l3)] M) fun x1 M1 =>
  if M1.1.1 = M.1.1 then
  (bI (evM zcod d 160 [.int x1] M1) fun x2 M2 =>
  if M2.1.1 = M1.1.1 then
  (if x2 = 0 then
  evk zcod none d zc_X12_cut 250 [(0, .ref l0), (1, .int l1), (3, .int l3), (4, .int l4)] [] M2
  else
  if (4 : Int32) ≤ l3 then
  evk zcod none d zc_X12_cut 244 [(0, .ref l0), (1, .int l1), (3, .int l3), (4, .int l4)] [] M2
  else
  if gK M2 l0 = 12 then
  (bI (evM zcod d 159 [.ref l0, .int (l1 + l3)] M2) fun x3 M3 =>
  if M3.1.1 = M2.1.1 then
  (evk zcod none d zc_X12_cut 244 [(0, .ref l0), (1, .int l1), (3, .int l3), (4, .int ((((10 : Int32) * l4) + x3) - (48 : Int32)))] [] M3) else none) else none) else none) else none) else none :=
  (blk_ok zcod none d zc_X12_cut [(209, .iload_n 1, 210, [], none), (210, .iload_n 3, 211, [], none), (211, .iadd, 212, [], none), (212, .invokevirtual 208, 215, [159, 1, 1, 12, 680, 681, 682, 662], none), (215, .invokestatic 220, 218, [160, 1, 1, 0, 688, 689, 662], none), (218, .ifCond .eq 32, 221, [250], none), (221, .iload_n 3, 222, [], none), (222, .iconst 4, 223, [], none), (223, .if_icmp .ge 21, 226, [244], none), (226, .bipush 10, 228, [], none), (228, .iload 4, 230, [], none), (230, .imul, 231, [], none), (231, .aload_n 0, 232, [], none), (232, .iload_n 1, 233, [], none), (233, .iload_n 3, 234, [], none), (234, .iadd, 235, [], none), (235, .invokevirtual 208, 238, [159, 1, 1, 12, 680, 681, 682, 662], none), (238, .iadd, 239, [], none), (239, .bipush 48, 241, [], none), (241, .isub, 242, [], none), (242, .istore 4, 244, [], none)] (208, .aload_n 0, 209, [], some [0, 1, 3, 4]) (by decide +kernel) _ _ _).trans rfl
theorem B_X12_cut_244 (d : Nat) (M : zM) (l0 : Nat) (l1 : Int32) (l3 : Int32) (l4 : Int32) :
  evk zcod none d zc_X12_cut 244 [(0, .ref l0), (1, .int l1), (3, .int l3), (4, .int l4)] [] M =
  evk zcod none d zc_X12_cut 208 [(0, .ref l0), (1, .int l1), (3, .int (l3 + 1)), (4, .int l4)] [] M :=
  (blk_ok zcod none d zc_X12_cut [(247, .goto (-39), 250, [208], none)] (244, .iinc 3 1, 247, [], some [0, 1, 3, 4]) (by decide +kernel) _ _ _).trans rfl
theorem B_X12_cut_250 (d : Nat) (M : zM) (l0 : Nat) (l1 : Int32) (l3 : Int32) (l4 : Int32) :
  evk zcod none d zc_X12_cut 250 [(0, .ref l0), (1, .int l1), (3, .int l3), (4, .int l4)] [] M =
  if l3 ≤ (4 : Int32) then
  evk zcod none d zc_X12_cut 260 [(0, .ref l0), (1, .int l1), (3, .int l3), (4, .int l4)] [.ref l0] M
  else
  evk zcod none d zc_X12_cut 261 [(0, .ref l0), (1, .int l1), (3, .int l3), (4, .int l4)] [.int (3 : Int32), .ref l0] M :=
  (blk_ok zcod none d zc_X12_cut [(251, .iload_n 3, 252, [], none), (252, .iconst 4, 253, [], none), (253, .if_icmp .le 7, 256, [260], none), (256, .iconst 3, 257, [], none), (257, .goto 4, 260, [261], none)] (250, .aload_n 0, 251, [], some [0, 1, 3, 4]) (by decide +kernel) _ _ _).trans rfl
theorem B_X12_cut_260 (d : Nat) (M : zM) (l0 : Nat) (l1 : Int32) (l3 : Int32) (l4 : Int32) (s0 : Nat) :
  evk zcod none d zc_X12_cut 260 [(0, .ref l0), (1, .int l1), (3, .int l3), (4, .int l4)] [.ref s0] M =
  evk zcod none d zc_X12_cut 261 [(0, .ref l0), (1, .int l1), (3, .int l3), (4, .int l4)] [.int (2 : Int32), .ref s0] M :=
  (blk_ok zcod none d zc_X12_cut [] (260, .iconst 2, 261, [], some [0, 1, 3, 4]) (by decide +kernel) _ _ _).trans rfl
theorem B_X12_cut_261 (d : Nat) (M : zM) (l0 : Nat) (l1 : Int32) (l3 : Int32) (l4 : Int32) (s0 : Nat) (s1 : Int32) :
  evk zcod none d zc_X12_cut 261 [(0, .ref l0), (1, .int l1), (3, .int l3), (4, .int l4)] [.int s1, .ref s0] M =
  if gK M s0 = 12 then
  (bV (evM zcod d 164 [.ref s0, .int s1, .int l1, .int l4, .long (0 : Int64)] M) fun M1 =>
  if M1.1.1 = M.1.1 then
  (evk zcod none d zc_X12_cut 291 [(0, .ref l0), (1, .int (l1 + l3))] [] M1) else none) else none :=
  (blk_ok zcod none d zc_X12_cut [(262, .iload 4, 264, [], none), (264, .lconst 0, 265, [], none), (265, .invokevirtual 212, 268, [164, 4, 0, 12, 683, 684, 685, 662], none), (268, .iload_n 1, 269, [], none), (269, .iload_n 3, 270, [], none), (270, .iadd, 271, [], none), (271, .istore_n 1, 272, [], none), (272, .goto 19, 275, [291], none)] (261, .iload_n 1, 262, [], some [0, 1, 3, 4]) (by decide +kernel) _ _ _).trans rfl
theorem B_X12_cut_275 (d : Nat) (M : zM) (l0 : Nat) (l1 : Int32) (l2 : Int32) :
  evk zcod none d zc_X12_cut 275 [(0, .ref l0), (1, .int l1), (2, .int l2)] [] M =
  if gK M l0 = 12 then
  (bI (evM zcod d 159 [.ref l0, .int (l1 + (1 : Int32))] M) fun x1 M1 =>
  if M1.1.1 = M.1.1 then
  (if gK M1 l0 = 12 then
  (bI (evM zcod d 166 [.ref l0, .int l1, .int l2, .int x1] M1) fun x2 M2 =>
  if M2.1.1 = M1.1.1 then
  (evk zcod none d zc_X12_cut 291 [(0, .ref l0), (1, .int (l1 + x2))] [] M2) else none) else none) else none) else none :=
  (blk_ok zcod none d zc_X12_cut [(276, .aload_n 0, 277, [], none), (277, .iload_n 1, 278, [], none), (278, .iload_n 2, 279, [], none), (279, .aload_n 0, 280, [], none), (280, .iload_n 1, 281, [], none), (281, .iconst 1, 282, [], none), (282, .iadd, 283, [], none), (283, .invokevirtual 208, 286, [159, 1, 1, 12, 680, 681, 682, 662], none), (286, .invokevirtual 223, 289, [166, 3, 1, 12, 690, 691, 692, 662], none), (289, .iadd, 290, [], none), (290, .istore_n 1, 291, [], none)] (275, .iload_n 1, 276, [], some [0, 1, 2]) (by decide +kernel) _ _ _).trans rfl
theorem B_X12_cut_291 (d : Nat) (M : zM) (l0 : Nat) (l1 : Int32) :
  evk zcod none d zc_X12_cut 291 [(0, .ref l0), (1, .int l1)] [] M =
  evk zcod none d zc_X12_cut 7 [(0, .ref l0), (1, .int l1)] [] M :=
  (blk_ok zcod none d zc_X12_cut [] (291, .goto (-284), 294, [7], some [0, 1]) (by decide +kernel) _ _ _).trans rfl
theorem B_X12_cut_294 (d : Nat) (M : zM)  :
  evk zcod none d zc_X12_cut 294 [] [] M =
  some (none, M) :=
  (blk_ok zcod none d zc_X12_cut [] (294, .return_, 295, [], some []) (by decide +kernel) _ _ _).trans rfl
theorem E_X12_sign (d : Nat) (M : zM) (l0 : Nat) (l1 : Int32) (l2 : Int32) (l3 : Int32) : evM zcod (d + 1) 166 [.ref l0, .int l1, .int l2, .int l3] M = evk zcod none d zc_X12_sign 0 [(0, .ref l0), (1, .int l1), (2, .int l2), (3, .int l3)] [] M := evM_eq zcod d 166 _ M (Nat.le_of_ble_eq_true rfl)
theorem B_X12_sign_0 (d : Nat) (M : zM) (l0 : Nat) (l1 : Int32) (l2 : Int32) (l3 : Int32) :
  evk zcod none d zc_X12_sign 0 [(0, .ref l0), (1, .int l1), (2, .int l2), (3, .int l3)] [] M =
  if ¬ l2 = (59 : Int32) then
  evk zcod none d zc_X12_sign 10 [(0, .ref l0), (1, .int l1), (2, .int l2)] [] M
  else
  evk zcod none d zc_X12_sign 43 [(0, .ref l0), (1, .int l1), (2, .int l2)] [.int (4 : Int32)] M :=
  (blk_ok zcod none d zc_X12_sign [(1, .bipush 59, 3, [], none), (3, .if_icmp .ne 7, 6, [10], none), (6, .iconst 4, 7, [], none), (7, .goto 36, 10, [43], none)] (0, .iload_n 2, 1, [], none) (by decide +kernel) _ _ _).trans rfl
theorem B_X12_sign_10 (d : Nat) (M : zM) (l0 : Nat) (l1 : Int32) (l2 : Int32) :
  evk zcod none d zc_X12_sign 10 [(0, .ref l0), (1, .int l1), (2, .int l2)] [] M =
  if ¬ l2 = (61 : Int32) then
  evk zcod none d zc_X12_sign 20 [(0, .ref l0), (1, .int l1), (2, .int l2)] [] M
  else
  evk zcod none d zc_X12_sign 43 [(0, .ref l0), (1, .int l1), (2, .int l2)] [.int (5 : Int32)] M :=
  (blk_ok zcod none d zc_X12_sign [(11, .bipush 61, 13, [], none), (13, .if_icmp .ne 7, 16, [20], none), (16, .iconst 5, 17, [], none), (17, .goto 26, 20, [43], none)] (10, .iload_n 2, 11, [], some [0, 1, 2]) (by decide +kernel) _ _ _).trans rfl
theorem B_X12_sign_20 (d : Nat) (M : zM) (l0 : Nat) (l1 : Int32) (l2 : Int32) :
  evk zcod none d zc_X12_sign 20 [(0, .ref l0), (1, .int l1), (2, .int l2)] [] M =
  if ¬ l2 = (40 : Int32) then
  evk zcod none d zc_X12_sign 31 [(0, .ref l0), (1, .int l1), (2, .int l2)] [] M
  else
  evk zcod none d zc_X12_sign 43 [(0, .ref l0), (1, .int l1), (2, .int l2)] [.int (6 : Int32)] M :=
  (blk_ok zcod none d zc_X12_sign [(21, .bipush 40, 23, [], none), (23, .if_icmp .ne 8, 26, [31], none), (26, .bipush 6, 28, [], none), (28, .goto 15, 31, [43], none)] (20, .iload_n 2, 21, [], some [0, 1, 2]) (by decide +kernel) _ _ _).trans rfl
theorem B_X12_sign_31 (d : Nat) (M : zM) (l0 : Nat) (l1 : Int32) (l2 : Int32) :
  evk zcod none d zc_X12_sign 31 [(0, .ref l0), (1, .int l1), (2, .int l2)] [] M =
  if ¬ l2 = (41 : Int32) then
  evk zcod none d zc_X12_sign 42 [(0, .ref l0), (1, .int l1), (2, .int l2)] [] M
  else
  evk zcod none d zc_X12_sign 43 [(0, .ref l0), (1, .int l1), (2, .int l2)] [.int (7 : Int32)] M :=
  (blk_ok zcod none d zc_X12_sign [(32, .bipush 41, 34, [], none), (34, .if_icmp .ne 8, 37, [42], none), (37, .bipush 7, 39, [], none), (39, .goto 4, 42, [43], none)] (31, .iload_n 2, 32, [], some [0, 1, 2]) (by decide +kernel) _ _ _).trans rfl
theorem B_X12_sign_42 (d : Nat) (M : zM) (l0 : Nat) (l1 : Int32) (l2 : Int32) :
  evk zcod none d zc_X12_sign 42 [(0, .ref l0), (1, .int l1), (2, .int l2)] [] M =
  evk zcod none d zc_X12_sign 43 [(0, .ref l0), (1, .int l1), (2, .int l2)] [.int (3 : Int32)] M :=
  (blk_ok zcod none d zc_X12_sign [] (42, .iconst 3, 43, [], some [0, 1, 2]) (by decide +kernel) _ _ _).trans rfl
theorem B_X12_sign_43 (d : Nat) (M : zM) (l0 : Nat) (l1 : Int32) (l2 : Int32) (s0 : Int32) :
  evk zcod none d zc_X12_sign 43 [(0, .ref l0), (1, .int l1), (2, .int l2)] [.int s0] M =
  if ¬ l2 = (43 : Int32) then
  evk zcod none d zc_X12_sign 55 [(0, .ref l0), (1, .int l1), (2, .int l2), (4, .int s0)] [] M
  else
  evk zcod none d zc_X12_sign 55 [(0, .ref l0), (1, .int l1), (2, .int l2), (4, .int (8 : Int32))] [] M :=
  (blk_ok zcod none d zc_X12_sign [(45, .iload_n 2, 46, [], none), (46, .bipush 43, 48, [], none), (48, .if_icmp .ne 7, 51, [55], none), (51, .bipush 8, 53, [], none), (53, .istore 4, 55, [], none)] (43, .istore 4, 45, [], some [0, 1, 2]) (by decide +kernel) _ _ _).trans rfl
theorem B_X12_sign_55 (d : Nat) (M : zM) (l0 : Nat) (l1 : Int32) (l2 : Int32) (l4 : Int32) :
  evk zcod none d zc_X12_sign 55 [(0, .ref l0), (1, .int l1), (2, .int l2), (4, .int l4)] [] M =
  if ¬ l2 = (45 : Int32) then
  evk zcod none d zc_X12_sign 65 [(0, .ref l0), (1, .int l1), (2, .int l2), (4, .int l4)] [] M
  else
  evk zcod none d zc_X12_sign 65 [(0, .ref l0), (1, .int l1), (2, .int l2), (4, .int (9 : Int32))] [] M :=
  (blk_ok zcod none d zc_X12_sign [(56, .bipush 45, 58, [], none), (58, .if_icmp .ne 7, 61, [65], none), (61, .bipush 9, 63, [], none), (63, .istore 4, 65, [], none)] (55, .iload_n 2, 56, [], some [0, 1, 2, 4]) (by decide +kernel) _ _ _).trans rfl
theorem B_X12_sign_65 (d : Nat) (M : zM) (l0 : Nat) (l1 : Int32) (l2 : Int32) (l4 : Int32) :
  evk zcod none d zc_X12_sign 65 [(0, .ref l0), (1, .int l1), (2, .int l2), (4, .int l4)] [] M =
  if ¬ l2 = (42 : Int32) then
  evk zcod none d zc_X12_sign 75 [(0, .ref l0), (1, .int l1), (2, .int l2), (4, .int l4)] [] M
  else
  evk zcod none d zc_X12_sign 75 [(0, .ref l0), (1, .int l1), (2, .int l2), (4, .int (10 : Int32))] [] M :=
  (blk_ok zcod none d zc_X12_sign [(66, .bipush 42, 68, [], none), (68, .if_icmp .ne 7, 71, [75], none), (71, .bipush 10, 73, [], none), (73, .istore 4, 75, [], none)] (65, .iload_n 2, 66, [], some [0, 1, 2, 4]) (by decide +kernel) _ _ _).trans rfl
theorem B_X12_sign_75 (d : Nat) (M : zM) (l0 : Nat) (l1 : Int32) (l2 : Int32) (l4 : Int32) :
  evk zcod none d zc_X12_sign 75 [(0, .ref l0), (1, .int l1), (2, .int l2), (4, .int l4)] [] M =
  if ¬ l2 = (47 : Int32) then
  evk zcod none d zc_X12_sign 85 [(0, .ref l0), (1, .int l1), (2, .int l2), (4, .int l4)] [] M
  else
  evk zcod none d zc_X12_sign 85 [(0, .ref l0), (1, .int l1), (2, .int l2), (4, .int (15 : Int32))] [] M :=
  (blk_ok zcod none d zc_X12_sign [(76, .bipush 47, 78, [], none), (78, .if_icmp .ne 7, 81, [85], none), (81, .bipush 15, 83, [], none), (83, .istore 4, 85, [], none)] (75, .iload_n 2, 76, [], some [0, 1, 2, 4]) (by decide +kernel) _ _ _).trans rfl
theorem B_X12_sign_85 (d : Nat) (M : zM) (l0 : Nat) (l1 : Int32) (l2 : Int32) (l4 : Int32) :
  evk zcod none d zc_X12_sign 85 [(0, .ref l0), (1, .int l1), (2, .int l2), (4, .int l4)] [] M =
  if ¬ l2 = (60 : Int32) then
  evk zcod none d zc_X12_sign 95 [(0, .ref l0), (1, .int l1), (4, .int l4)] [] M
  else
  evk zcod none d zc_X12_sign 95 [(0, .ref l0), (1, .int l1), (4, .int (13 : Int32))] [] M :=
  (blk_ok zcod none d zc_X12_sign [(86, .bipush 60, 88, [], none), (88, .if_icmp .ne 7, 91, [95], none), (91, .bipush 13, 93, [], none), (93, .istore 4, 95, [], none)] (85, .iload_n 2, 86, [], some [0, 1, 2, 4]) (by decide +kernel) _ _ _).trans rfl
theorem B_X12_sign_95 (d : Nat) (M : zM) (l0 : Nat) (l1 : Int32) (l4 : Int32) :
  evk zcod none d zc_X12_sign 95 [(0, .ref l0), (1, .int l1), (4, .int l4)] [] M =
  if gK M l0 = 12 then
  (bV (evM zcod d 164 [.ref l0, .int l4, .int l1, .int (0 : Int32), .long (0 : Int64)] M) fun M1 =>
  if M1.1.1 = M.1.1 then
  (some (some (.int (1 : Int32)), M1)) else none) else none :=
  (blk_ok zcod none d zc_X12_sign [(96, .iload 4, 98, [], none), (98, .iload_n 1, 99, [], none), (99, .iconst 0, 100, [], none), (100, .lconst 0, 101, [], none), (101, .invokevirtual 212, 104, [164, 4, 0, 12, 683, 684, 685, 662], none), (104, .iconst 1, 105, [], none), (105, .ireturn, 106, [0], none)] (95, .aload_n 0, 96, [], some [0, 1, 4]) (by decide +kernel) _ _ _).trans rfl
theorem E_X12_is (d : Nat) (M : zM) (l0 : Nat) (l1 : Int32) : evM zcod (d + 1) 167 [.ref l0, .int l1] M = evk zcod none d zc_X12_is 0 [(0, .ref l0), (1, .int l1)] [] M := evM_eq zcod d 167 _ M (Nat.le_of_ble_eq_true rfl)
theorem B_X12_is_0 (d : Nat) (M : zM) (l0 : Nat) (l1 : Int32) :
  evk zcod none d zc_X12_is 0 [(0, .ref l0), (1, .int l1)] [] M =
  if gK M l0 = 12 then
  (if ¬ (gI M l0 13) = 0 then
  evk zcod none d zc_X12_is 24 [] [] M
  else
  if gK M l0 = 12 then
  (if gK M l0 = 12 then
  (if gK M (gR M l0 5) = 20 ∧ zin (gI M l0 11) (gN M (gR M l0 5)) then
  (if ¬ (gI M (gR M l0 5) (zix (gI M l0 11))) = l1 then
  evk zcod none d zc_X12_is 24 [] [] M
  else
  evk zcod none d zc_X12_is 25 [] [.int (1 : Int32)] M) else none) else none) else none) else none :=
  (blk_ok zcod none d zc_X12_is [(1, .getfield 227, 4, [12, 13, 0, 693, 0], none), (4, .ifCond .ne 20, 7, [24], none), (7, .aload_n 0, 8, [], none), (8, .getfield 20, 11, [12, 5, 2, 607, 0], none), (11, .aload_n 0, 12, [], none), (12, .getfield 230, 15, [12, 11, 0, 694, 0], none), (15, .iaload, 16, [20], none), (16, .iload_n 1, 17, [], none), (17, .if_icmp .ne 7, 20, [24], none), (20, .iconst 1, 21, [], none), (21, .goto 4, 24, [25], none)] (0, .aload_n 0, 1, [], none) (by decide +kernel) _ _ _).trans rfl
theorem B_X12_is_24 (d : Nat) (M : zM)  :
  evk zcod none d zc_X12_is 24 [] [] M =
  evk zcod none d zc_X12_is 25 [] [.int (0 : Int32)] M :=
  (blk_ok zcod none d zc_X12_is [] (24, .iconst 0, 25, [], some []) (by decide +kernel) _ _ _).trans rfl
theorem B_X12_is_25 (d : Nat) (M : zM) (s0 : Int32) :
  evk zcod none d zc_X12_is 25 [] [.int s0] M =
  if s0 = 0 ∨ s0 = 1 then some (some (.int s0), M) else none :=
  (blk_ok zcod none d zc_X12_is [] (25, .ireturn, 26, [1], some []) (by decide +kernel) _ _ _).trans rfl
theorem E_X12_fail (d : Nat) (M : zM) (l0 : Nat) (l1 : Int32) : evM zcod (d + 1) 168 [.ref l0, .int l1] M = evk zcod none d zc_X12_fail 0 [(0, .ref l0), (1, .int l1)] [] M := evM_eq zcod d 168 _ M (Nat.le_of_ble_eq_true rfl)
theorem B_X12_fail_0 (d : Nat) (M : zM) (l0 : Nat) (l1 : Int32) :
  evk zcod none d zc_X12_fail 0 [(0, .ref l0), (1, .int l1)] [] M =
  if gK M l0 = 12 then
  (if (gI M l0 13) ≤ 0 then
  evk zcod none d zc_X12_fail 8 [(0, .ref l0), (1, .int l1)] [] M
  else
  some (none, M)) else none :=
  (blk_ok zcod none d zc_X12_fail [(1, .getfield 227, 4, [12, 13, 0, 693, 0], none), (4, .ifCond .le 4, 7, [8], none), (7, .return_, 8, [], none)] (0, .aload_n 0, 1, [], none) (by decide +kernel) _ _ _).trans rfl
theorem B_X12_fail_8 (d : Nat) (M : zM) (l0 : Nat) (l1 : Int32) :
  evk zcod none d zc_X12_fail 8 [(0, .ref l0), (1, .int l1)] [] M =
  if gK M l0 = 12 then
  (if gK (sI M l0 13 l1) l0 = 12 then
  (if gK (sI M l0 13 l1) l0 = 12 then
  (if gK (sI M l0 13 l1) (gR (sI M l0 13 l1) l0 6) = 20 ∧ zin (gI (sI M l0 13 l1) l0 11) (gN (sI M l0 13 l1) (gR (sI M l0 13 l1) l0 6)) then
  (if gK (sI M l0 13 l1) l0 = 12 then
  (some (none, (sI (sI M l0 13 l1) l0 14 (gI (sI M l0 13 l1) (gR (sI M l0 13 l1) l0 6) (zix (gI (sI M l0 13 l1) l0 11)))))) else none) else none) else none) else none) else none :=
  (blk_ok zcod none d zc_X12_fail [(9, .iload_n 1, 10, [], none), (10, .putfield 227, 13, [12, 13, 0, 693, 0, 0], none), (13, .aload_n 0, 14, [], none), (14, .aload_n 0, 15, [], none), (15, .getfield 24, 18, [12, 6, 2, 608, 0], none), (18, .aload_n 0, 19, [], none), (19, .getfield 230, 22, [12, 11, 0, 694, 0], none), (22, .iaload, 23, [20], none), (23, .putfield 233, 26, [12, 14, 0, 695, 0, 0], none), (26, .return_, 27, [], none)] (8, .aload_n 0, 9, [], some [0, 1]) (by decide +kernel) _ _ _).trans rfl
theorem E_X12_wrong (d : Nat) (M : zM) (l0 : Nat) (l1 : Int32) (l2 : Int32) : evM zcod (d + 1) 169 [.ref l0, .int l1, .int l2] M = evk zcod none d zc_X12_wrong 0 [(0, .ref l0), (1, .int l1), (2, .int l2)] [] M := evM_eq zcod d 169 _ M (Nat.le_of_ble_eq_true rfl)
theorem B_X12_wrong_0 (d : Nat) (M : zM) (l0 : Nat) (l1 : Int32) (l2 : Int32) :
  evk zcod none d zc_X12_wrong 0 [(0, .ref l0), (1, .int l1), (2, .int l2)] [] M =
  if gK M l0 = 12 then
  (if gK M (gR M l0 6) = 20 ∧ zin l2 (gN M (gR M l0 6)) then
  (if gK M l0 = 12 then
  (if 0 < (gI M l0 13) then
  evk zcod none d zc_X12_wrong 45 [] [] M
  else
  if gK M l0 = 12 then
  (if (gI M l0 15) = 0 then
  evk zcod none d zc_X12_wrong 46 [(0, .ref l0), (1, .int l1), (3, .int (gI M (gR M l0 6) (zix l2)))] [] M
  else
  if gK M l0 = 12 then
  (if (gI M l0 16) < (gI M (gR M l0 6) (zix l2)) then
  evk zcod none d zc_X12_wrong 45 [] [] M
  else
  if gK M l0 = 12 then
  (if ¬ (gI M (gR M l0 6) (zix l2)) = (gI M l0 16) then
  evk zcod none d zc_X12_wrong 46 [(0, .ref l0), (1, .int l1), (3, .int (gI M (gR M l0 6) (zix l2)))] [] M
  else
  if gK M l0 = 12 then
  (if l1 < (gI M l0 15) then
  evk zcod none d zc_X12_wrong 46 [(0, .ref l0), (1, .int l1), (3, .int (gI M (gR M l0 6) (zix l2)))] [] M
  else
  evk zcod none d zc_X12_wrong 45 [] [] M) else none) else none) else none) else none) else none) else none) else none :=
  (blk_ok zcod none d zc_X12_wrong [(1, .getfield 24, 4, [12, 6, 2, 608, 0], none), (4, .iload_n 2, 5, [], none), (5, .iaload, 6, [20], none), (6, .istore_n 3, 7, [], none), (7, .aload_n 0, 8, [], none), (8, .getfield 227, 11, [12, 13, 0, 693, 0], none), (11, .ifCond .gt 34, 14, [45], none), (14, .aload_n 0, 15, [], none), (15, .getfield 236, 18, [12, 15, 0, 696, 0], none), (18, .ifCond .eq 28, 21, [46], none), (21, .iload_n 3, 22, [], none), (22, .aload_n 0, 23, [], none), (23, .getfield 239, 26, [12, 16, 0, 697, 0], none), (26, .if_icmp .gt 19, 29, [45], none), (29, .iload_n 3, 30, [], none), (30, .aload_n 0, 31, [], none), (31, .getfield 239, 34, [12, 16, 0, 697, 0], none), (34, .if_icmp .ne 12, 37, [46], none), (37, .iload_n 1, 38, [], none), (38, .aload_n 0, 39, [], none), (39, .getfield 236, 42, [12, 15, 0, 696, 0], none), (42, .if_icmp .lt 4, 45, [46], none)] (0, .aload_n 0, 1, [], none) (by decide +kernel) _ _ _).trans rfl
theorem B_X12_wrong_45 (d : Nat) (M : zM)  :
  evk zcod none d zc_X12_wrong 45 [] [] M =
  some (none, M) :=
  (blk_ok zcod none d zc_X12_wrong [] (45, .return_, 46, [], some []) (by decide +kernel) _ _ _).trans rfl
theorem B_X12_wrong_46 (d : Nat) (M : zM) (l0 : Nat) (l1 : Int32) (l3 : Int32) :
  evk zcod none d zc_X12_wrong 46 [(0, .ref l0), (1, .int l1), (3, .int l3)] [] M =
  if gK M l0 = 12 then
  (if gK (sI M l0 15 l1) l0 = 12 then
  (some (none, (sI (sI M l0 15 l1) l0 16 l3))) else none) else none :=
  (blk_ok zcod none d zc_X12_wrong [(47, .iload_n 1, 48, [], none), (48, .putfield 236, 51, [12, 15, 0, 696, 0, 0], none), (51, .aload_n 0, 52, [], none), (52, .iload_n 3, 53, [], none), (53, .putfield 239, 56, [12, 16, 0, 697, 0, 0], none), (56, .return_, 57, [], none)] (46, .aload_n 0, 47, [], some [0, 1, 3]) (by decide +kernel) _ _ _).trans rfl
theorem E_X12_goesOn (d : Nat) (M : zM) (l0 : Nat) : evM zcod (d + 1) 170 [.ref l0] M = evk zcod none d zc_X12_goesOn 0 [(0, .ref l0)] [] M := evM_eq zcod d 170 _ M (Nat.le_of_ble_eq_true rfl)
theorem B_X12_goesOn_0 (d : Nat) (M : zM) (l0 : Nat) :
  evk zcod none d zc_X12_goesOn 0 [(0, .ref l0)] [] M =
  if gK M l0 = 12 then
  (if ¬ (gI M l0 11) = (400 : Int32) then
  evk zcod none d zc_X12_goesOn 18 [(0, .ref l0)] [] M
  else
  if gK M l0 = 12 then
  (bV (evM zcod d 168 [.ref l0, .int (2 : Int32)] M) fun M1 =>
  if M1.1.1 = M.1.1 then
  (evk zcod none d zc_X12_goesOn 28 [] [] M1) else none) else none) else none :=
  (blk_ok zcod none d zc_X12_goesOn [(1, .getfield 230, 4, [12, 11, 0, 694, 0], none), (4, .sipush 400, 7, [], none), (7, .if_icmp .ne 11, 10, [18], none), (10, .aload_n 0, 11, [], none), (11, .iconst 2, 12, [], none), (12, .invokevirtual 242, 15, [168, 1, 0, 12, 698, 699, 700, 662], none), (15, .goto 13, 18, [28], none)] (0, .aload_n 0, 1, [], none) (by decide +kernel) _ _ _).trans rfl
theorem B_X12_goesOn_18 (d : Nat) (M : zM) (l0 : Nat) :
  evk zcod none d zc_X12_goesOn 18 [(0, .ref l0)] [] M =
  if gK M l0 = 12 then
  (if gK M l0 = 12 then
  (evk zcod none d zc_X12_goesOn 28 [] [] (sI M l0 11 ((gI M l0 11) + (1 : Int32)))) else none) else none :=
  (blk_ok zcod none d zc_X12_goesOn [(19, .dup, 20, [], none), (20, .getfield 230, 23, [12, 11, 0, 694, 0], none), (23, .iconst 1, 24, [], none), (24, .iadd, 25, [], none), (25, .putfield 230, 28, [12, 11, 0, 694, 0, 0], none)] (18, .aload_n 0, 19, [], some [0]) (by decide +kernel) _ _ _).trans rfl
theorem B_X12_goesOn_28 (d : Nat) (M : zM)  :
  evk zcod none d zc_X12_goesOn 28 [] [] M =
  some (none, M) :=
  (blk_ok zcod none d zc_X12_goesOn [] (28, .return_, 29, [], some []) (by decide +kernel) _ _ _).trans rfl
theorem E_X12_must (d : Nat) (M : zM) (l0 : Nat) (l1 : Int32) : evM zcod (d + 1) 171 [.ref l0, .int l1] M = evk zcod none d zc_X12_must 0 [(0, .ref l0), (1, .int l1)] [] M := evM_eq zcod d 171 _ M (Nat.le_of_ble_eq_true rfl)
theorem B_X12_must_0 (d : Nat) (M : zM) (l0 : Nat) (l1 : Int32) :
  evk zcod none d zc_X12_must 0 [(0, .ref l0), (1, .int l1)] [] M =
  if gK M l0 = 12 then
  (bI (evM zcod d 167 [.ref l0, .int l1] M) fun x1 M1 =>
  if M1.1.1 = M.1.1 then
  (if x1 = 0 then
  evk zcod none d zc_X12_must 15 [(0, .ref l0)] [] M1
  else
  if gK M1 l0 = 12 then
  (bV (evM zcod d 170 [.ref l0] M1) fun M2 =>
  if M2.1.1 = M1.1.1 then
  (evk zcod none d zc_X12_must 20 [] [] M2) else none) else none) else none) else none :=
  (blk_ok zcod none d zc_X12_must [(1, .iload_n 1, 2, [], none), (2, .invokevirtual 245, 5, [167, 1, 1, 12, 701, 702, 703, 662], none), (5, .ifCond .eq 10, 8, [15], none), (8, .aload_n 0, 9, [], none), (9, .invokevirtual 248, 12, [170, 0, 0, 12, 704, 705, 706, 662], none), (12, .goto 8, 15, [20], none)] (0, .aload_n 0, 1, [], none) (by decide +kernel) _ _ _).trans rfl
theorem B_X12_must_15 (d : Nat) (M : zM) (l0 : Nat) :
  evk zcod none d zc_X12_must 15 [(0, .ref l0)] [] M =
  if gK M l0 = 12 then
  (bV (evM zcod d 168 [.ref l0, .int (1 : Int32)] M) fun M1 =>
  if M1.1.1 = M.1.1 then
  (evk zcod none d zc_X12_must 20 [] [] M1) else none) else none :=
  (blk_ok zcod none d zc_X12_must [(16, .iconst 1, 17, [], none), (17, .invokevirtual 242, 20, [168, 1, 0, 12, 698, 699, 700, 662], none)] (15, .aload_n 0, 16, [], some [0]) (by decide +kernel) _ _ _).trans rfl
theorem B_X12_must_20 (d : Nat) (M : zM)  :
  evk zcod none d zc_X12_must 20 [] [] M =
  some (none, M) :=
  (blk_ok zcod none d zc_X12_must [] (20, .return_, 21, [], some []) (by decide +kernel) _ _ _).trans rfl
theorem E_X12_plain (d : Nat) (M : zM) (l0 : Nat) (l1 : Int32) : evM zcod (d + 1) 172 [.ref l0, .int l1] M = evk zcod none d zc_X12_plain 0 [(0, .ref l0), (1, .int l1)] [] M := evM_eq zcod d 172 _ M (Nat.le_of_ble_eq_true rfl)
theorem B_X12_plain_0 (d : Nat) (M : zM) (l0 : Nat) (l1 : Int32) :
  evk zcod none d zc_X12_plain 0 [(0, .ref l0), (1, .int l1)] [] M =
  if gK M l0 = 12 then
  (if gK M (gR M l0 22) = 20 ∧ zin l1 (gN M (gR M l0 22)) then
  (if gK (sI M (gR M l0 22) (zix l1) (0 : Int32)) l0 = 12 then
  (if gK (sI M (gR M l0 22) (zix l1) (0 : Int32)) (gR (sI M (gR M l0 22) (zix l1) (0 : Int32)) l0 26) = 20 ∧ zin l1 (gN (sI M (gR M l0 22) (zix l1) (0 : Int32)) (gR (sI M (gR M l0 22) (zix l1) (0 : Int32)) l0 26)) then
  (if gK (sI (sI M (gR M l0 22) (zix l1) (0 : Int32)) (gR (sI M (gR M l0 22) (zix l1) (0 : Int32)) l0 26) (zix l1) (0 : Int32)) l0 = 12 then
  (if gK (sI (sI M (gR M l0 22) (zix l1) (0 : Int32)) (gR (sI M (gR M l0 22) (zix l1) (0 : Int32)) l0 26) (zix l1) (0 : Int32)) (gR (sI (sI M (gR M l0 22) (zix l1) (0 : Int32)) (gR (sI M (gR M l0 22) (zix l1) (0 : Int32)) l0 26) (zix l1) (0 : Int32)) l0 29) = 20 ∧ zin l1 (gN (sI (sI M (gR M l0 22) (zix l1) (0 : Int32)) (gR (sI M (gR M l0 22) (zix l1) (0 : Int32)) l0 26) (zix l1) (0 : Int32)) (gR (sI (sI M (gR M l0 22) (zix l1) (0 : Int32)) (gR (sI M (gR M l0 22) (zix l1) (0 : Int32)) l0 26) (zix l1) (0 : Int32)) l0 29)) then
  (if gK (sI (sI (sI M (gR M l0 22) (zix l1) (0 : Int32)) (gR (sI M (gR M l0 22) (zix l1) (0 : Int32)) l0 26) (zix l1) (0 : Int32)) (gR (sI (sI M (gR M l0 22) (zix l1) (0 : Int32)) (gR (sI M (gR M l0 22) (zix l1) (0 : Int32)) l0 26) (zix l1) (0 : Int32)) l0 29) (zix l1) (0 : Int32)) l0 = 12 then
  (if gK (sI (sI (sI M (gR M l0 22) (zix l1) (0 : Int32)) (gR (sI M (gR M l0 22) (zix l1) (0 : Int32)) l0 26) (zix l1) (0 : Int32)) (gR (sI (sI M (gR M l0 22) (zix l1) (0 : Int32)) (gR (sI M (gR M l0 22) (zix l1) (0 : Int32)) l0 26) (zix l1) (0 : Int32)) l0 29) (zix l1) (0 : Int32)) (gR (sI (sI (sI M (gR M l0 22) (zix l1) (0 : Int32)) (gR (sI M (gR M l0 22) (zix l1) (0 : Int32)) l0 26) (zix l1) (0 : Int32)) (gR (sI (sI M (gR M l0 22) (zix l1) (0 : Int32)) (gR (sI M (gR M l0 22) (zix l1) (0 : Int32)) l0 26) (zix l1) (0 : Int32)) l0 29) (zix l1) (0 : Int32)) l0 33) = 20 ∧ zin l1 (gN (sI (sI (sI M (gR M l0 22) (zix l1) (0 : Int32)) (gR (sI M (gR M l0 22) (zix l1) (0 : Int32)) l0 26) (zix l1) (0 : Int32)) (gR (sI (sI M (gR M l0 22) (zix l1) (0 : Int32)) (gR (sI M (gR M l0 22) (zix l1) (0 : Int32)) l0 26) (zix l1) (0 : Int32)) l0 29) (zix l1) (0 : Int32)) (gR (sI (sI (sI M (gR M l0 22) (zix l1) (0 : Int32)) (gR (sI M (gR M l0 22) (zix l1) (0 : Int32)) l0 26) (zix l1) (0 : Int32)) (gR (sI (sI M (gR M l0 22) (zix l1) (0 : Int32)) (gR (sI M (gR M l0 22) (zix l1) (0 : Int32)) l0 26) (zix l1) (0 : Int32)) l0 29) (zix l1) (0 : Int32)) l0 33)) then
  (evk zcod none d zc_X12_plain 29 [(0, .ref l0), (1, .int l1)] [] (sI (sI (sI (sI M (gR M l0 22) (zix l1) (0 : Int32)) (gR (sI M (gR M l0 22) (zix l1) (0 : Int32)) l0 26) (zix l1) (0 : Int32)) (gR (sI (sI M (gR M l0 22) (zix l1) (0 : Int32)) (gR (sI M (gR M l0 22) (zix l1) (0 : Int32)) l0 26) (zix l1) (0 : Int32)) l0 29) (zix l1) (0 : Int32)) (gR (sI (sI (sI M (gR M l0 22) (zix l1) (0 : Int32)) (gR (sI M (gR M l0 22) (zix l1) (0 : Int32)) l0 26) (zix l1) (0 : Int32)) (gR (sI (sI M (gR M l0 22) (zix l1) (0 : Int32)) (gR (sI M (gR M l0 22) (zix l1) (0 : Int32)) l0 26) (zix l1) (0 : Int32)) l0 29) (zix l1) (0 : Int32)) l0 33) (zix l1) (10 : Int32))) else none) else none) else none) else none) else none) else none) else none) else none :=
  (blk_ok zcod none d zc_X12_plain [(1, .getfield 43, 4, [12, 22, 2, 614, 0], none), (4, .iload_n 1, 5, [], none), (5, .iconst 0, 6, [], none), (6, .iastore, 7, [20], none), (7, .aload_n 0, 8, [], none), (8, .getfield 55, 11, [12, 26, 2, 618, 0], none), (11, .iload_n 1, 12, [], none), (12, .iconst 0, 13, [], none), (13, .iastore, 14, [20], none), (14, .aload_n 0, 15, [], none), (15, .getfield 64, 18, [12, 29, 2, 621, 0], none), (18, .iload_n 1, 19, [], none), (19, .iconst 0, 20, [], none), (20, .iastore, 21, [20], none), (21, .aload_n 0, 22, [], none), (22, .getfield 76, 25, [12, 33, 2, 625, 0], none), (25, .iload_n 1, 26, [], none), (26, .bipush 10, 28, [], none), (28, .iastore, 29, [20], none)] (0, .aload_n 0, 1, [], none) (by decide +kernel) _ _ _).trans rfl
theorem B_X12_plain_29 (d : Nat) (M : zM) (l0 : Nat) (l1 : Int32) :
  evk zcod none d zc_X12_plain 29 [(0, .ref l0), (1, .int l1)] [] M =
  if gK M l0 = 12 then
  (if gK M (gR M l0 34) = 20 ∧ zin l1 (gN M (gR M l0 34)) then
  (if gK (sI M (gR M l0 34) (zix l1) (0 : Int32)) l0 = 12 then
  (if gK (sI M (gR M l0 34) (zix l1) (0 : Int32)) (gR (sI M (gR M l0 34) (zix l1) (0 : Int32)) l0 35) = 20 ∧ zin l1 (gN (sI M (gR M l0 34) (zix l1) (0 : Int32)) (gR (sI M (gR M l0 34) (zix l1) (0 : Int32)) l0 35)) then
  (evk zcod none d zc_X12_plain 45 [(0, .ref l0), (1, .int l1), (2, .int (0 : Int32))] [] (sI (sI M (gR M l0 34) (zix l1) (0 : Int32)) (gR (sI M (gR M l0 34) (zix l1) (0 : Int32)) l0 35) (zix l1) (0 : Int32))) else none) else none) else none) else none :=
  (blk_ok zcod none d zc_X12_plain [(30, .getfield 79, 33, [12, 34, 2, 626, 0], none), (33, .iload_n 1, 34, [], none), (34, .iconst 0, 35, [], none), (35, .iastore, 36, [20], none), (36, .aload_n 0, 37, [], none), (37, .getfield 82, 40, [12, 35, 2, 627, 0], none), (40, .iload_n 1, 41, [], none), (41, .iconst 0, 42, [], none), (42, .iastore, 43, [20], none), (43, .iconst 0, 44, [], none), (44, .istore_n 2, 45, [], none)] (29, .aload_n 0, 30, [], some [0, 1]) (by decide +kernel) _ _ _).trans rfl
theorem B_X12_plain_45 (d : Nat) (M : zM) (l0 : Nat) (l1 : Int32) (l2 : Int32) :
  evk zcod none d zc_X12_plain 45 [(0, .ref l0), (1, .int l1), (2, .int l2)] [] M =
  if (4 : Int32) ≤ l2 then
  evk zcod none d zc_X12_plain 78 [] [] M
  else
  if gK M l0 = 12 then
  (if gK M (gR M l0 36) = 20 ∧ zin (((4 : Int32) * l1) + l2) (gN M (gR M l0 36)) then
  (if gK (sI M (gR M l0 36) (zix (((4 : Int32) * l1) + l2)) (0 : Int32)) l0 = 12 then
  (if gK (sI M (gR M l0 36) (zix (((4 : Int32) * l1) + l2)) (0 : Int32)) (gR (sI M (gR M l0 36) (zix (((4 : Int32) * l1) + l2)) (0 : Int32)) l0 37) = 20 ∧ zin (((4 : Int32) * l1) + l2) (gN (sI M (gR M l0 36) (zix (((4 : Int32) * l1) + l2)) (0 : Int32)) (gR (sI M (gR M l0 36) (zix (((4 : Int32) * l1) + l2)) (0 : Int32)) l0 37)) then
  (evk zcod none d zc_X12_plain 45 [(0, .ref l0), (1, .int l1), (2, .int (l2 + 1))] [] (sI (sI M (gR M l0 36) (zix (((4 : Int32) * l1) + l2)) (0 : Int32)) (gR (sI M (gR M l0 36) (zix (((4 : Int32) * l1) + l2)) (0 : Int32)) l0 37) (zix (((4 : Int32) * l1) + l2)) (0 : Int32))) else none) else none) else none) else none :=
  (blk_ok zcod none d zc_X12_plain [(46, .iconst 4, 47, [], none), (47, .if_icmp .ge 31, 50, [78], none), (50, .aload_n 0, 51, [], none), (51, .getfield 85, 54, [12, 36, 2, 628, 0], none), (54, .iconst 4, 55, [], none), (55, .iload_n 1, 56, [], none), (56, .imul, 57, [], none), (57, .iload_n 2, 58, [], none), (58, .iadd, 59, [], none), (59, .iconst 0, 60, [], none), (60, .iastore, 61, [20], none), (61, .aload_n 0, 62, [], none), (62, .getfield 88, 65, [12, 37, 2, 629, 0], none), (65, .iconst 4, 66, [], none), (66, .iload_n 1, 67, [], none), (67, .imul, 68, [], none), (68, .iload_n 2, 69, [], none), (69, .iadd, 70, [], none), (70, .iconst 0, 71, [], none), (71, .iastore, 72, [20], none), (72, .iinc 2 1, 75, [], none), (75, .goto (-30), 78, [45], none)] (45, .iload_n 2, 46, [], some [0, 1, 2]) (by decide +kernel) _ _ _).trans rfl
theorem B_X12_plain_78 (d : Nat) (M : zM)  :
  evk zcod none d zc_X12_plain 78 [] [] M =
  some (none, M) :=
  (blk_ok zcod none d zc_X12_plain [] (78, .return_, 79, [], some []) (by decide +kernel) _ _ _).trans rfl
theorem E_X12_read (d : Nat) (M : zM) (l0 : Nat) : evM zcod (d + 1) 173 [.ref l0] M = evk zcod none d zc_X12_read 0 [(0, .ref l0)] [] M := evM_eq zcod d 173 _ M (Nat.le_of_ble_eq_true rfl)
theorem B_X12_read_0 (d : Nat) (M : zM) (l0 : Nat) :
  evk zcod none d zc_X12_read 0 [(0, .ref l0)] [] M =
  if gK M l0 = 12 then
  (if gK M l0 = 12 then
  (evk zcod none d zc_X12_read 10 [(0, .ref l0), (1, .int (0 : Int32))] [] (sI M l0 4 (gI M l0 2))) else none) else none :=
  (blk_ok zcod none d zc_X12_read [(1, .aload_n 0, 2, [], none), (2, .getfield 190, 5, [12, 2, 0, 671, 0], none), (5, .putfield 196, 8, [12, 4, 0, 675, 0, 0], none), (8, .iconst 0, 9, [], none), (9, .istore_n 1, 10, [], none)] (0, .aload_n 0, 1, [], none) (by decide +kernel) _ _ _).trans rfl
theorem B_X12_read_10 (d : Nat) (M : zM) (l0 : Nat) (l1 : Int32) :
  evk zcod none d zc_X12_read 10 [(0, .ref l0), (1, .int l1)] [] M =
  if gK M l0 = 12 then
  (if (gI M l0 4) ≤ l1 then
  evk zcod none d zc_X12_read 36 [(0, .ref l0)] [] M
  else
  if gK M l0 = 12 then
  (if gK M l0 = 12 then
  (if gK M (gR M l0 1) = 21 ∧ zin l1 (gN M (gR M l0 1)) then
  (if gK M (gR M l0 3) = 21 ∧ zin l1 (gN M (gR M l0 3)) then
  (evk zcod none d zc_X12_read 10 [(0, .ref l0), (1, .int (l1 + 1))] [] (sI M (gR M l0 3) (zix l1) ((gI M (gR M l0 1) (zix l1)).toInt8.toInt32))) else none) else none) else none) else none) else none :=
  (blk_ok zcod none d zc_X12_read [(11, .aload_n 0, 12, [], none), (12, .getfield 196, 15, [12, 4, 0, 675, 0], none), (15, .if_icmp .ge 21, 18, [36], none), (18, .aload_n 0, 19, [], none), (19, .getfield 17, 22, [12, 3, 2, 606, 0], none), (22, .iload_n 1, 23, [], none), (23, .aload_n 0, 24, [], none), (24, .getfield 13, 27, [12, 1, 2, 605, 0], none), (27, .iload_n 1, 28, [], none), (28, .baload, 29, [21], none), (29, .bastore, 30, [21], none), (30, .iinc 1 1, 33, [], none), (33, .goto (-23), 36, [10], none)] (10, .iload_n 1, 11, [], some [0, 1]) (by decide +kernel) _ _ _).trans rfl
theorem B_X12_read_36 (d : Nat) (M : zM) (l0 : Nat) :
  evk zcod none d zc_X12_read 36 [(0, .ref l0)] [] M =
  if gK M l0 = 12 then
  (if gK (sI M l0 2 (0 : Int32)) l0 = 12 then
  (bV (evM zcod d 165 [.ref l0] (sI M l0 2 (0 : Int32))) fun M1 =>
  if M1.1.1 = (sI M l0 2 (0 : Int32)).1.1 then
  (if gK M1 l0 = 12 then
  (if gK (sI M1 l0 11 (0 : Int32)) l0 = 12 then
  (evk zcod none d zc_X12_read 55 [(0, .ref l0)] [] (sI (sI M1 l0 11 (0 : Int32)) l0 12 (0 : Int32))) else none) else none) else none) else none) else none :=
  (blk_ok zcod none d zc_X12_read [(37, .iconst 0, 38, [], none), (38, .putfield 190, 41, [12, 2, 0, 671, 0, 0], none), (41, .aload_n 0, 42, [], none), (42, .invokevirtual 251, 45, [165, 0, 0, 12, 707, 708, 709, 662], none), (45, .aload_n 0, 46, [], none), (46, .iconst 0, 47, [], none), (47, .putfield 230, 50, [12, 11, 0, 694, 0, 0], none), (50, .aload_n 0, 51, [], none), (51, .iconst 0, 52, [], none), (52, .putfield 254, 55, [12, 12, 0, 710, 0, 0], none)] (36, .aload_n 0, 37, [], some [0]) (by decide +kernel) _ _ _).trans rfl
theorem B_X12_read_55 (d : Nat) (M : zM) (l0 : Nat) :
  evk zcod none d zc_X12_read 55 [(0, .ref l0)] [] M =
  if gK M l0 = 12 then
  (if gK (sI M l0 13 (0 : Int32)) l0 = 12 then
  (if gK (sI (sI M l0 13 (0 : Int32)) l0 15 (0 : Int32)) l0 = 12 then
  (if gK (sI (sI M l0 13 (0 : Int32)) l0 15 (0 : Int32)) l0 = 12 then
  (if gK (sI (sI (sI M l0 13 (0 : Int32)) l0 15 (0 : Int32)) l0 19 ((1 : Int32) - (gI (sI (sI M l0 13 (0 : Int32)) l0 15 (0 : Int32)) l0 18))) l0 = 12 then
  (evk zcod none d zc_X12_read 80 [(0, .ref l0)] [] (sI (sI (sI (sI M l0 13 (0 : Int32)) l0 15 (0 : Int32)) l0 19 ((1 : Int32) - (gI (sI (sI M l0 13 (0 : Int32)) l0 15 (0 : Int32)) l0 18))) l0 20 (0 : Int32))) else none) else none) else none) else none) else none :=
  (blk_ok zcod none d zc_X12_read [(56, .iconst 0, 57, [], none), (57, .putfield 227, 60, [12, 13, 0, 693, 0, 0], none), (60, .aload_n 0, 61, [], none), (61, .iconst 0, 62, [], none), (62, .putfield 236, 65, [12, 15, 0, 696, 0, 0], none), (65, .aload_n 0, 66, [], none), (66, .iconst 1, 67, [], none), (67, .aload_n 0, 68, [], none), (68, .getfield 257, 71, [12, 18, 0, 711, 0], none), (71, .isub, 72, [], none), (72, .putfield 260, 75, [12, 19, 0, 712, 0, 0], none), (75, .aload_n 0, 76, [], none), (76, .iconst 0, 77, [], none), (77, .putfield 263, 80, [12, 20, 0, 713, 0, 0], none)] (55, .aload_n 0, 56, [], some [0]) (by decide +kernel) _ _ _).trans rfl
theorem B_X12_read_80 (d : Nat) (M : zM) (l0 : Nat) :
  evk zcod none d zc_X12_read 80 [(0, .ref l0)] [] M =
  if gK M l0 = 12 then
  (if gK M l0 = 12 then
  (bV (evM zcod d 172 [.ref l0, .int (gI M l0 19)] M) fun M1 =>
  if M1.1.1 = M.1.1 then
  (if gK M1 l0 = 12 then
  (if gK M1 l0 = 12 then
  (if gK (sI M1 l0 38 ((130 : Int32) * (gI M1 l0 19))) l0 = 12 then
  (if gK (sI M1 l0 38 ((130 : Int32) * (gI M1 l0 19))) l0 = 12 then
  (evk zcod none d zc_X12_read 112 [(0, .ref l0)] [] (sI (sI M1 l0 38 ((130 : Int32) * (gI M1 l0 19))) l0 44 ((420 : Int32) * (gI (sI M1 l0 38 ((130 : Int32) * (gI M1 l0 19))) l0 19)))) else none) else none) else none) else none) else none) else none) else none :=
  (blk_ok zcod none d zc_X12_read [(81, .aload_n 0, 82, [], none), (82, .getfield 260, 85, [12, 19, 0, 712, 0], none), (85, .invokevirtual 176, 88, [172, 1, 0, 12, 659, 660, 661, 662], none), (88, .aload_n 0, 89, [], none), (89, .sipush 130, 92, [], none), (92, .aload_n 0, 93, [], none), (93, .getfield 260, 96, [12, 19, 0, 712, 0], none), (96, .imul, 97, [], none), (97, .putfield 266, 100, [12, 38, 0, 714, 0, 0], none), (100, .aload_n 0, 101, [], none), (101, .sipush 420, 104, [], none), (104, .aload_n 0, 105, [], none), (105, .getfield 260, 108, [12, 19, 0, 712, 0], none), (108, .imul, 109, [], none), (109, .putfield 269, 112, [12, 44, 0, 715, 0, 0], none)] (80, .aload_n 0, 81, [], some [0]) (by decide +kernel) _ _ _).trans rfl
theorem B_X12_read_112 (d : Nat) (M : zM) (l0 : Nat) :
  evk zcod none d zc_X12_read 112 [(0, .ref l0)] [] M =
  if gK M l0 = 12 then
  (if ¬ (gI M l0 13) = 0 then
  evk zcod none d zc_X12_read 134 [(0, .ref l0)] [] M
  else
  if gK M l0 = 12 then
  (bI (evM zcod d 167 [.ref l0, .int (0 : Int32)] M) fun x1 M1 =>
  if M1.1.1 = M.1.1 then
  (if ¬ x1 = 0 then
  evk zcod none d zc_X12_read 134 [(0, .ref l0)] [] M1
  else
  if gK M1 l0 = 12 then
  (bV (evM zcod d 177 [.ref l0] M1) fun M2 =>
  if M2.1.1 = M1.1.1 then
  (evk zcod none d zc_X12_read 112 [(0, .ref l0)] [] M2) else none) else none) else none) else none) else none :=
  (blk_ok zcod none d zc_X12_read [(113, .getfield 227, 116, [12, 13, 0, 693, 0], none), (116, .ifCond .ne 18, 119, [134], none), (119, .aload_n 0, 120, [], none), (120, .iconst 0, 121, [], none), (121, .invokevirtual 245, 124, [167, 1, 1, 12, 701, 702, 703, 662], none), (124, .ifCond .ne 10, 127, [134], none), (127, .aload_n 0, 128, [], none), (128, .invokevirtual 272, 131, [177, 0, 0, 12, 716, 717, 718, 662], none), (131, .goto (-19), 134, [112], none)] (112, .aload_n 0, 113, [], some [0]) (by decide +kernel) _ _ _).trans rfl
theorem B_X12_read_134 (d : Nat) (M : zM) (l0 : Nat) :
  evk zcod none d zc_X12_read 134 [(0, .ref l0)] [] M =
  if gK M l0 = 12 then
  (if (gI M l0 13) ≤ 0 then
  evk zcod none d zc_X12_read 149 [(0, .ref l0)] [.ref l0] M
  else
  if gK M l0 = 12 then
  (evk zcod none d zc_X12_read 164 [(0, .ref l0)] [.int (gI M l0 14), .ref l0] M) else none) else none :=
  (blk_ok zcod none d zc_X12_read [(135, .aload_n 0, 136, [], none), (136, .getfield 227, 139, [12, 13, 0, 693, 0], none), (139, .ifCond .le 10, 142, [149], none), (142, .aload_n 0, 143, [], none), (143, .getfield 233, 146, [12, 14, 0, 695, 0], none), (146, .goto 18, 149, [164], none)] (134, .aload_n 0, 135, [], some [0]) (by decide +kernel) _ _ _).trans rfl
theorem B_X12_read_149 (d : Nat) (M : zM) (l0 : Nat) (s0 : Nat) :
  evk zcod none d zc_X12_read 149 [(0, .ref l0)] [.ref s0] M =
  if gK M l0 = 12 then
  (if (gI M l0 15) ≤ 0 then
  evk zcod none d zc_X12_read 163 [(0, .ref l0)] [.ref s0] M
  else
  if gK M l0 = 12 then
  (evk zcod none d zc_X12_read 164 [(0, .ref l0)] [.int (gI M l0 16), .ref s0] M) else none) else none :=
  (blk_ok zcod none d zc_X12_read [(150, .getfield 236, 153, [12, 15, 0, 696, 0], none), (153, .ifCond .le 10, 156, [163], none), (156, .aload_n 0, 157, [], none), (157, .getfield 239, 160, [12, 16, 0, 697, 0], none), (160, .goto 4, 163, [164], none)] (149, .aload_n 0, 150, [], some [0]) (by decide +kernel) _ _ _).trans rfl
theorem B_X12_read_163 (d : Nat) (M : zM) (l0 : Nat) (s0 : Nat) :
  evk zcod none d zc_X12_read 163 [(0, .ref l0)] [.ref s0] M =
  evk zcod none d zc_X12_read 164 [(0, .ref l0)] [.int (-1 : Int32), .ref s0] M :=
  (blk_ok zcod none d zc_X12_read [] (163, .iconst (-1), 164, [], some [0]) (by decide +kernel) _ _ _).trans rfl
theorem B_X12_read_164 (d : Nat) (M : zM) (l0 : Nat) (s0 : Nat) (s1 : Int32) :
  evk zcod none d zc_X12_read 164 [(0, .ref l0)] [.int s1, .ref s0] M =
  if gK M s0 = 12 then
  (if gK (sI M s0 17 s1) l0 = 12 then
  (if (gI (sI M s0 17 s1) l0 13) ≤ 0 then
  evk zcod none d zc_X12_read 179 [(0, .ref l0)] [] (sI M s0 17 s1)
  else
  if gK (sI M s0 17 s1) l0 = 12 then
  (some (some (.int (gI (sI M s0 17 s1) l0 13)), (sI M s0 17 s1))) else none) else none) else none :=
  (blk_ok zcod none d zc_X12_read [(167, .aload_n 0, 168, [], none), (168, .getfield 227, 171, [12, 13, 0, 693, 0], none), (171, .ifCond .le 8, 174, [179], none), (174, .aload_n 0, 175, [], none), (175, .getfield 227, 178, [12, 13, 0, 693, 0], none), (178, .ireturn, 179, [0], none)] (164, .putfield 37, 167, [12, 17, 0, 612, 0, 0], some [0]) (by decide +kernel) _ _ _).trans rfl
theorem B_X12_read_179 (d : Nat) (M : zM) (l0 : Nat) :
  evk zcod none d zc_X12_read 179 [(0, .ref l0)] [] M =
  if gK M l0 = 12 then
  (if (gI M l0 15) ≤ 0 then
  evk zcod none d zc_X12_read 191 [(0, .ref l0)] [] M
  else
  if gK M l0 = 12 then
  (some (some (.int (gI M l0 15)), M)) else none) else none :=
  (blk_ok zcod none d zc_X12_read [(180, .getfield 236, 183, [12, 15, 0, 696, 0], none), (183, .ifCond .le 8, 186, [191], none), (186, .aload_n 0, 187, [], none), (187, .getfield 236, 190, [12, 15, 0, 696, 0], none), (190, .ireturn, 191, [0], none)] (179, .aload_n 0, 180, [], some [0]) (by decide +kernel) _ _ _).trans rfl
theorem B_X12_read_191 (d : Nat) (M : zM) (l0 : Nat) :
  evk zcod none d zc_X12_read 191 [(0, .ref l0)] [] M =
  if gK M l0 = 12 then
  (if gK M l0 = 12 then
  (if gK (sI M l0 18 (gI M l0 19)) l0 = 12 then
  (bV (evM zcod d 198 [.ref l0] (sI M l0 18 (gI M l0 19))) fun M1 =>
  if M1.1.1 = (sI M l0 18 (gI M l0 19)).1.1 then
  (if gK M1 l0 = 12 then
  (bV (evM zcod d 199 [.ref l0] M1) fun M2 =>
  if M2.1.1 = M1.1.1 then
  (if gK M2 l0 = 12 then
  (evk zcod none d zc_X12_read 212 [(0, .ref l0)] [] (sI M2 l0 59 (0 : Int32))) else none) else none) else none) else none) else none) else none) else none :=
  (blk_ok zcod none d zc_X12_read [(192, .aload_n 0, 193, [], none), (193, .getfield 260, 196, [12, 19, 0, 712, 0], none), (196, .putfield 257, 199, [12, 18, 0, 711, 0, 0], none), (199, .aload_n 0, 200, [], none), (200, .invokevirtual 184, 203, [198, 0, 0, 12, 665, 666, 667, 662], none), (203, .aload_n 0, 204, [], none), (204, .invokevirtual 187, 207, [199, 0, 0, 12, 668, 669, 670, 662], none), (207, .aload_n 0, 208, [], none), (208, .iconst 0, 209, [], none), (209, .putfield 275, 212, [12, 59, 0, 719, 0, 0], none)] (191, .aload_n 0, 192, [], some [0]) (by decide +kernel) _ _ _).trans rfl
theorem B_X12_read_212 (d : Nat) (M : zM) (l0 : Nat) :
  evk zcod none d zc_X12_read 212 [(0, .ref l0)] [] M =
  if gK M l0 = 12 then
  (evk zcod none d zc_X12_read 219 [(0, .ref l0), (1, .int (0 : Int32))] [] (sI M l0 74 (0 : Int32))) else none :=
  (blk_ok zcod none d zc_X12_read [(213, .iconst 0, 214, [], none), (214, .putfield 278, 217, [12, 74, 0, 720, 0, 0], none), (217, .iconst 0, 218, [], none), (218, .istore_n 1, 219, [], none)] (212, .aload_n 0, 213, [], some [0]) (by decide +kernel) _ _ _).trans rfl
theorem B_X12_read_219 (d : Nat) (M : zM) (l0 : Nat) (l1 : Int32) :
  evk zcod none d zc_X12_read 219 [(0, .ref l0), (1, .int l1)] [] M =
  if (3 : Int32) ≤ l1 then
  evk zcod none d zc_X12_read 237 [] [] M
  else
  if gK M l0 = 12 then
  (if gK M (gR M l0 80) = 22 ∧ zin l1 (gN M (gR M l0 80)) then
  (evk zcod none d zc_X12_read 219 [(0, .ref l0), (1, .int (l1 + 1))] [] (sI M (gR M l0 80) (zix l1) ((0 : Int32) &&& 1))) else none) else none :=
  (blk_ok zcod none d zc_X12_read [(220, .iconst 3, 221, [], none), (221, .if_icmp .ge 16, 224, [237], none), (224, .aload_n 0, 225, [], none), (225, .getfield 170, 228, [12, 80, 2, 657, 0], none), (228, .iload_n 1, 229, [], none), (229, .iconst 0, 230, [], none), (230, .bastore, 231, [22], none), (231, .iinc 1 1, 234, [], none), (234, .goto (-15), 237, [219], none)] (219, .iload_n 1, 220, [], some [0, 1]) (by decide +kernel) _ _ _).trans rfl
theorem B_X12_read_237 (d : Nat) (M : zM)  :
  evk zcod none d zc_X12_read 237 [] [] M =
  some (some (.int (0 : Int32)), M) :=
  (blk_ok zcod none d zc_X12_read [(238, .ireturn, 239, [0], none)] (237, .iconst 0, 238, [], some []) (by decide +kernel) _ _ _).trans rfl
theorem E_X12_place (d : Nat) (M : zM) (l0 : Nat) : evM zcod (d + 1) 174 [.ref l0] M = evk zcod none d zc_X12_place 0 [(0, .ref l0)] [] M := evM_eq zcod d 174 _ M (Nat.le_of_ble_eq_true rfl)
theorem B_X12_place_0 (d : Nat) (M : zM) (l0 : Nat) :
  evk zcod none d zc_X12_place 0 [(0, .ref l0)] [] M =
  if gK M l0 = 12 then
  (some (some (.int (gI M l0 17)), M)) else none :=
  (blk_ok zcod none d zc_X12_place [(1, .getfield 37, 4, [12, 17, 0, 612, 0], none), (4, .ireturn, 5, [0], none)] (0, .aload_n 0, 1, [], none) (by decide +kernel) _ _ _).trans rfl
theorem E_X12_roomFor (d : Nat) (M : zM) (l0 : Nat) (l1 : Int32) (l2 : Int32) : evM zcod (d + 1) 175 [.ref l0, .int l1, .int l2] M = evk zcod none d zc_X12_roomFor 0 [(0, .ref l0), (1, .int l1), (2, .int l2)] [] M := evM_eq zcod d 175 _ M (Nat.le_of_ble_eq_true rfl)
theorem B_X12_roomFor_0 (d : Nat) (M : zM) (l0 : Nat) (l1 : Int32) (l2 : Int32) :
  evk zcod none d zc_X12_roomFor 0 [(0, .ref l0), (1, .int l1), (2, .int l2)] [] M =
  if ¬ l1 = l2 then
  evk zcod none d zc_X12_roomFor 10 [(0, .ref l0)] [] M
  else
  if gK M l0 = 12 then
  (bV (evM zcod d 168 [.ref l0, .int (2 : Int32)] M) fun M1 =>
  if M1.1.1 = M.1.1 then
  (evk zcod none d zc_X12_roomFor 10 [(0, .ref l0)] [] M1) else none) else none :=
  (blk_ok zcod none d zc_X12_roomFor [(1, .iload_n 2, 2, [], none), (2, .if_icmp .ne 8, 5, [10], none), (5, .aload_n 0, 6, [], none), (6, .iconst 2, 7, [], none), (7, .invokevirtual 242, 10, [168, 1, 0, 12, 698, 699, 700, 662], none)] (0, .iload_n 1, 1, [], none) (by decide +kernel) _ _ _).trans rfl
theorem B_X12_roomFor_10 (d : Nat) (M : zM) (l0 : Nat) :
  evk zcod none d zc_X12_roomFor 10 [(0, .ref l0)] [] M =
  if gK M l0 = 12 then
  (if ¬ (gI M l0 13) = 0 then
  evk zcod none d zc_X12_roomFor 21 [] [] M
  else
  if gK M l0 = 12 then
  (bV (evM zcod d 170 [.ref l0] M) fun M1 =>
  if M1.1.1 = M.1.1 then
  (evk zcod none d zc_X12_roomFor 21 [] [] M1) else none) else none) else none :=
  (blk_ok zcod none d zc_X12_roomFor [(11, .getfield 227, 14, [12, 13, 0, 693, 0], none), (14, .ifCond .ne 7, 17, [21], none), (17, .aload_n 0, 18, [], none), (18, .invokevirtual 248, 21, [170, 0, 0, 12, 704, 705, 706, 662], none)] (10, .aload_n 0, 11, [], some [0]) (by decide +kernel) _ _ _).trans rfl
theorem B_X12_roomFor_21 (d : Nat) (M : zM)  :
  evk zcod none d zc_X12_roomFor 21 [] [] M =
  some (none, M) :=
  (blk_ok zcod none d zc_X12_roomFor [] (21, .return_, 22, [], some []) (by decide +kernel) _ _ _).trans rfl
theorem E_X12_toldInt (d : Nat) (M : zM) (l0 : Nat) (l1 : Int32) (l2 : Int32) : evM zcod (d + 1) 176 [.ref l0, .int l1, .int l2] M = evk zcod none d zc_X12_toldInt 0 [(0, .ref l0), (1, .int l1), (2, .int l2)] [] M := evM_eq zcod d 176 _ M (Nat.le_of_ble_eq_true rfl)
theorem B_X12_toldInt_0 (d : Nat) (M : zM) (l0 : Nat) (l1 : Int32) (l2 : Int32) :
  evk zcod none d zc_X12_toldInt 0 [(0, .ref l0), (1, .int l1), (2, .int l2)] [] M =
  if gK M l0 = 12 then
  (bV (evM zcod d 170 [.ref l0] M) fun M1 =>
  if M1.1.1 = M.1.1 then
  (if gK M1 l0 = 12 then
  (bI (evM zcod d 180 [.ref l0, .int l1, .int l2] M1) fun x2 M2 =>
  if M2.1.1 = M1.1.1 then
  (if gK M2 l0 = 12 then
  (bV (evM zcod d 171 [.ref l0, .int (4 : Int32)] M2) fun M3 =>
  if M3.1.1 = M2.1.1 then
  (some (some (.int x2), M3)) else none) else none) else none) else none) else none) else none :=
  (blk_ok zcod none d zc_X12_toldInt [(1, .invokevirtual 248, 4, [170, 0, 0, 12, 704, 705, 706, 662], none), (4, .aload_n 0, 5, [], none), (5, .iload_n 1, 6, [], none), (6, .iload_n 2, 7, [], none), (7, .invokevirtual 281, 10, [180, 2, 1, 12, 721, 722, 723, 662], none), (10, .istore_n 3, 11, [], none), (11, .aload_n 0, 12, [], none), (12, .iconst 4, 13, [], none), (13, .invokevirtual 285, 16, [171, 1, 0, 12, 724, 725, 726, 662], none), (16, .iload_n 3, 17, [], none), (17, .ireturn, 18, [0], none)] (0, .aload_n 0, 1, [], none) (by decide +kernel) _ _ _).trans rfl
theorem E_X12_tellOne (d : Nat) (M : zM) (l0 : Nat) : evM zcod (d + 1) 177 [.ref l0] M = evk zcod none d zc_X12_tellOne 0 [(0, .ref l0)] [] M := evM_eq zcod d 177 _ M (Nat.le_of_ble_eq_true rfl)
theorem B_X12_tellOne_0 (d : Nat) (M : zM) (l0 : Nat) :
  evk zcod none d zc_X12_tellOne 0 [(0, .ref l0)] [] M =
  if gK M l0 = 12 then
  (if gK M l0 = 12 then
  (if gK M (gR M l0 5) = 20 ∧ zin (gI M l0 11) (gN M (gR M l0 5)) then
  (if (gI M (gR M l0 5) (zix (gI M l0 11))) = (20 : Int32) then evk zcod none d zc_X12_tellOne 64 [(0, .ref l0)] [] M else
  if (gI M (gR M l0 5) (zix (gI M l0 11))) = (21 : Int32) then evk zcod none d zc_X12_tellOne 93 [(0, .ref l0)] [] M else
  if (gI M (gR M l0 5) (zix (gI M l0 11))) = (22 : Int32) then evk zcod none d zc_X12_tellOne 121 [(0, .ref l0)] [] M else
  if (gI M (gR M l0 5) (zix (gI M l0 11))) = (23 : Int32) then evk zcod none d zc_X12_tellOne 207 [(0, .ref l0)] [] M else
  if (gI M (gR M l0 5) (zix (gI M l0 11))) = (24 : Int32) then evk zcod none d zc_X12_tellOne 207 [(0, .ref l0)] [] M else
  if (gI M (gR M l0 5) (zix (gI M l0 11))) = (25 : Int32) then evk zcod none d zc_X12_tellOne 207 [(0, .ref l0)] [] M else
  if (gI M (gR M l0 5) (zix (gI M l0 11))) = (26 : Int32) then evk zcod none d zc_X12_tellOne 207 [(0, .ref l0)] [] M else
  if (gI M (gR M l0 5) (zix (gI M l0 11))) = (27 : Int32) then evk zcod none d zc_X12_tellOne 149 [(0, .ref l0)] [] M else
  if (gI M (gR M l0 5) (zix (gI M l0 11))) = (28 : Int32) then evk zcod none d zc_X12_tellOne 168 [(0, .ref l0)] [] M else
  if (gI M (gR M l0 5) (zix (gI M l0 11))) = (29 : Int32) then evk zcod none d zc_X12_tellOne 187 [(0, .ref l0)] [] M else
  evk zcod none d zc_X12_tellOne 207 [(0, .ref l0)] [] M) else none) else none) else none :=
  (blk_ok zcod none d zc_X12_tellOne [(1, .getfield 20, 4, [12, 5, 2, 607, 0], none), (4, .aload_n 0, 5, [], none), (5, .getfield 230, 8, [12, 11, 0, 694, 0], none), (8, .iaload, 9, [20], none), (9, .tableswitch 198 20 29 #[55, 84, 112, 198, 198, 198, 198, 140, 159, 178], 64, [207, 64, 93, 121, 207, 207, 207, 207, 149, 168, 187], none)] (0, .aload_n 0, 1, [], none) (by decide +kernel) _ _ _).trans rfl
theorem B_X12_tellOne_64 (d : Nat) (M : zM) (l0 : Nat) :
  evk zcod none d zc_X12_tellOne 64 [(0, .ref l0)] [] M =
  if gK M l0 = 12 then
  (if gK M l0 = 12 then
  (if gK M (gR M l0 22) = 20 ∧ zin (gI M l0 19) (gN M (gR M l0 22)) then
  (if gK M l0 = 12 then
  (bV (evM zcod d 175 [.ref l0, .int (gI M (gR M l0 22) (zix (gI M l0 19))), .int (7 : Int32)] M) fun M1 =>
  if M1.1.1 = M.1.1 then
  (if gK M1 l0 = 12 then
  (if ¬ (gI M1 l0 13) = 0 then
  evk zcod none d zc_X12_tellOne 260 [] [] M1
  else
  if gK M1 l0 = 12 then
  (bV (evM zcod d 181 [.ref l0] M1) fun M2 =>
  if M2.1.1 = M1.1.1 then
  (evk zcod none d zc_X12_tellOne 260 [] [] M2) else none) else none) else none) else none) else none) else none) else none) else none :=
  (blk_ok zcod none d zc_X12_tellOne [(65, .aload_n 0, 66, [], none), (66, .getfield 43, 69, [12, 22, 2, 614, 0], none), (69, .aload_n 0, 70, [], none), (70, .getfield 260, 73, [12, 19, 0, 712, 0], none), (73, .iaload, 74, [20], none), (74, .bipush 7, 76, [], none), (76, .invokevirtual 288, 79, [175, 2, 0, 12, 727, 728, 729, 662], none), (79, .aload_n 0, 80, [], none), (80, .getfield 227, 83, [12, 13, 0, 693, 0], none), (83, .ifCond .ne 177, 86, [260], none), (86, .aload_n 0, 87, [], none), (87, .invokevirtual 292, 90, [181, 0, 0, 12, 730, 731, 732, 662], none), (90, .goto 170, 93, [260], none)] (64, .aload_n 0, 65, [], some [0]) (by decide +kernel) _ _ _).trans rfl
theorem B_X12_tellOne_93 (d : Nat) (M : zM) (l0 : Nat) :
  evk zcod none d zc_X12_tellOne 93 [(0, .ref l0)] [] M =
  if gK M l0 = 12 then
  (if gK M l0 = 12 then
  (if gK M (gR M l0 26) = 20 ∧ zin (gI M l0 19) (gN M (gR M l0 26)) then
  (if gK M l0 = 12 then
  (bV (evM zcod d 175 [.ref l0, .int (gI M (gR M l0 26) (zix (gI M l0 19))), .int (5 : Int32)] M) fun M1 =>
  if M1.1.1 = M.1.1 then
  (if gK M1 l0 = 12 then
  (if ¬ (gI M1 l0 13) = 0 then
  evk zcod none d zc_X12_tellOne 260 [] [] M1
  else
  if gK M1 l0 = 12 then
  (bV (evM zcod d 182 [.ref l0] M1) fun M2 =>
  if M2.1.1 = M1.1.1 then
  (evk zcod none d zc_X12_tellOne 260 [] [] M2) else none) else none) else none) else none) else none) else none) else none) else none :=
  (blk_ok zcod none d zc_X12_tellOne [(94, .aload_n 0, 95, [], none), (95, .getfield 55, 98, [12, 26, 2, 618, 0], none), (98, .aload_n 0, 99, [], none), (99, .getfield 260, 102, [12, 19, 0, 712, 0], none), (102, .iaload, 103, [20], none), (103, .iconst 5, 104, [], none), (104, .invokevirtual 288, 107, [175, 2, 0, 12, 727, 728, 729, 662], none), (107, .aload_n 0, 108, [], none), (108, .getfield 227, 111, [12, 13, 0, 693, 0], none), (111, .ifCond .ne 149, 114, [260], none), (114, .aload_n 0, 115, [], none), (115, .invokevirtual 295, 118, [182, 0, 0, 12, 733, 734, 735, 662], none), (118, .goto 142, 121, [260], none)] (93, .aload_n 0, 94, [], some [0]) (by decide +kernel) _ _ _).trans rfl
theorem B_X12_tellOne_121 (d : Nat) (M : zM) (l0 : Nat) :
  evk zcod none d zc_X12_tellOne 121 [(0, .ref l0)] [] M =
  if gK M l0 = 12 then
  (if gK M l0 = 12 then
  (if gK M (gR M l0 29) = 20 ∧ zin (gI M l0 19) (gN M (gR M l0 29)) then
  (if gK M l0 = 12 then
  (bV (evM zcod d 175 [.ref l0, .int (gI M (gR M l0 29) (zix (gI M l0 19))), .int (5 : Int32)] M) fun M1 =>
  if M1.1.1 = M.1.1 then
  (if gK M1 l0 = 12 then
  (if ¬ (gI M1 l0 13) = 0 then
  evk zcod none d zc_X12_tellOne 260 [] [] M1
  else
  if gK M1 l0 = 12 then
  (bV (evM zcod d 183 [.ref l0] M1) fun M2 =>
  if M2.1.1 = M1.1.1 then
  (evk zcod none d zc_X12_tellOne 260 [] [] M2) else none) else none) else none) else none) else none) else none) else none) else none :=
  (blk_ok zcod none d zc_X12_tellOne [(122, .aload_n 0, 123, [], none), (123, .getfield 64, 126, [12, 29, 2, 621, 0], none), (126, .aload_n 0, 127, [], none), (127, .getfield 260, 130, [12, 19, 0, 712, 0], none), (130, .iaload, 131, [20], none), (131, .iconst 5, 132, [], none), (132, .invokevirtual 288, 135, [175, 2, 0, 12, 727, 728, 729, 662], none), (135, .aload_n 0, 136, [], none), (136, .getfield 227, 139, [12, 13, 0, 693, 0], none), (139, .ifCond .ne 121, 142, [260], none), (142, .aload_n 0, 143, [], none), (143, .invokevirtual 298, 146, [183, 0, 0, 12, 736, 737, 738, 662], none), (146, .goto 114, 149, [260], none)] (121, .aload_n 0, 122, [], some [0]) (by decide +kernel) _ _ _).trans rfl
theorem B_X12_tellOne_149 (d : Nat) (M : zM) (l0 : Nat) :
  evk zcod none d zc_X12_tellOne 149 [(0, .ref l0)] [] M =
  if gK M l0 = 12 then
  (if gK M l0 = 12 then
  (if gK M l0 = 12 then
  (bI (evM zcod d 176 [.ref l0, .int (1 : Int32), .int (99 : Int32)] M) fun x1 M1 =>
  if M1.1.1 = M.1.1 then
  (if gK M1 (gR M l0 33) = 20 ∧ zin (gI M l0 19) (gN M1 (gR M l0 33)) then
  (evk zcod none d zc_X12_tellOne 260 [] [] (sI M1 (gR M l0 33) (zix (gI M l0 19)) x1)) else none) else none) else none) else none) else none :=
  (blk_ok zcod none d zc_X12_tellOne [(150, .getfield 76, 153, [12, 33, 2, 625, 0], none), (153, .aload_n 0, 154, [], none), (154, .getfield 260, 157, [12, 19, 0, 712, 0], none), (157, .aload_n 0, 158, [], none), (158, .iconst 1, 159, [], none), (159, .bipush 99, 161, [], none), (161, .invokevirtual 301, 164, [176, 2, 1, 12, 739, 740, 741, 662], none), (164, .iastore, 165, [20], none), (165, .goto 95, 168, [260], none)] (149, .aload_n 0, 150, [], some [0]) (by decide +kernel) _ _ _).trans rfl
theorem B_X12_tellOne_168 (d : Nat) (M : zM) (l0 : Nat) :
  evk zcod none d zc_X12_tellOne 168 [(0, .ref l0)] [] M =
  if gK M l0 = 12 then
  (if gK M l0 = 12 then
  (if gK M l0 = 12 then
  (bI (evM zcod d 176 [.ref l0, .int (0 : Int32), .int (100 : Int32)] M) fun x1 M1 =>
  if M1.1.1 = M.1.1 then
  (if gK M1 (gR M l0 34) = 20 ∧ zin (gI M l0 19) (gN M1 (gR M l0 34)) then
  (evk zcod none d zc_X12_tellOne 260 [] [] (sI M1 (gR M l0 34) (zix (gI M l0 19)) x1)) else none) else none) else none) else none) else none :=
  (blk_ok zcod none d zc_X12_tellOne [(169, .getfield 79, 172, [12, 34, 2, 626, 0], none), (172, .aload_n 0, 173, [], none), (173, .getfield 260, 176, [12, 19, 0, 712, 0], none), (176, .aload_n 0, 177, [], none), (177, .iconst 0, 178, [], none), (178, .bipush 100, 180, [], none), (180, .invokevirtual 301, 183, [176, 2, 1, 12, 739, 740, 741, 662], none), (183, .iastore, 184, [20], none), (184, .goto 76, 187, [260], none)] (168, .aload_n 0, 169, [], some [0]) (by decide +kernel) _ _ _).trans rfl
theorem B_X12_tellOne_187 (d : Nat) (M : zM) (l0 : Nat) :
  evk zcod none d zc_X12_tellOne 187 [(0, .ref l0)] [] M =
  if gK M l0 = 12 then
  (if gK M l0 = 12 then
  (if gK M l0 = 12 then
  (bI (evM zcod d 176 [.ref l0, .int (0 : Int32), .int (9999 : Int32)] M) fun x1 M1 =>
  if M1.1.1 = M.1.1 then
  (if gK M1 (gR M l0 35) = 20 ∧ zin (gI M l0 19) (gN M1 (gR M l0 35)) then
  (evk zcod none d zc_X12_tellOne 260 [] [] (sI M1 (gR M l0 35) (zix (gI M l0 19)) x1)) else none) else none) else none) else none) else none :=
  (blk_ok zcod none d zc_X12_tellOne [(188, .getfield 82, 191, [12, 35, 2, 627, 0], none), (191, .aload_n 0, 192, [], none), (192, .getfield 260, 195, [12, 19, 0, 712, 0], none), (195, .aload_n 0, 196, [], none), (196, .iconst 0, 197, [], none), (197, .sipush 9999, 200, [], none), (200, .invokevirtual 301, 203, [176, 2, 1, 12, 739, 740, 741, 662], none), (203, .iastore, 204, [20], none), (204, .goto 56, 207, [260], none)] (187, .aload_n 0, 188, [], some [0]) (by decide +kernel) _ _ _).trans rfl
theorem B_X12_tellOne_207 (d : Nat) (M : zM) (l0 : Nat) :
  evk zcod none d zc_X12_tellOne 207 [(0, .ref l0)] [] M =
  if gK M l0 = 12 then
  (if gK M l0 = 12 then
  (if gK M (gR M l0 5) = 20 ∧ zin (gI M l0 11) (gN M (gR M l0 5)) then
  (if ((gI M (gR M l0 5) (zix (gI M l0 11))) - (23 : Int32)) < 0 then
  evk zcod none d zc_X12_tellOne 238 [(0, .ref l0), (1, .int ((gI M (gR M l0 5) (zix (gI M l0 11))) - (23 : Int32)))] [] M
  else
  if gK M l0 = 12 then
  (if gK M l0 = 12 then
  (if gK M (gR M l0 5) = 20 ∧ zin (gI M l0 11) (gN M (gR M l0 5)) then
  (if (gI M (gR M l0 5) (zix (gI M l0 11))) ≤ (26 : Int32) then
  evk zcod none d zc_X12_tellOne 243 [(0, .ref l0), (1, .int ((gI M (gR M l0 5) (zix (gI M l0 11))) - (23 : Int32)))] [] M
  else
  evk zcod none d zc_X12_tellOne 238 [(0, .ref l0), (1, .int ((gI M (gR M l0 5) (zix (gI M l0 11))) - (23 : Int32)))] [] M) else none) else none) else none) else none) else none) else none :=
  (blk_ok zcod none d zc_X12_tellOne [(208, .getfield 20, 211, [12, 5, 2, 607, 0], none), (211, .aload_n 0, 212, [], none), (212, .getfield 230, 215, [12, 11, 0, 694, 0], none), (215, .iaload, 216, [20], none), (216, .bipush 23, 218, [], none), (218, .isub, 219, [], none), (219, .istore_n 1, 220, [], none), (220, .iload_n 1, 221, [], none), (221, .ifCond .lt 17, 224, [238], none), (224, .aload_n 0, 225, [], none), (225, .getfield 20, 228, [12, 5, 2, 607, 0], none), (228, .aload_n 0, 229, [], none), (229, .getfield 230, 232, [12, 11, 0, 694, 0], none), (232, .iaload, 233, [20], none), (233, .bipush 26, 235, [], none), (235, .if_icmp .le 8, 238, [243], none)] (207, .aload_n 0, 208, [], some [0]) (by decide +kernel) _ _ _).trans rfl
theorem B_X12_tellOne_238 (d : Nat) (M : zM) (l0 : Nat) (l1 : Int32) :
  evk zcod none d zc_X12_tellOne 238 [(0, .ref l0), (1, .int l1)] [] M =
  if gK M l0 = 12 then
  (bV (evM zcod d 168 [.ref l0, .int (1 : Int32)] M) fun M1 =>
  if M1.1.1 = M.1.1 then
  (evk zcod none d zc_X12_tellOne 243 [(0, .ref l0), (1, .int l1)] [] M1) else none) else none :=
  (blk_ok zcod none d zc_X12_tellOne [(239, .iconst 1, 240, [], none), (240, .invokevirtual 242, 243, [168, 1, 0, 12, 698, 699, 700, 662], none)] (238, .aload_n 0, 239, [], some [0, 1]) (by decide +kernel) _ _ _).trans rfl
theorem B_X12_tellOne_243 (d : Nat) (M : zM) (l0 : Nat) (l1 : Int32) :
  evk zcod none d zc_X12_tellOne 243 [(0, .ref l0), (1, .int l1)] [] M =
  if gK M l0 = 12 then
  (if (gI M l0 13) ≤ 0 then
  evk zcod none d zc_X12_tellOne 251 [(0, .ref l0), (1, .int l1)] [] M
  else
  some (none, M)) else none :=
  (blk_ok zcod none d zc_X12_tellOne [(244, .getfield 227, 247, [12, 13, 0, 693, 0], none), (247, .ifCond .le 4, 250, [251], none), (250, .return_, 251, [], none)] (243, .aload_n 0, 244, [], some [0, 1]) (by decide +kernel) _ _ _).trans rfl
theorem B_X12_tellOne_251 (d : Nat) (M : zM) (l0 : Nat) (l1 : Int32) :
  evk zcod none d zc_X12_tellOne 251 [(0, .ref l0), (1, .int l1)] [] M =
  if gK M l0 = 12 then
  (bV (evM zcod d 170 [.ref l0] M) fun M1 =>
  if M1.1.1 = M.1.1 then
  (if gK M1 l0 = 12 then
  (bV (evM zcod d 184 [.ref l0, .int l1] M1) fun M2 =>
  if M2.1.1 = M1.1.1 then
  (evk zcod none d zc_X12_tellOne 260 [] [] M2) else none) else none) else none) else none :=
  (blk_ok zcod none d zc_X12_tellOne [(252, .invokevirtual 248, 255, [170, 0, 0, 12, 704, 705, 706, 662], none), (255, .aload_n 0, 256, [], none), (256, .iload_n 1, 257, [], none), (257, .invokevirtual 304, 260, [184, 1, 0, 12, 742, 743, 744, 662], none)] (251, .aload_n 0, 252, [], some [0, 1]) (by decide +kernel) _ _ _).trans rfl
theorem B_X12_tellOne_260 (d : Nat) (M : zM)  :
  evk zcod none d zc_X12_tellOne 260 [] [] M =
  some (none, M) :=
  (blk_ok zcod none d zc_X12_tellOne [] (260, .return_, 261, [], some []) (by decide +kernel) _ _ _).trans rfl
theorem E_X12_named (d : Nat) (M : zM) (l0 : Nat) : evM zcod (d + 1) 178 [.ref l0] M = evk zcod none d zc_X12_named 0 [(0, .ref l0)] [] M := evM_eq zcod d 178 _ M (Nat.le_of_ble_eq_true rfl)
theorem B_X12_named_0 (d : Nat) (M : zM) (l0 : Nat) :
  evk zcod none d zc_X12_named 0 [(0, .ref l0)] [] M =
  if gK M l0 = 12 then
  (if gK M l0 = 12 then
  (bV (evM zcod d 171 [.ref l0, .int (1 : Int32)] M) fun M1 =>
  if M1.1.1 = M.1.1 then
  (evk zcod none d zc_X12_named 12 [(0, .ref l0), (1, .int (gI M l0 11)), (2, .int (0 : Int32))] [] M1) else none) else none) else none :=
  (blk_ok zcod none d zc_X12_named [(1, .getfield 230, 4, [12, 11, 0, 694, 0], none), (4, .istore_n 1, 5, [], none), (5, .aload_n 0, 6, [], none), (6, .iconst 1, 7, [], none), (7, .invokevirtual 285, 10, [171, 1, 0, 12, 724, 725, 726, 662], none), (10, .iconst 0, 11, [], none), (11, .istore_n 2, 12, [], none)] (0, .aload_n 0, 1, [], none) (by decide +kernel) _ _ _).trans rfl
theorem B_X12_named_12 (d : Nat) (M : zM) (l0 : Nat) (l1 : Int32) (l2 : Int32) :
  evk zcod none d zc_X12_named 12 [(0, .ref l0), (1, .int l1), (2, .int l2)] [] M =
  if gK M l0 = 12 then
  (if (gI M l0 20) ≤ l2 then
  evk zcod none d zc_X12_named 55 [(1, .int l1)] [] M
  else
  if gK M l0 = 12 then
  (if ¬ (gI M l0 13) = 0 then
  evk zcod none d zc_X12_named 55 [(1, .int l1)] [] M
  else
  if gK M l0 = 12 then
  (if gK M (gR M l0 21) = 23 ∧ zin l2 (gN M (gR M l0 21)) then
  (if gK M l0 = 12 then
  (if gK M (gR M l0 8) = 23 ∧ zin l1 (gN M (gR M l0 8)) then
  (if ¬ (lg_cmp (gL M (gR M l0 21) (zix l2)) (gL M (gR M l0 8) (zix l1))) = 0 then
  evk zcod none d zc_X12_named 49 [(0, .ref l0), (1, .int l1), (2, .int l2)] [] M
  else
  if gK M l0 = 12 then
  (bV (evM zcod d 169 [.ref l0, .int (3 : Int32), .int l1] M) fun M1 =>
  if M1.1.1 = M.1.1 then
  (evk zcod none d zc_X12_named 49 [(0, .ref l0), (1, .int l1), (2, .int l2)] [] M1) else none) else none) else none) else none) else none) else none) else none) else none :=
  (blk_ok zcod none d zc_X12_named [(13, .aload_n 0, 14, [], none), (14, .getfield 263, 17, [12, 20, 0, 713, 0], none), (17, .if_icmp .ge 38, 20, [55], none), (20, .aload_n 0, 21, [], none), (21, .getfield 227, 24, [12, 13, 0, 693, 0], none), (24, .ifCond .ne 31, 27, [55], none), (27, .aload_n 0, 28, [], none), (28, .getfield 40, 31, [12, 21, 2, 613, 0], none), (31, .iload_n 2, 32, [], none), (32, .laload, 33, [23], none), (33, .aload_n 0, 34, [], none), (34, .getfield 30, 37, [12, 8, 2, 610, 0], none), (37, .iload_n 1, 38, [], none), (38, .laload, 39, [23], none), (39, .lcmp, 40, [], none), (40, .ifCond .ne 9, 43, [49], none), (43, .aload_n 0, 44, [], none), (44, .iconst 3, 45, [], none), (45, .iload_n 1, 46, [], none), (46, .invokevirtual 307, 49, [169, 2, 0, 12, 745, 746, 747, 662], none)] (12, .iload_n 2, 13, [], some [0, 1, 2]) (by decide +kernel) _ _ _).trans rfl
theorem B_X12_named_49 (d : Nat) (M : zM) (l0 : Nat) (l1 : Int32) (l2 : Int32) :
  evk zcod none d zc_X12_named 49 [(0, .ref l0), (1, .int l1), (2, .int l2)] [] M =
  evk zcod none d zc_X12_named 12 [(0, .ref l0), (1, .int l1), (2, .int (l2 + 1))] [] M :=
  (blk_ok zcod none d zc_X12_named [(52, .goto (-40), 55, [12], none)] (49, .iinc 2 1, 52, [], some [0, 1, 2]) (by decide +kernel) _ _ _).trans rfl
theorem B_X12_named_55 (d : Nat) (M : zM) (l1 : Int32) :
  evk zcod none d zc_X12_named 55 [(1, .int l1)] [] M =
  some (some (.int l1), M) :=
  (blk_ok zcod none d zc_X12_named [(56, .ireturn, 57, [0], none)] (55, .iload_n 1, 56, [], some [1]) (by decide +kernel) _ _ _).trans rfl
theorem E_X12_ends (d : Nat) (M : zM) (l0 : Nat) (l1 : Int32) : evM zcod (d + 1) 179 [.ref l0, .int l1] M = evk zcod none d zc_X12_ends 0 [(0, .ref l0), (1, .int l1)] [] M := evM_eq zcod d 179 _ M (Nat.le_of_ble_eq_true rfl)
theorem B_X12_ends_0 (d : Nat) (M : zM) (l0 : Nat) (l1 : Int32) :
  evk zcod none d zc_X12_ends 0 [(0, .ref l0), (1, .int l1)] [] M =
  if gK M l0 = 12 then
  (bV (evM zcod d 171 [.ref l0, .int (4 : Int32)] M) fun M1 =>
  if M1.1.1 = M.1.1 then
  (if gK M1 l0 = 12 then
  (if (gI M1 l0 13) ≤ 0 then
  evk zcod none d zc_X12_ends 13 [(0, .ref l0), (1, .int l1)] [] M1
  else
  some (none, M1)) else none) else none) else none :=
  (blk_ok zcod none d zc_X12_ends [(1, .iconst 4, 2, [], none), (2, .invokevirtual 285, 5, [171, 1, 0, 12, 724, 725, 726, 662], none), (5, .aload_n 0, 6, [], none), (6, .getfield 227, 9, [12, 13, 0, 693, 0], none), (9, .ifCond .le 4, 12, [13], none), (12, .return_, 13, [], none)] (0, .aload_n 0, 1, [], none) (by decide +kernel) _ _ _).trans rfl
theorem B_X12_ends_13 (d : Nat) (M : zM) (l0 : Nat) (l1 : Int32) :
  evk zcod none d zc_X12_ends 13 [(0, .ref l0), (1, .int l1)] [] M =
  if gK M l0 = 12 then
  (if gK M l0 = 12 then
  (if gK M l0 = 12 then
  (if gK M (gR M l0 8) = 23 ∧ zin l1 (gN M (gR M l0 8)) then
  (if gK M (gR M l0 21) = 23 ∧ zin (gI M l0 20) (gN M (gR M l0 21)) then
  (if gK (sL M (gR M l0 21) (zix (gI M l0 20)) (gL M (gR M l0 8) (zix l1))) l0 = 12 then
  (if gK (sL M (gR M l0 21) (zix (gI M l0 20)) (gL M (gR M l0 8) (zix l1))) l0 = 12 then
  (some (none, (sI (sL M (gR M l0 21) (zix (gI M l0 20)) (gL M (gR M l0 8) (zix l1))) l0 20 ((gI (sL M (gR M l0 21) (zix (gI M l0 20)) (gL M (gR M l0 8) (zix l1))) l0 20) + (1 : Int32))))) else none) else none) else none) else none) else none) else none) else none :=
  (blk_ok zcod none d zc_X12_ends [(14, .getfield 40, 17, [12, 21, 2, 613, 0], none), (17, .aload_n 0, 18, [], none), (18, .getfield 263, 21, [12, 20, 0, 713, 0], none), (21, .aload_n 0, 22, [], none), (22, .getfield 30, 25, [12, 8, 2, 610, 0], none), (25, .iload_n 1, 26, [], none), (26, .laload, 27, [23], none), (27, .lastore, 28, [23], none), (28, .aload_n 0, 29, [], none), (29, .dup, 30, [], none), (30, .getfield 263, 33, [12, 20, 0, 713, 0], none), (33, .iconst 1, 34, [], none), (34, .iadd, 35, [], none), (35, .putfield 263, 38, [12, 20, 0, 713, 0, 0], none), (38, .return_, 39, [], none)] (13, .aload_n 0, 14, [], some [0, 1]) (by decide +kernel) _ _ _).trans rfl
theorem E_X12_bounded (d : Nat) (M : zM) (l0 : Nat) (l1 : Int32) (l2 : Int32) : evM zcod (d + 1) 180 [.ref l0, .int l1, .int l2] M = evk zcod none d zc_X12_bounded 0 [(0, .ref l0), (1, .int l1), (2, .int l2)] [] M := evM_eq zcod d 180 _ M (Nat.le_of_ble_eq_true rfl)
theorem B_X12_bounded_0 (d : Nat) (M : zM) (l0 : Nat) (l1 : Int32) (l2 : Int32) :
  evk zcod none d zc_X12_bounded 0 [(0, .ref l0), (1, .int l1), (2, .int l2)] [] M =
  if gK M l0 = 12 then
  (if 0 < (gI M l0 13) then
  evk zcod none d zc_X12_bounded 15 [(0, .ref l0), (1, .int l1)] [] M
  else
  if gK M l0 = 12 then
  (bI (evM zcod d 167 [.ref l0, .int (2 : Int32)] M) fun x1 M1 =>
  if M1.1.1 = M.1.1 then
  (if ¬ x1 = 0 then
  evk zcod none d zc_X12_bounded 22 [(0, .ref l0), (1, .int l1), (2, .int l2)] [] M1
  else
  evk zcod none d zc_X12_bounded 15 [(0, .ref l0), (1, .int l1)] [] M1) else none) else none) else none :=
  (blk_ok zcod none d zc_X12_bounded [(1, .getfield 227, 4, [12, 13, 0, 693, 0], none), (4, .ifCond .gt 11, 7, [15], none), (7, .aload_n 0, 8, [], none), (8, .iconst 2, 9, [], none), (9, .invokevirtual 245, 12, [167, 1, 1, 12, 701, 702, 703, 662], none), (12, .ifCond .ne 10, 15, [22], none)] (0, .aload_n 0, 1, [], none) (by decide +kernel) _ _ _).trans rfl
theorem B_X12_bounded_15 (d : Nat) (M : zM) (l0 : Nat) (l1 : Int32) :
  evk zcod none d zc_X12_bounded 15 [(0, .ref l0), (1, .int l1)] [] M =
  if gK M l0 = 12 then
  (bV (evM zcod d 168 [.ref l0, .int (1 : Int32)] M) fun M1 =>
  if M1.1.1 = M.1.1 then
  (some (some (.int l1), M1)) else none) else none :=
  (blk_ok zcod none d zc_X12_bounded [(16, .iconst 1, 17, [], none), (17, .invokevirtual 242, 20, [168, 1, 0, 12, 698, 699, 700, 662], none), (20, .iload_n 1, 21, [], none), (21, .ireturn, 22, [0], none)] (15, .aload_n 0, 16, [], some [0, 1]) (by decide +kernel) _ _ _).trans rfl
theorem B_X12_bounded_22 (d : Nat) (M : zM) (l0 : Nat) (l1 : Int32) (l2 : Int32) :
  evk zcod none d zc_X12_bounded 22 [(0, .ref l0), (1, .int l1), (2, .int l2)] [] M =
  if gK M l0 = 12 then
  (if gK M l0 = 12 then
  (if gK M (gR M l0 7) = 20 ∧ zin (gI M l0 11) (gN M (gR M l0 7)) then
  (if (gI M (gR M l0 7) (zix (gI M l0 11))) < l1 then
  evk zcod none d zc_X12_bounded 42 [(0, .ref l0), (3, .int (gI M (gR M l0 7) (zix (gI M l0 11))))] [] M
  else
  if (gI M (gR M l0 7) (zix (gI M l0 11))) ≤ l2 then
  evk zcod none d zc_X12_bounded 51 [(0, .ref l0), (3, .int (gI M (gR M l0 7) (zix (gI M l0 11))))] [] M
  else
  evk zcod none d zc_X12_bounded 42 [(0, .ref l0), (3, .int (gI M (gR M l0 7) (zix (gI M l0 11))))] [] M) else none) else none) else none :=
  (blk_ok zcod none d zc_X12_bounded [(23, .getfield 27, 26, [12, 7, 2, 609, 0], none), (26, .aload_n 0, 27, [], none), (27, .getfield 230, 30, [12, 11, 0, 694, 0], none), (30, .iaload, 31, [20], none), (31, .istore_n 3, 32, [], none), (32, .iload_n 3, 33, [], none), (33, .iload_n 1, 34, [], none), (34, .if_icmp .lt 8, 37, [42], none), (37, .iload_n 3, 38, [], none), (38, .iload_n 2, 39, [], none), (39, .if_icmp .le 12, 42, [51], none)] (22, .aload_n 0, 23, [], some [0, 1, 2]) (by decide +kernel) _ _ _).trans rfl
theorem B_X12_bounded_42 (d : Nat) (M : zM) (l0 : Nat) (l3 : Int32) :
  evk zcod none d zc_X12_bounded 42 [(0, .ref l0), (3, .int l3)] [] M =
  if gK M l0 = 12 then
  (if gK M l0 = 12 then
  (bV (evM zcod d 169 [.ref l0, .int (5 : Int32), .int (gI M l0 11)] M) fun M1 =>
  if M1.1.1 = M.1.1 then
  (evk zcod none d zc_X12_bounded 51 [(0, .ref l0), (3, .int l3)] [] M1) else none) else none) else none :=
  (blk_ok zcod none d zc_X12_bounded [(43, .iconst 5, 44, [], none), (44, .aload_n 0, 45, [], none), (45, .getfield 230, 48, [12, 11, 0, 694, 0], none), (48, .invokevirtual 307, 51, [169, 2, 0, 12, 745, 746, 747, 662], none)] (42, .aload_n 0, 43, [], some [0, 3]) (by decide +kernel) _ _ _).trans rfl
theorem B_X12_bounded_51 (d : Nat) (M : zM) (l0 : Nat) (l3 : Int32) :
  evk zcod none d zc_X12_bounded 51 [(0, .ref l0), (3, .int l3)] [] M =
  if gK M l0 = 12 then
  (bV (evM zcod d 170 [.ref l0] M) fun M1 =>
  if M1.1.1 = M.1.1 then
  (some (some (.int l3), M1)) else none) else none :=
  (blk_ok zcod none d zc_X12_bounded [(52, .invokevirtual 248, 55, [170, 0, 0, 12, 704, 705, 706, 662], none), (55, .iload_n 3, 56, [], none), (56, .ireturn, 57, [0], none)] (51, .aload_n 0, 52, [], some [0, 3]) (by decide +kernel) _ _ _).trans rfl
theorem E_X12_tellLoad (d : Nat) (M : zM) (l0 : Nat) : evM zcod (d + 1) 181 [.ref l0] M = evk zcod none d zc_X12_tellLoad 0 [(0, .ref l0)] [] M := evM_eq zcod d 181 _ M (Nat.le_of_ble_eq_true rfl)
theorem B_X12_tellLoad_0 (d : Nat) (M : zM) (l0 : Nat) :
  evk zcod none d zc_X12_tellLoad 0 [(0, .ref l0)] [] M =
  if gK M l0 = 12 then
  (if gK M l0 = 12 then
  (if gK M l0 = 12 then
  (if gK M (gR M l0 22) = 20 ∧ zin (gI M l0 19) (gN M (gR M l0 22)) then
  (if gK M l0 = 12 then
  (bI (evM zcod d 178 [.ref l0] M) fun x1 M1 =>
  if M1.1.1 = M.1.1 then
  (if gK M1 l0 = 12 then
  (if gK M1 l0 = 12 then
  (bI (evM zcod d 180 [.ref l0, .int (0 : Int32), .int (19 : Int32)] M1) fun x2 M2 =>
  if M2.1.1 = M1.1.1 then
  (if gK M2 (gR M1 l0 23) = 20 ∧ zin (((7 : Int32) * (gI M l0 19)) + (gI M (gR M l0 22) (zix (gI M l0 19)))) (gN M2 (gR M1 l0 23)) then
  (if gK (sI M2 (gR M1 l0 23) (zix (((7 : Int32) * (gI M l0 19)) + (gI M (gR M l0 22) (zix (gI M l0 19))))) x2) l0 = 12 then
  (if gK (sI M2 (gR M1 l0 23) (zix (((7 : Int32) * (gI M l0 19)) + (gI M (gR M l0 22) (zix (gI M l0 19))))) x2) l0 = 12 then
  (bI (evM zcod d 180 [.ref l0, .int (1 : Int32), .int (9 : Int32)] (sI M2 (gR M1 l0 23) (zix (((7 : Int32) * (gI M l0 19)) + (gI M (gR M l0 22) (zix (gI M l0 19))))) x2)) fun x3 M3 =>
  if M3.1.1 = (sI M2 (gR M1 l0 23) (zix (((7 : Int32) * (gI M l0 19)) + (gI M (gR M l0 22) (zix (gI M l0 19))))) x2).1.1 then
  (if gK M3 (gR (sI M2 (gR M1 l0 23) (zix (((7 : Int32) * (gI M l0 19)) + (gI M (gR M l0 22) (zix (gI M l0 19))))) x2) l0 24) = 20 ∧ zin (((7 : Int32) * (gI M l0 19)) + (gI M (gR M l0 22) (zix (gI M l0 19)))) (gN M3 (gR (sI M2 (gR M1 l0 23) (zix (((7 : Int32) * (gI M l0 19)) + (gI M (gR M l0 22) (zix (gI M l0 19))))) x2) l0 24)) then
  (evk zcod none d zc_X12_tellLoad 49 [(0, .ref l0), (1, .int (((7 : Int32) * (gI M l0 19)) + (gI M (gR M l0 22) (zix (gI M l0 19))))), (2, .int x1)] [] (sI M3 (gR (sI M2 (gR M1 l0 23) (zix (((7 : Int32) * (gI M l0 19)) + (gI M (gR M l0 22) (zix (gI M l0 19))))) x2) l0 24) (zix (((7 : Int32) * (gI M l0 19)) + (gI M (gR M l0 22) (zix (gI M l0 19))))) x3)) else none) else none) else none) else none) else none) else none) else none) else none) else none) else none) else none) else none) else none) else none :=
  (blk_ok zcod none d zc_X12_tellLoad [(2, .aload_n 0, 3, [], none), (3, .getfield 260, 6, [12, 19, 0, 712, 0], none), (6, .imul, 7, [], none), (7, .aload_n 0, 8, [], none), (8, .getfield 43, 11, [12, 22, 2, 614, 0], none), (11, .aload_n 0, 12, [], none), (12, .getfield 260, 15, [12, 19, 0, 712, 0], none), (15, .iaload, 16, [20], none), (16, .iadd, 17, [], none), (17, .istore_n 1, 18, [], none), (18, .aload_n 0, 19, [], none), (19, .invokevirtual 310, 22, [178, 0, 1, 12, 748, 749, 750, 662], none), (22, .istore_n 2, 23, [], none), (23, .aload_n 0, 24, [], none), (24, .getfield 46, 27, [12, 23, 2, 615, 0], none), (27, .iload_n 1, 28, [], none), (28, .aload_n 0, 29, [], none), (29, .iconst 0, 30, [], none), (30, .bipush 19, 32, [], none), (32, .invokevirtual 281, 35, [180, 2, 1, 12, 721, 722, 723, 662], none), (35, .iastore, 36, [20], none), (36, .aload_n 0, 37, [], none), (37, .getfield 49, 40, [12, 24, 2, 616, 0], none), (40, .iload_n 1, 41, [], none), (41, .aload_n 0, 42, [], none), (42, .iconst 1, 43, [], none), (43, .bipush 9, 45, [], none), (45, .invokevirtual 281, 48, [180, 2, 1, 12, 721, 722, 723, 662], none), (48, .iastore, 49, [20], none)] (0, .bipush 7, 2, [], none) (by decide +kernel) _ _ _).trans rfl
theorem B_X12_tellLoad_49 (d : Nat) (M : zM) (l0 : Nat) (l1 : Int32) (l2 : Int32) :
  evk zcod none d zc_X12_tellLoad 49 [(0, .ref l0), (1, .int l1), (2, .int l2)] [] M =
  if gK M l0 = 12 then
  (if gK M l0 = 12 then
  (bI (evM zcod d 180 [.ref l0, .int (0 : Int32), .int (99 : Int32)] M) fun x1 M1 =>
  if M1.1.1 = M.1.1 then
  (if gK M1 (gR M l0 25) = 20 ∧ zin l1 (gN M1 (gR M l0 25)) then
  (if gK (sI M1 (gR M l0 25) (zix l1) x1) l0 = 12 then
  (bV (evM zcod d 179 [.ref l0, .int l2] (sI M1 (gR M l0 25) (zix l1) x1)) fun M2 =>
  if M2.1.1 = (sI M1 (gR M l0 25) (zix l1) x1).1.1 then
  (if gK M2 l0 = 12 then
  (if ¬ (gI M2 l0 13) = 0 then
  evk zcod none d zc_X12_tellLoad 87 [] [] M2
  else
  if gK M2 l0 = 12 then
  (if gK M2 l0 = 12 then
  (if gK M2 (gR M2 l0 22) = 20 ∧ zin (gI M2 l0 19) (gN M2 (gR M2 l0 22)) then
  (if gK M2 (gR M2 l0 22) = 20 ∧ zin (gI M2 l0 19) (gN M2 (gR M2 l0 22)) then
  (evk zcod none d zc_X12_tellLoad 87 [] [] (sI M2 (gR M2 l0 22) (zix (gI M2 l0 19)) ((gI M2 (gR M2 l0 22) (zix (gI M2 l0 19))) + (1 : Int32)))) else none) else none) else none) else none) else none) else none) else none) else none) else none) else none) else none :=
  (blk_ok zcod none d zc_X12_tellLoad [(50, .getfield 52, 53, [12, 25, 2, 617, 0], none), (53, .iload_n 1, 54, [], none), (54, .aload_n 0, 55, [], none), (55, .iconst 0, 56, [], none), (56, .bipush 99, 58, [], none), (58, .invokevirtual 281, 61, [180, 2, 1, 12, 721, 722, 723, 662], none), (61, .iastore, 62, [20], none), (62, .aload_n 0, 63, [], none), (63, .iload_n 2, 64, [], none), (64, .invokevirtual 314, 67, [179, 1, 0, 12, 751, 752, 753, 662], none), (67, .aload_n 0, 68, [], none), (68, .getfield 227, 71, [12, 13, 0, 693, 0], none), (71, .ifCond .ne 16, 74, [87], none), (74, .aload_n 0, 75, [], none), (75, .getfield 43, 78, [12, 22, 2, 614, 0], none), (78, .aload_n 0, 79, [], none), (79, .getfield 260, 82, [12, 19, 0, 712, 0], none), (82, .dup2, 83, [], none), (83, .iaload, 84, [20], none), (84, .iconst 1, 85, [], none), (85, .iadd, 86, [], none), (86, .iastore, 87, [20], none)] (49, .aload_n 0, 50, [], some [0, 1, 2]) (by decide +kernel) _ _ _).trans rfl
theorem B_X12_tellLoad_87 (d : Nat) (M : zM)  :
  evk zcod none d zc_X12_tellLoad 87 [] [] M =
  some (none, M) :=
  (blk_ok zcod none d zc_X12_tellLoad [] (87, .return_, 88, [], some []) (by decide +kernel) _ _ _).trans rfl
theorem E_X12_tellSilk (d : Nat) (M : zM) (l0 : Nat) : evM zcod (d + 1) 182 [.ref l0] M = evk zcod none d zc_X12_tellSilk 0 [(0, .ref l0)] [] M := evM_eq zcod d 182 _ M (Nat.le_of_ble_eq_true rfl)
theorem B_X12_tellSilk_0 (d : Nat) (M : zM) (l0 : Nat) :
  evk zcod none d zc_X12_tellSilk 0 [(0, .ref l0)] [] M =
  if gK M l0 = 12 then
  (if gK M l0 = 12 then
  (if gK M l0 = 12 then
  (if gK M (gR M l0 26) = 20 ∧ zin (gI M l0 19) (gN M (gR M l0 26)) then
  (if gK M l0 = 12 then
  (bI (evM zcod d 178 [.ref l0] M) fun x1 M1 =>
  if M1.1.1 = M.1.1 then
  (if gK M1 l0 = 12 then
  (if gK M1 l0 = 12 then
  (bI (evM zcod d 180 [.ref l0, .int (1 : Int32), .int (9 : Int32)] M1) fun x2 M2 =>
  if M2.1.1 = M1.1.1 then
  (if gK M2 (gR M1 l0 27) = 20 ∧ zin (((5 : Int32) * (gI M l0 19)) + (gI M (gR M l0 26) (zix (gI M l0 19)))) (gN M2 (gR M1 l0 27)) then
  (if gK (sI M2 (gR M1 l0 27) (zix (((5 : Int32) * (gI M l0 19)) + (gI M (gR M l0 26) (zix (gI M l0 19))))) x2) l0 = 12 then
  (if ¬ (gI (sI M2 (gR M1 l0 27) (zix (((5 : Int32) * (gI M l0 19)) + (gI M (gR M l0 26) (zix (gI M l0 19))))) x2) l0 13) = 0 then
  evk zcod none d zc_X12_tellSilk 55 [(0, .ref l0), (1, .int (((5 : Int32) * (gI M l0 19)) + (gI M (gR M l0 26) (zix (gI M l0 19))))), (2, .int x1)] [] (sI M2 (gR M1 l0 27) (zix (((5 : Int32) * (gI M l0 19)) + (gI M (gR M l0 26) (zix (gI M l0 19))))) x2)
  else
  if gK (sI M2 (gR M1 l0 27) (zix (((5 : Int32) * (gI M l0 19)) + (gI M (gR M l0 26) (zix (gI M l0 19))))) x2) l0 = 12 then
  (bI (evM zcod d 167 [.ref l0, .int (9 : Int32)] (sI M2 (gR M1 l0 27) (zix (((5 : Int32) * (gI M l0 19)) + (gI M (gR M l0 26) (zix (gI M l0 19))))) x2)) fun x3 M3 =>
  if M3.1.1 = (sI M2 (gR M1 l0 27) (zix (((5 : Int32) * (gI M l0 19)) + (gI M (gR M l0 26) (zix (gI M l0 19))))) x2).1.1 then
  (if x3 = 0 then
  evk zcod none d zc_X12_tellSilk 55 [(0, .ref l0), (1, .int (((5 : Int32) * (gI M l0 19)) + (gI M (gR M l0 26) (zix (gI M l0 19))))), (2, .int x1)] [] M3
  else
  evk zcod none d zc_X12_tellSilk 51 [(0, .ref l0), (1, .int (((5 : Int32) * (gI M l0 19)) + (gI M (gR M l0 26) (zix (gI M l0 19))))), (2, .int x1)] [] M3) else none) else none) else none) else none) else none) else none) else none) else none) else none) else none) else none) else none) else none :=
  (blk_ok zcod none d zc_X12_tellSilk [(1, .aload_n 0, 2, [], none), (2, .getfield 260, 5, [12, 19, 0, 712, 0], none), (5, .imul, 6, [], none), (6, .aload_n 0, 7, [], none), (7, .getfield 55, 10, [12, 26, 2, 618, 0], none), (10, .aload_n 0, 11, [], none), (11, .getfield 260, 14, [12, 19, 0, 712, 0], none), (14, .iaload, 15, [20], none), (15, .iadd, 16, [], none), (16, .istore_n 1, 17, [], none), (17, .aload_n 0, 18, [], none), (18, .invokevirtual 310, 21, [178, 0, 1, 12, 748, 749, 750, 662], none), (21, .istore_n 2, 22, [], none), (22, .aload_n 0, 23, [], none), (23, .getfield 58, 26, [12, 27, 2, 619, 0], none), (26, .iload_n 1, 27, [], none), (27, .aload_n 0, 28, [], none), (28, .iconst 1, 29, [], none), (29, .bipush 9, 31, [], none), (31, .invokevirtual 281, 34, [180, 2, 1, 12, 721, 722, 723, 662], none), (34, .iastore, 35, [20], none), (35, .aload_n 0, 36, [], none), (36, .getfield 227, 39, [12, 13, 0, 693, 0], none), (39, .ifCond .ne 16, 42, [55], none), (42, .aload_n 0, 43, [], none), (43, .bipush 9, 45, [], none), (45, .invokevirtual 245, 48, [167, 1, 1, 12, 701, 702, 703, 662], none), (48, .ifCond .eq 7, 51, [55], none)] (0, .iconst 5, 1, [], none) (by decide +kernel) _ _ _).trans rfl
theorem B_X12_tellSilk_51 (d : Nat) (M : zM) (l0 : Nat) (l1 : Int32) (l2 : Int32) :
  evk zcod none d zc_X12_tellSilk 51 [(0, .ref l0), (1, .int l1), (2, .int l2)] [] M =
  evk zcod none d zc_X12_tellSilk 56 [(0, .ref l0), (1, .int l1), (2, .int l2)] [.int (1 : Int32)] M :=
  (blk_ok zcod none d zc_X12_tellSilk [(52, .goto 4, 55, [56], none)] (51, .iconst 1, 52, [], some [0, 1, 2]) (by decide +kernel) _ _ _).trans rfl
theorem B_X12_tellSilk_55 (d : Nat) (M : zM) (l0 : Nat) (l1 : Int32) (l2 : Int32) :
  evk zcod none d zc_X12_tellSilk 55 [(0, .ref l0), (1, .int l1), (2, .int l2)] [] M =
  evk zcod none d zc_X12_tellSilk 56 [(0, .ref l0), (1, .int l1), (2, .int l2)] [.int (0 : Int32)] M :=
  (blk_ok zcod none d zc_X12_tellSilk [] (55, .iconst 0, 56, [], some [0, 1, 2]) (by decide +kernel) _ _ _).trans rfl
theorem B_X12_tellSilk_56 (d : Nat) (M : zM) (l0 : Nat) (l1 : Int32) (l2 : Int32) (s0 : Int32) :
  evk zcod none d zc_X12_tellSilk 56 [(0, .ref l0), (1, .int l1), (2, .int l2)] [.int s0] M =
  if s0 = 0 then
  evk zcod none d zc_X12_tellSilk 65 [(0, .ref l0), (1, .int l1), (2, .int l2), (3, .int s0)] [] M
  else
  if gK M l0 = 12 then
  (bV (evM zcod d 170 [.ref l0] M) fun M1 =>
  if M1.1.1 = M.1.1 then
  (evk zcod none d zc_X12_tellSilk 65 [(0, .ref l0), (1, .int l1), (2, .int l2), (3, .int s0)] [] M1) else none) else none :=
  (blk_ok zcod none d zc_X12_tellSilk [(57, .iload_n 3, 58, [], none), (58, .ifCond .eq 7, 61, [65], none), (61, .aload_n 0, 62, [], none), (62, .invokevirtual 248, 65, [170, 0, 0, 12, 704, 705, 706, 662], none)] (56, .istore_n 3, 57, [], some [0, 1, 2]) (by decide +kernel) _ _ _).trans rfl
theorem B_X12_tellSilk_65 (d : Nat) (M : zM) (l0 : Nat) (l1 : Int32) (l2 : Int32) (l3 : Int32) :
  evk zcod none d zc_X12_tellSilk 65 [(0, .ref l0), (1, .int l1), (2, .int l2), (3, .int l3)] [] M =
  if gK M l0 = 12 then
  (bI (evM zcod d 180 [.ref l0, .int (0 : Int32), .int (3 : Int32)] M) fun x1 M1 =>
  if M1.1.1 = M.1.1 then
  (if gK M1 l0 = 12 then
  (if l3 = 0 then
  evk zcod none d zc_X12_tellSilk 88 [(0, .ref l0), (2, .int l2), (4, .int x1)] [.int l1, .ref (gR M1 l0 28)] M1
  else
  evk zcod none d zc_X12_tellSilk 90 [(0, .ref l0), (2, .int l2)] [.int (-x1), .int l1, .ref (gR M1 l0 28)] M1) else none) else none) else none :=
  (blk_ok zcod none d zc_X12_tellSilk [(66, .iconst 0, 67, [], none), (67, .iconst 3, 68, [], none), (68, .invokevirtual 281, 71, [180, 2, 1, 12, 721, 722, 723, 662], none), (71, .istore 4, 73, [], none), (73, .aload_n 0, 74, [], none), (74, .getfield 61, 77, [12, 28, 2, 620, 0], none), (77, .iload_n 1, 78, [], none), (78, .iload_n 3, 79, [], none), (79, .ifCond .eq 9, 82, [88], none), (82, .iload 4, 84, [], none), (84, .ineg, 85, [], none), (85, .goto 5, 88, [90], none)] (65, .aload_n 0, 66, [], some [0, 1, 2, 3]) (by decide +kernel) _ _ _).trans rfl
theorem B_X12_tellSilk_88 (d : Nat) (M : zM) (l0 : Nat) (l2 : Int32) (l4 : Int32) (s0 : Nat) (s1 : Int32) :
  evk zcod none d zc_X12_tellSilk 88 [(0, .ref l0), (2, .int l2), (4, .int l4)] [.int s1, .ref s0] M =
  evk zcod none d zc_X12_tellSilk 90 [(0, .ref l0), (2, .int l2)] [.int l4, .int s1, .ref s0] M :=
  (blk_ok zcod none d zc_X12_tellSilk [] (88, .iload 4, 90, [], some [0, 2, 4]) (by decide +kernel) _ _ _).trans rfl
theorem B_X12_tellSilk_90 (d : Nat) (M : zM) (l0 : Nat) (l2 : Int32) (s0 : Nat) (s1 : Int32) (s2 : Int32) :
  evk zcod none d zc_X12_tellSilk 90 [(0, .ref l0), (2, .int l2)] [.int s2, .int s1, .ref s0] M =
  if gK M s0 = 20 ∧ zin s1 (gN M s0) then
  (if gK (sI M s0 (zix s1) s2) l0 = 12 then
  (bV (evM zcod d 179 [.ref l0, .int l2] (sI M s0 (zix s1) s2)) fun M1 =>
  if M1.1.1 = (sI M s0 (zix s1) s2).1.1 then
  (if gK M1 l0 = 12 then
  (if ¬ (gI M1 l0 13) = 0 then
  evk zcod none d zc_X12_tellSilk 116 [] [] M1
  else
  if gK M1 l0 = 12 then
  (if gK M1 l0 = 12 then
  (if gK M1 (gR M1 l0 26) = 20 ∧ zin (gI M1 l0 19) (gN M1 (gR M1 l0 26)) then
  (if gK M1 (gR M1 l0 26) = 20 ∧ zin (gI M1 l0 19) (gN M1 (gR M1 l0 26)) then
  (evk zcod none d zc_X12_tellSilk 116 [] [] (sI M1 (gR M1 l0 26) (zix (gI M1 l0 19)) ((gI M1 (gR M1 l0 26) (zix (gI M1 l0 19))) + (1 : Int32)))) else none) else none) else none) else none) else none) else none) else none) else none :=
  (blk_ok zcod none d zc_X12_tellSilk [(91, .aload_n 0, 92, [], none), (92, .iload_n 2, 93, [], none), (93, .invokevirtual 314, 96, [179, 1, 0, 12, 751, 752, 753, 662], none), (96, .aload_n 0, 97, [], none), (97, .getfield 227, 100, [12, 13, 0, 693, 0], none), (100, .ifCond .ne 16, 103, [116], none), (103, .aload_n 0, 104, [], none), (104, .getfield 55, 107, [12, 26, 2, 618, 0], none), (107, .aload_n 0, 108, [], none), (108, .getfield 260, 111, [12, 19, 0, 712, 0], none), (111, .dup2, 112, [], none), (112, .iaload, 113, [20], none), (113, .iconst 1, 114, [], none), (114, .iadd, 115, [], none), (115, .iastore, 116, [20], none)] (90, .iastore, 91, [20], some [0, 2]) (by decide +kernel) _ _ _).trans rfl
theorem B_X12_tellSilk_116 (d : Nat) (M : zM)  :
  evk zcod none d zc_X12_tellSilk 116 [] [] M =
  some (none, M) :=
  (blk_ok zcod none d zc_X12_tellSilk [] (116, .return_, 117, [], some []) (by decide +kernel) _ _ _).trans rfl
theorem E_X12_tellHook (d : Nat) (M : zM) (l0 : Nat) : evM zcod (d + 1) 183 [.ref l0] M = evk zcod none d zc_X12_tellHook 0 [(0, .ref l0)] [] M := evM_eq zcod d 183 _ M (Nat.le_of_ble_eq_true rfl)
theorem B_X12_tellHook_0 (d : Nat) (M : zM) (l0 : Nat) :
  evk zcod none d zc_X12_tellHook 0 [(0, .ref l0)] [] M =
  if gK M l0 = 12 then
  (if gK M l0 = 12 then
  (if gK M l0 = 12 then
  (if gK M (gR M l0 29) = 20 ∧ zin (gI M l0 19) (gN M (gR M l0 29)) then
  (if gK M l0 = 12 then
  (bI (evM zcod d 178 [.ref l0] M) fun x1 M1 =>
  if M1.1.1 = M.1.1 then
  (if gK M1 l0 = 12 then
  (if gK M1 l0 = 12 then
  (bI (evM zcod d 180 [.ref l0, .int (0 : Int32), .int (19 : Int32)] M1) fun x2 M2 =>
  if M2.1.1 = M1.1.1 then
  (if gK M2 (gR M1 l0 30) = 20 ∧ zin (((5 : Int32) * (gI M l0 19)) + (gI M (gR M l0 29) (zix (gI M l0 19)))) (gN M2 (gR M1 l0 30)) then
  (if gK (sI M2 (gR M1 l0 30) (zix (((5 : Int32) * (gI M l0 19)) + (gI M (gR M l0 29) (zix (gI M l0 19))))) x2) l0 = 12 then
  (if gK (sI M2 (gR M1 l0 30) (zix (((5 : Int32) * (gI M l0 19)) + (gI M (gR M l0 29) (zix (gI M l0 19))))) x2) l0 = 12 then
  (bI (evM zcod d 180 [.ref l0, .int (0 : Int32), .int (5 : Int32)] (sI M2 (gR M1 l0 30) (zix (((5 : Int32) * (gI M l0 19)) + (gI M (gR M l0 29) (zix (gI M l0 19))))) x2)) fun x3 M3 =>
  if M3.1.1 = (sI M2 (gR M1 l0 30) (zix (((5 : Int32) * (gI M l0 19)) + (gI M (gR M l0 29) (zix (gI M l0 19))))) x2).1.1 then
  (if gK M3 (gR (sI M2 (gR M1 l0 30) (zix (((5 : Int32) * (gI M l0 19)) + (gI M (gR M l0 29) (zix (gI M l0 19))))) x2) l0 31) = 20 ∧ zin (((5 : Int32) * (gI M l0 19)) + (gI M (gR M l0 29) (zix (gI M l0 19)))) (gN M3 (gR (sI M2 (gR M1 l0 30) (zix (((5 : Int32) * (gI M l0 19)) + (gI M (gR M l0 29) (zix (gI M l0 19))))) x2) l0 31)) then
  (evk zcod none d zc_X12_tellHook 47 [(0, .ref l0), (1, .int (((5 : Int32) * (gI M l0 19)) + (gI M (gR M l0 29) (zix (gI M l0 19))))), (2, .int x1)] [] (sI M3 (gR (sI M2 (gR M1 l0 30) (zix (((5 : Int32) * (gI M l0 19)) + (gI M (gR M l0 29) (zix (gI M l0 19))))) x2) l0 31) (zix (((5 : Int32) * (gI M l0 19)) + (gI M (gR M l0 29) (zix (gI M l0 19))))) x3)) else none) else none) else none) else none) else none) else none) else none) else none) else none) else none) else none) else none) else none) else none :=
  (blk_ok zcod none d zc_X12_tellHook [(1, .aload_n 0, 2, [], none), (2, .getfield 260, 5, [12, 19, 0, 712, 0], none), (5, .imul, 6, [], none), (6, .aload_n 0, 7, [], none), (7, .getfield 64, 10, [12, 29, 2, 621, 0], none), (10, .aload_n 0, 11, [], none), (11, .getfield 260, 14, [12, 19, 0, 712, 0], none), (14, .iaload, 15, [20], none), (15, .iadd, 16, [], none), (16, .istore_n 1, 17, [], none), (17, .aload_n 0, 18, [], none), (18, .invokevirtual 310, 21, [178, 0, 1, 12, 748, 749, 750, 662], none), (21, .istore_n 2, 22, [], none), (22, .aload_n 0, 23, [], none), (23, .getfield 67, 26, [12, 30, 2, 622, 0], none), (26, .iload_n 1, 27, [], none), (27, .aload_n 0, 28, [], none), (28, .iconst 0, 29, [], none), (29, .bipush 19, 31, [], none), (31, .invokevirtual 281, 34, [180, 2, 1, 12, 721, 722, 723, 662], none), (34, .iastore, 35, [20], none), (35, .aload_n 0, 36, [], none), (36, .getfield 70, 39, [12, 31, 2, 623, 0], none), (39, .iload_n 1, 40, [], none), (40, .aload_n 0, 41, [], none), (41, .iconst 0, 42, [], none), (42, .iconst 5, 43, [], none), (43, .invokevirtual 281, 46, [180, 2, 1, 12, 721, 722, 723, 662], none), (46, .iastore, 47, [20], none)] (0, .iconst 5, 1, [], none) (by decide +kernel) _ _ _).trans rfl
theorem B_X12_tellHook_47 (d : Nat) (M : zM) (l0 : Nat) (l1 : Int32) (l2 : Int32) :
  evk zcod none d zc_X12_tellHook 47 [(0, .ref l0), (1, .int l1), (2, .int l2)] [] M =
  if gK M l0 = 12 then
  (if gK M l0 = 12 then
  (bI (evM zcod d 180 [.ref l0, .int (1 : Int32), .int (9 : Int32)] M) fun x1 M1 =>
  if M1.1.1 = M.1.1 then
  (if gK M1 (gR M l0 32) = 20 ∧ zin l1 (gN M1 (gR M l0 32)) then
  (if gK (sI M1 (gR M l0 32) (zix l1) x1) l0 = 12 then
  (bV (evM zcod d 179 [.ref l0, .int l2] (sI M1 (gR M l0 32) (zix l1) x1)) fun M2 =>
  if M2.1.1 = (sI M1 (gR M l0 32) (zix l1) x1).1.1 then
  (if gK M2 l0 = 12 then
  (if ¬ (gI M2 l0 13) = 0 then
  evk zcod none d zc_X12_tellHook 85 [] [] M2
  else
  if gK M2 l0 = 12 then
  (if gK M2 l0 = 12 then
  (if gK M2 (gR M2 l0 29) = 20 ∧ zin (gI M2 l0 19) (gN M2 (gR M2 l0 29)) then
  (if gK M2 (gR M2 l0 29) = 20 ∧ zin (gI M2 l0 19) (gN M2 (gR M2 l0 29)) then
  (evk zcod none d zc_X12_tellHook 85 [] [] (sI M2 (gR M2 l0 29) (zix (gI M2 l0 19)) ((gI M2 (gR M2 l0 29) (zix (gI M2 l0 19))) + (1 : Int32)))) else none) else none) else none) else none) else none) else none) else none) else none) else none) else none) else none :=
  (blk_ok zcod none d zc_X12_tellHook [(48, .getfield 73, 51, [12, 32, 2, 624, 0], none), (51, .iload_n 1, 52, [], none), (52, .aload_n 0, 53, [], none), (53, .iconst 1, 54, [], none), (54, .bipush 9, 56, [], none), (56, .invokevirtual 281, 59, [180, 2, 1, 12, 721, 722, 723, 662], none), (59, .iastore, 60, [20], none), (60, .aload_n 0, 61, [], none), (61, .iload_n 2, 62, [], none), (62, .invokevirtual 314, 65, [179, 1, 0, 12, 751, 752, 753, 662], none), (65, .aload_n 0, 66, [], none), (66, .getfield 227, 69, [12, 13, 0, 693, 0], none), (69, .ifCond .ne 16, 72, [85], none), (72, .aload_n 0, 73, [], none), (73, .getfield 64, 76, [12, 29, 2, 621, 0], none), (76, .aload_n 0, 77, [], none), (77, .getfield 260, 80, [12, 19, 0, 712, 0], none), (80, .dup2, 81, [], none), (81, .iaload, 82, [20], none), (82, .iconst 1, 83, [], none), (83, .iadd, 84, [], none), (84, .iastore, 85, [20], none)] (47, .aload_n 0, 48, [], some [0, 1, 2]) (by decide +kernel) _ _ _).trans rfl
theorem B_X12_tellHook_85 (d : Nat) (M : zM)  :
  evk zcod none d zc_X12_tellHook 85 [] [] M =
  some (none, M) :=
  (blk_ok zcod none d zc_X12_tellHook [] (85, .return_, 86, [], some []) (by decide +kernel) _ _ _).trans rfl
theorem E_X12_tellLaw (d : Nat) (M : zM) (l0 : Nat) (l1 : Int32) : evM zcod (d + 1) 184 [.ref l0, .int l1] M = evk zcod none d zc_X12_tellLaw 0 [(0, .ref l0), (1, .int l1)] [] M := evM_eq zcod d 184 _ M (Nat.le_of_ble_eq_true rfl)
theorem B_X12_tellLaw_0 (d : Nat) (M : zM) (l0 : Nat) (l1 : Int32) :
  evk zcod none d zc_X12_tellLaw 0 [(0, .ref l0), (1, .int l1)] [] M =
  if gK M l0 = 12 then
  (bV (evM zcod d 171 [.ref l0, .int (5 : Int32)] M) fun M1 =>
  if M1.1.1 = M.1.1 then
  (if gK M1 l0 = 12 then
  (evk zcod none d zc_X12_tellLaw 12 [(0, .ref l0), (1, .int l1), (2, .int (gI M1 l0 38)), (3, .int (0 : Int32))] [] M1) else none) else none) else none :=
  (blk_ok zcod none d zc_X12_tellLaw [(1, .iconst 5, 2, [], none), (2, .invokevirtual 285, 5, [171, 1, 0, 12, 724, 725, 726, 662], none), (5, .aload_n 0, 6, [], none), (6, .getfield 266, 9, [12, 38, 0, 714, 0], none), (9, .istore_n 2, 10, [], none), (10, .iconst 0, 11, [], none), (11, .istore_n 3, 12, [], none)] (0, .aload_n 0, 1, [], none) (by decide +kernel) _ _ _).trans rfl
theorem B_X12_tellLaw_12 (d : Nat) (M : zM) (l0 : Nat) (l1 : Int32) (l2 : Int32) (l3 : Int32) :
  evk zcod none d zc_X12_tellLaw 12 [(0, .ref l0), (1, .int l1), (2, .int l2), (3, .int l3)] [] M =
  if gK M l0 = 12 then
  (if ¬ (gI M l0 13) = 0 then
  evk zcod none d zc_X12_tellLaw 129 [(0, .ref l0), (1, .int l1), (2, .int l2)] [] M
  else
  if gK M l0 = 12 then
  (bI (evM zcod d 167 [.ref l0, .int (30 : Int32)] M) fun x1 M1 =>
  if M1.1.1 = M.1.1 then
  (if x1 = 0 then
  evk zcod none d zc_X12_tellLaw 129 [(0, .ref l0), (1, .int l1), (2, .int l2)] [] M1
  else
  if ¬ l3 = (4 : Int32) then
  evk zcod none d zc_X12_tellLaw 38 [(0, .ref l0), (1, .int l1), (2, .int l2), (3, .int l3)] [] M1
  else
  if gK M1 l0 = 12 then
  (bV (evM zcod d 168 [.ref l0, .int (2 : Int32)] M1) fun M2 =>
  if M2.1.1 = M1.1.1 then
  (evk zcod none d zc_X12_tellLaw 38 [(0, .ref l0), (1, .int l1), (2, .int l2), (3, .int l3)] [] M2) else none) else none) else none) else none) else none :=
  (blk_ok zcod none d zc_X12_tellLaw [(13, .getfield 227, 16, [12, 13, 0, 693, 0], none), (16, .ifCond .ne 113, 19, [129], none), (19, .aload_n 0, 20, [], none), (20, .bipush 30, 22, [], none), (22, .invokevirtual 245, 25, [167, 1, 1, 12, 701, 702, 703, 662], none), (25, .ifCond .eq 104, 28, [129], none), (28, .iload_n 3, 29, [], none), (29, .iconst 4, 30, [], none), (30, .if_icmp .ne 8, 33, [38], none), (33, .aload_n 0, 34, [], none), (34, .iconst 2, 35, [], none), (35, .invokevirtual 242, 38, [168, 1, 0, 12, 698, 699, 700, 662], none)] (12, .aload_n 0, 13, [], some [0, 1, 2, 3]) (by decide +kernel) _ _ _).trans rfl
theorem B_X12_tellLaw_38 (d : Nat) (M : zM) (l0 : Nat) (l1 : Int32) (l2 : Int32) (l3 : Int32) :
  evk zcod none d zc_X12_tellLaw 38 [(0, .ref l0), (1, .int l1), (2, .int l2), (3, .int l3)] [] M =
  if gK M l0 = 12 then
  (if (gI M l0 13) ≤ 0 then
  evk zcod none d zc_X12_tellLaw 46 [(0, .ref l0), (1, .int l1), (2, .int l2), (3, .int l3)] [] M
  else
  some (none, M)) else none :=
  (blk_ok zcod none d zc_X12_tellLaw [(39, .getfield 227, 42, [12, 13, 0, 693, 0], none), (42, .ifCond .le 4, 45, [46], none), (45, .return_, 46, [], none)] (38, .aload_n 0, 39, [], some [0, 1, 2, 3]) (by decide +kernel) _ _ _).trans rfl
theorem B_X12_tellLaw_46 (d : Nat) (M : zM) (l0 : Nat) (l1 : Int32) (l2 : Int32) (l3 : Int32) :
  evk zcod none d zc_X12_tellLaw 46 [(0, .ref l0), (1, .int l1), (2, .int l2), (3, .int l3)] [] M =
  if gK M l0 = 12 then
  (bV (evM zcod d 170 [.ref l0] M) fun M1 =>
  if M1.1.1 = M.1.1 then
  (if gK M1 l0 = 12 then
  (if gK M1 l0 = 12 then
  (if gK M1 (gR M1 l0 39) = 22 ∧ zin (gI M1 l0 38) (gN M1 (gR M1 l0 39)) then
  (if gK (sI M1 (gR M1 l0 39) (zix (gI M1 l0 38)) ((1 : Int32) &&& 1)) l0 = 12 then
  (if gK (sI M1 (gR M1 l0 39) (zix (gI M1 l0 38)) ((1 : Int32) &&& 1)) l0 = 12 then
  (if gK (sI M1 (gR M1 l0 39) (zix (gI M1 l0 38)) ((1 : Int32) &&& 1)) l0 = 12 then
  (if gK (sI M1 (gR M1 l0 39) (zix (gI M1 l0 38)) ((1 : Int32) &&& 1)) (gR (sI M1 (gR M1 l0 39) (zix (gI M1 l0 38)) ((1 : Int32) &&& 1)) l0 40) = 20 ∧ zin (gI (sI M1 (gR M1 l0 39) (zix (gI M1 l0 38)) ((1 : Int32) &&& 1)) l0 38) (gN (sI M1 (gR M1 l0 39) (zix (gI M1 l0 38)) ((1 : Int32) &&& 1)) (gR (sI M1 (gR M1 l0 39) (zix (gI M1 l0 38)) ((1 : Int32) &&& 1)) l0 40)) then
  (if gK (sI (sI M1 (gR M1 l0 39) (zix (gI M1 l0 38)) ((1 : Int32) &&& 1)) (gR (sI M1 (gR M1 l0 39) (zix (gI M1 l0 38)) ((1 : Int32) &&& 1)) l0 40) (zix (gI (sI M1 (gR M1 l0 39) (zix (gI M1 l0 38)) ((1 : Int32) &&& 1)) l0 38)) (gI (sI M1 (gR M1 l0 39) (zix (gI M1 l0 38)) ((1 : Int32) &&& 1)) l0 44)) l0 = 12 then
  (bV (evM zcod d 188 [.ref l0] (sI (sI M1 (gR M1 l0 39) (zix (gI M1 l0 38)) ((1 : Int32) &&& 1)) (gR (sI M1 (gR M1 l0 39) (zix (gI M1 l0 38)) ((1 : Int32) &&& 1)) l0 40) (zix (gI (sI M1 (gR M1 l0 39) (zix (gI M1 l0 38)) ((1 : Int32) &&& 1)) l0 38)) (gI (sI M1 (gR M1 l0 39) (zix (gI M1 l0 38)) ((1 : Int32) &&& 1)) l0 44))) fun M2 =>
  if M2.1.1 = (sI (sI M1 (gR M1 l0 39) (zix (gI M1 l0 38)) ((1 : Int32) &&& 1)) (gR (sI M1 (gR M1 l0 39) (zix (gI M1 l0 38)) ((1 : Int32) &&& 1)) l0 40) (zix (gI (sI M1 (gR M1 l0 39) (zix (gI M1 l0 38)) ((1 : Int32) &&& 1)) l0 38)) (gI (sI M1 (gR M1 l0 39) (zix (gI M1 l0 38)) ((1 : Int32) &&& 1)) l0 44)).1.1 then
  (evk zcod none d zc_X12_tellLaw 80 [(0, .ref l0), (1, .int l1), (2, .int l2), (3, .int (l3 + 1))] [] M2) else none) else none) else none) else none) else none) else none) else none) else none) else none) else none) else none :=
  (blk_ok zcod none d zc_X12_tellLaw [(49, .aload_n 0, 50, [], none), (50, .invokevirtual 248, 53, [170, 0, 0, 12, 704, 705, 706, 662], none), (53, .aload_n 0, 54, [], none), (54, .getfield 91, 57, [12, 39, 2, 631, 0], none), (57, .aload_n 0, 58, [], none), (58, .getfield 266, 61, [12, 38, 0, 714, 0], none), (61, .iconst 1, 62, [], none), (62, .bastore, 63, [22], none), (63, .aload_n 0, 64, [], none), (64, .getfield 95, 67, [12, 40, 2, 632, 0], none), (67, .aload_n 0, 68, [], none), (68, .getfield 266, 71, [12, 38, 0, 714, 0], none), (71, .aload_n 0, 72, [], none), (72, .getfield 269, 75, [12, 44, 0, 715, 0], none), (75, .iastore, 76, [20], none), (76, .aload_n 0, 77, [], none), (77, .invokevirtual 317, 80, [188, 0, 0, 12, 754, 755, 756, 662], none)] (46, .iinc 3 1, 49, [], some [0, 1, 2, 3]) (by decide +kernel) _ _ _).trans rfl
theorem B_X12_tellLaw_80 (d : Nat) (M : zM) (l0 : Nat) (l1 : Int32) (l2 : Int32) (l3 : Int32) :
  evk zcod none d zc_X12_tellLaw 80 [(0, .ref l0), (1, .int l1), (2, .int l2), (3, .int l3)] [] M =
  if gK M l0 = 12 then
  (bV (evM zcod d 171 [.ref l0, .int (13 : Int32)] M) fun M1 =>
  if M1.1.1 = M.1.1 then
  (if gK M1 l0 = 12 then
  (if gK M1 l0 = 12 then
  (if gK M1 l0 = 12 then
  (if gK M1 (gR M1 l0 41) = 20 ∧ zin (gI M1 l0 38) (gN M1 (gR M1 l0 41)) then
  (if gK (sI M1 (gR M1 l0 41) (zix (gI M1 l0 38)) (gI M1 l0 44)) l0 = 12 then
  (if ¬ (gI (sI M1 (gR M1 l0 41) (zix (gI M1 l0 38)) (gI M1 l0 44)) l0 13) = 0 then
  evk zcod none d zc_X12_tellLaw 110 [(0, .ref l0), (1, .int l1), (2, .int l2), (3, .int l3)] [] (sI M1 (gR M1 l0 41) (zix (gI M1 l0 38)) (gI M1 l0 44))
  else
  if gK (sI M1 (gR M1 l0 41) (zix (gI M1 l0 38)) (gI M1 l0 44)) l0 = 12 then
  (bV (evM zcod d 188 [.ref l0] (sI M1 (gR M1 l0 41) (zix (gI M1 l0 38)) (gI M1 l0 44))) fun M2 =>
  if M2.1.1 = (sI M1 (gR M1 l0 41) (zix (gI M1 l0 38)) (gI M1 l0 44)).1.1 then
  (evk zcod none d zc_X12_tellLaw 110 [(0, .ref l0), (1, .int l1), (2, .int l2), (3, .int l3)] [] M2) else none) else none) else none) else none) else none) else none) else none) else none) else none :=
  (blk_ok zcod none d zc_X12_tellLaw [(81, .bipush 13, 83, [], none), (83, .invokevirtual 285, 86, [171, 1, 0, 12, 724, 725, 726, 662], none), (86, .aload_n 0, 87, [], none), (87, .getfield 98, 90, [12, 41, 2, 633, 0], none), (90, .aload_n 0, 91, [], none), (91, .getfield 266, 94, [12, 38, 0, 714, 0], none), (94, .aload_n 0, 95, [], none), (95, .getfield 269, 98, [12, 44, 0, 715, 0], none), (98, .iastore, 99, [20], none), (99, .aload_n 0, 100, [], none), (100, .getfield 227, 103, [12, 13, 0, 693, 0], none), (103, .ifCond .ne 7, 106, [110], none), (106, .aload_n 0, 107, [], none), (107, .invokevirtual 317, 110, [188, 0, 0, 12, 754, 755, 756, 662], none)] (80, .aload_n 0, 81, [], some [0, 1, 2, 3]) (by decide +kernel) _ _ _).trans rfl
theorem B_X12_tellLaw_110 (d : Nat) (M : zM) (l0 : Nat) (l1 : Int32) (l2 : Int32) (l3 : Int32) :
  evk zcod none d zc_X12_tellLaw 110 [(0, .ref l0), (1, .int l1), (2, .int l2), (3, .int l3)] [] M =
  if gK M l0 = 12 then
  (bV (evM zcod d 171 [.ref l0, .int (31 : Int32)] M) fun M1 =>
  if M1.1.1 = M.1.1 then
  (if gK M1 l0 = 12 then
  (bV (evM zcod d 185 [.ref l0] M1) fun M2 =>
  if M2.1.1 = M1.1.1 then
  (if gK M2 l0 = 12 then
  (bV (evM zcod d 171 [.ref l0, .int (32 : Int32)] M2) fun M3 =>
  if M3.1.1 = M2.1.1 then
  (evk zcod none d zc_X12_tellLaw 12 [(0, .ref l0), (1, .int l1), (2, .int l2), (3, .int l3)] [] M3) else none) else none) else none) else none) else none) else none :=
  (blk_ok zcod none d zc_X12_tellLaw [(111, .bipush 31, 113, [], none), (113, .invokevirtual 285, 116, [171, 1, 0, 12, 724, 725, 726, 662], none), (116, .aload_n 0, 117, [], none), (117, .invokevirtual 320, 120, [185, 0, 0, 12, 757, 758, 759, 662], none), (120, .aload_n 0, 121, [], none), (121, .bipush 32, 123, [], none), (123, .invokevirtual 285, 126, [171, 1, 0, 12, 724, 725, 726, 662], none), (126, .goto (-114), 129, [12], none)] (110, .aload_n 0, 111, [], some [0, 1, 2, 3]) (by decide +kernel) _ _ _).trans rfl
theorem B_X12_tellLaw_129 (d : Nat) (M : zM) (l0 : Nat) (l1 : Int32) (l2 : Int32) :
  evk zcod none d zc_X12_tellLaw 129 [(0, .ref l0), (1, .int l1), (2, .int l2)] [] M =
  if gK M l0 = 12 then
  (if gK M l0 = 12 then
  (if gK M (gR M l0 39) = 22 ∧ zin (gI M l0 38) (gN M (gR M l0 39)) then
  (if gK (sI M (gR M l0 39) (zix (gI M l0 38)) ((0 : Int32) &&& 1)) l0 = 12 then
  (bV (evM zcod d 185 [.ref l0] (sI M (gR M l0 39) (zix (gI M l0 38)) ((0 : Int32) &&& 1))) fun M1 =>
  if M1.1.1 = (sI M (gR M l0 39) (zix (gI M l0 38)) ((0 : Int32) &&& 1)).1.1 then
  (if gK M1 l0 = 12 then
  (bV (evM zcod d 171 [.ref l0, .int (4 : Int32)] M1) fun M2 =>
  if M2.1.1 = M1.1.1 then
  (if gK M2 l0 = 12 then
  (if (gI M2 l0 13) ≤ 0 then
  evk zcod none d zc_X12_tellLaw 156 [(0, .ref l0), (1, .int l1), (2, .int l2)] [] M2
  else
  some (none, M2)) else none) else none) else none) else none) else none) else none) else none) else none :=
  (blk_ok zcod none d zc_X12_tellLaw [(130, .getfield 91, 133, [12, 39, 2, 631, 0], none), (133, .aload_n 0, 134, [], none), (134, .getfield 266, 137, [12, 38, 0, 714, 0], none), (137, .iconst 0, 138, [], none), (138, .bastore, 139, [22], none), (139, .aload_n 0, 140, [], none), (140, .invokevirtual 320, 143, [185, 0, 0, 12, 757, 758, 759, 662], none), (143, .aload_n 0, 144, [], none), (144, .iconst 4, 145, [], none), (145, .invokevirtual 285, 148, [171, 1, 0, 12, 724, 725, 726, 662], none), (148, .aload_n 0, 149, [], none), (149, .getfield 227, 152, [12, 13, 0, 693, 0], none), (152, .ifCond .le 4, 155, [156], none), (155, .return_, 156, [], none)] (129, .aload_n 0, 130, [], some [0, 1, 2]) (by decide +kernel) _ _ _).trans rfl
theorem B_X12_tellLaw_156 (d : Nat) (M : zM) (l0 : Nat) (l1 : Int32) (l2 : Int32) :
  evk zcod none d zc_X12_tellLaw 156 [(0, .ref l0), (1, .int l1), (2, .int l2)] [] M =
  if gK M l0 = 12 then
  (if gK M l0 = 12 then
  (if gK M (gR M l0 36) = 20 ∧ zin (((4 : Int32) * (gI M l0 19)) + l1) (gN M (gR M l0 36)) then
  (if gK (sI M (gR M l0 36) (zix (((4 : Int32) * (gI M l0 19)) + l1)) l2) l0 = 12 then
  (if gK (sI M (gR M l0 36) (zix (((4 : Int32) * (gI M l0 19)) + l1)) l2) l0 = 12 then
  (if gK (sI M (gR M l0 36) (zix (((4 : Int32) * (gI M l0 19)) + l1)) l2) l0 = 12 then
  (if gK (sI M (gR M l0 36) (zix (((4 : Int32) * (gI M l0 19)) + l1)) l2) (gR (sI M (gR M l0 36) (zix (((4 : Int32) * (gI M l0 19)) + l1)) l2) l0 37) = 20 ∧ zin (((4 : Int32) * (gI (sI M (gR M l0 36) (zix (((4 : Int32) * (gI M l0 19)) + l1)) l2) l0 19)) + l1) (gN (sI M (gR M l0 36) (zix (((4 : Int32) * (gI M l0 19)) + l1)) l2) (gR (sI M (gR M l0 36) (zix (((4 : Int32) * (gI M l0 19)) + l1)) l2) l0 37)) then
  (some (none, (sI (sI M (gR M l0 36) (zix (((4 : Int32) * (gI M l0 19)) + l1)) l2) (gR (sI M (gR M l0 36) (zix (((4 : Int32) * (gI M l0 19)) + l1)) l2) l0 37) (zix (((4 : Int32) * (gI (sI M (gR M l0 36) (zix (((4 : Int32) * (gI M l0 19)) + l1)) l2) l0 19)) + l1)) (gI (sI M (gR M l0 36) (zix (((4 : Int32) * (gI M l0 19)) + l1)) l2) l0 38)))) else none) else none) else none) else none) else none) else none) else none :=
  (blk_ok zcod none d zc_X12_tellLaw [(157, .getfield 85, 160, [12, 36, 2, 628, 0], none), (160, .iconst 4, 161, [], none), (161, .aload_n 0, 162, [], none), (162, .getfield 260, 165, [12, 19, 0, 712, 0], none), (165, .imul, 166, [], none), (166, .iload_n 1, 167, [], none), (167, .iadd, 168, [], none), (168, .iload_n 2, 169, [], none), (169, .iastore, 170, [20], none), (170, .aload_n 0, 171, [], none), (171, .getfield 88, 174, [12, 37, 2, 629, 0], none), (174, .iconst 4, 175, [], none), (175, .aload_n 0, 176, [], none), (176, .getfield 260, 179, [12, 19, 0, 712, 0], none), (179, .imul, 180, [], none), (180, .iload_n 1, 181, [], none), (181, .iadd, 182, [], none), (182, .aload_n 0, 183, [], none), (183, .getfield 266, 186, [12, 38, 0, 714, 0], none), (186, .iastore, 187, [20], none), (187, .return_, 188, [], none)] (156, .aload_n 0, 157, [], some [0, 1, 2]) (by decide +kernel) _ _ _).trans rfl
theorem E_X12_term (d : Nat) (M : zM) (l0 : Nat) : evM zcod (d + 1) 185 [.ref l0] M = evk zcod none d zc_X12_term 0 [(0, .ref l0)] [] M := evM_eq zcod d 185 _ M (Nat.le_of_ble_eq_true rfl)
theorem B_X12_term_0 (d : Nat) (M : zM) (l0 : Nat) :
  evk zcod none d zc_X12_term 0 [(0, .ref l0)] [] M =
  if gK M l0 = 12 then
  (if gK M l0 = 12 then
  (if gK M l0 = 12 then
  (if gK M (gR M l0 42) = 20 ∧ zin (gI M l0 38) (gN M (gR M l0 42)) then
  (if gK (sI M (gR M l0 42) (zix (gI M l0 38)) (gI M l0 44)) l0 = 12 then
  (if ¬ (gI (sI M (gR M l0 42) (zix (gI M l0 38)) (gI M l0 44)) l0 13) = 0 then
  evk zcod none d zc_X12_term 24 [(0, .ref l0)] [] (sI M (gR M l0 42) (zix (gI M l0 38)) (gI M l0 44))
  else
  if gK (sI M (gR M l0 42) (zix (gI M l0 38)) (gI M l0 44)) l0 = 12 then
  (bV (evM zcod d 188 [.ref l0] (sI M (gR M l0 42) (zix (gI M l0 38)) (gI M l0 44))) fun M1 =>
  if M1.1.1 = (sI M (gR M l0 42) (zix (gI M l0 38)) (gI M l0 44)).1.1 then
  (evk zcod none d zc_X12_term 24 [(0, .ref l0)] [] M1) else none) else none) else none) else none) else none) else none) else none :=
  (blk_ok zcod none d zc_X12_term [(1, .getfield 101, 4, [12, 42, 2, 634, 0], none), (4, .aload_n 0, 5, [], none), (5, .getfield 266, 8, [12, 38, 0, 714, 0], none), (8, .aload_n 0, 9, [], none), (9, .getfield 269, 12, [12, 44, 0, 715, 0], none), (12, .iastore, 13, [20], none), (13, .aload_n 0, 14, [], none), (14, .getfield 227, 17, [12, 13, 0, 693, 0], none), (17, .ifCond .ne 7, 20, [24], none), (20, .aload_n 0, 21, [], none), (21, .invokevirtual 317, 24, [188, 0, 0, 12, 754, 755, 756, 662], none)] (0, .aload_n 0, 1, [], none) (by decide +kernel) _ _ _).trans rfl
theorem B_X12_term_24 (d : Nat) (M : zM) (l0 : Nat) :
  evk zcod none d zc_X12_term 24 [(0, .ref l0)] [] M =
  if gK M l0 = 12 then
  (if gK M l0 = 12 then
  (if gK M l0 = 12 then
  (if gK M (gR M l0 43) = 20 ∧ zin (gI M l0 38) (gN M (gR M l0 43)) then
  (if gK (sI M (gR M l0 43) (zix (gI M l0 38)) (gI M l0 44)) l0 = 12 then
  (if gK (sI M (gR M l0 43) (zix (gI M l0 38)) (gI M l0 44)) l0 = 12 then
  (some (none, (sI (sI M (gR M l0 43) (zix (gI M l0 38)) (gI M l0 44)) l0 38 ((gI (sI M (gR M l0 43) (zix (gI M l0 38)) (gI M l0 44)) l0 38) + (1 : Int32))))) else none) else none) else none) else none) else none) else none :=
  (blk_ok zcod none d zc_X12_term [(25, .getfield 104, 28, [12, 43, 2, 635, 0], none), (28, .aload_n 0, 29, [], none), (29, .getfield 266, 32, [12, 38, 0, 714, 0], none), (32, .aload_n 0, 33, [], none), (33, .getfield 269, 36, [12, 44, 0, 715, 0], none), (36, .iastore, 37, [20], none), (37, .aload_n 0, 38, [], none), (38, .dup, 39, [], none), (39, .getfield 266, 42, [12, 38, 0, 714, 0], none), (42, .iconst 1, 43, [], none), (43, .iadd, 44, [], none), (44, .putfield 266, 47, [12, 38, 0, 714, 0, 0], none), (47, .return_, 48, [], none)] (24, .aload_n 0, 25, [], some [0]) (by decide +kernel) _ _ _).trans rfl
theorem E_X12_emit (d : Nat) (M : zM) (l0 : Nat) (l1 : Int32) (l2 : Int32) : evM zcod (d + 1) 186 [.ref l0, .int l1, .int l2] M = evk zcod none d zc_X12_emit 0 [(0, .ref l0), (1, .int l1), (2, .int l2)] [] M := evM_eq zcod d 186 _ M (Nat.le_of_ble_eq_true rfl)
theorem B_X12_emit_0 (d : Nat) (M : zM) (l0 : Nat) (l1 : Int32) (l2 : Int32) :
  evk zcod none d zc_X12_emit 0 [(0, .ref l0), (1, .int l1), (2, .int l2)] [] M =
  if gK M l0 = 12 then
  (if gK M l0 = 12 then
  (if gK M (gR M l0 45) = 20 ∧ zin (gI M l0 44) (gN M (gR M l0 45)) then
  (if gK (sI M (gR M l0 45) (zix (gI M l0 44)) l1) l0 = 12 then
  (if gK (sI M (gR M l0 45) (zix (gI M l0 44)) l1) l0 = 12 then
  (if gK (sI M (gR M l0 45) (zix (gI M l0 44)) l1) (gR (sI M (gR M l0 45) (zix (gI M l0 44)) l1) l0 46) = 20 ∧ zin (gI (sI M (gR M l0 45) (zix (gI M l0 44)) l1) l0 44) (gN (sI M (gR M l0 45) (zix (gI M l0 44)) l1) (gR (sI M (gR M l0 45) (zix (gI M l0 44)) l1) l0 46)) then
  (if gK (sI (sI M (gR M l0 45) (zix (gI M l0 44)) l1) (gR (sI M (gR M l0 45) (zix (gI M l0 44)) l1) l0 46) (zix (gI (sI M (gR M l0 45) (zix (gI M l0 44)) l1) l0 44)) l2) l0 = 12 then
  (if gK (sI (sI M (gR M l0 45) (zix (gI M l0 44)) l1) (gR (sI M (gR M l0 45) (zix (gI M l0 44)) l1) l0 46) (zix (gI (sI M (gR M l0 45) (zix (gI M l0 44)) l1) l0 44)) l2) l0 = 12 then
  (some (none, (sI (sI (sI M (gR M l0 45) (zix (gI M l0 44)) l1) (gR (sI M (gR M l0 45) (zix (gI M l0 44)) l1) l0 46) (zix (gI (sI M (gR M l0 45) (zix (gI M l0 44)) l1) l0 44)) l2) l0 44 ((gI (sI (sI M (gR M l0 45) (zix (gI M l0 44)) l1) (gR (sI M (gR M l0 45) (zix (gI M l0 44)) l1) l0 46) (zix (gI (sI M (gR M l0 45) (zix (gI M l0 44)) l1) l0 44)) l2) l0 44) + (1 : Int32))))) else none) else none) else none) else none) else none) else none) else none) else none :=
  (blk_ok zcod none d zc_X12_emit [(1, .getfield 107, 4, [12, 45, 2, 636, 0], none), (4, .aload_n 0, 5, [], none), (5, .getfield 269, 8, [12, 44, 0, 715, 0], none), (8, .iload_n 1, 9, [], none), (9, .iastore, 10, [20], none), (10, .aload_n 0, 11, [], none), (11, .getfield 110, 14, [12, 46, 2, 637, 0], none), (14, .aload_n 0, 15, [], none), (15, .getfield 269, 18, [12, 44, 0, 715, 0], none), (18, .iload_n 2, 19, [], none), (19, .iastore, 20, [20], none), (20, .aload_n 0, 21, [], none), (21, .dup, 22, [], none), (22, .getfield 269, 25, [12, 44, 0, 715, 0], none), (25, .iconst 1, 26, [], none), (26, .iadd, 27, [], none), (27, .putfield 269, 30, [12, 44, 0, 715, 0, 0], none), (30, .return_, 31, [], none)] (0, .aload_n 0, 1, [], none) (by decide +kernel) _ _ _).trans rfl
theorem E_X12_comesOut (d : Nat) (M : zM) (l0 : Nat) (l1 : Int32) : evM zcod (d + 1) 187 [.ref l0, .int l1] M = evk zcod none d zc_X12_comesOut 0 [(0, .ref l0), (1, .int l1)] [] M := evM_eq zcod d 187 _ M (Nat.le_of_ble_eq_true rfl)
theorem B_X12_comesOut_0 (d : Nat) (M : zM) (l0 : Nat) (l1 : Int32) :
  evk zcod none d zc_X12_comesOut 0 [(0, .ref l0), (1, .int l1)] [] M =
  if gK M l0 = 12 then
  (if (gI M l0 48) ≤ 0 then
  evk zcod none d zc_X12_comesOut 91 [] [] M
  else
  if gK M l0 = 12 then
  (if gK M l0 = 12 then
  (if gK M (gR M l0 47) = 20 ∧ zin ((gI M l0 48) - (1 : Int32)) (gN M (gR M l0 47)) then
  (if (gI M (gR M l0 47) (zix ((gI M l0 48) - (1 : Int32)))) = (6 : Int32) then
  evk zcod none d zc_X12_comesOut 41 [] [] M
  else
  if l1 = 0 then
  evk zcod none d zc_X12_comesOut 42 [(0, .ref l0), (1, .int l1), (2, .int (gI M (gR M l0 47) (zix ((gI M l0 48) - (1 : Int32)))))] [] M
  else
  if (gI M (gR M l0 47) (zix ((gI M l0 48) - (1 : Int32)))) = (8 : Int32) then
  evk zcod none d zc_X12_comesOut 41 [] [] M
  else
  if ¬ (gI M (gR M l0 47) (zix ((gI M l0 48) - (1 : Int32)))) = (9 : Int32) then
  evk zcod none d zc_X12_comesOut 42 [(0, .ref l0), (1, .int l1), (2, .int (gI M (gR M l0 47) (zix ((gI M l0 48) - (1 : Int32)))))] [] M
  else
  evk zcod none d zc_X12_comesOut 41 [] [] M) else none) else none) else none) else none :=
  (blk_ok zcod none d zc_X12_comesOut [(1, .getfield 323, 4, [12, 48, 0, 760, 0], none), (4, .ifCond .le 87, 7, [91], none), (7, .aload_n 0, 8, [], none), (8, .getfield 113, 11, [12, 47, 2, 638, 0], none), (11, .aload_n 0, 12, [], none), (12, .getfield 323, 15, [12, 48, 0, 760, 0], none), (15, .iconst 1, 16, [], none), (16, .isub, 17, [], none), (17, .iaload, 18, [20], none), (18, .istore_n 2, 19, [], none), (19, .iload_n 2, 20, [], none), (20, .bipush 6, 22, [], none), (22, .if_icmp .eq 19, 25, [41], none), (25, .iload_n 1, 26, [], none), (26, .ifCond .eq 16, 29, [42], none), (29, .iload_n 2, 30, [], none), (30, .bipush 8, 32, [], none), (32, .if_icmp .eq 9, 35, [41], none), (35, .iload_n 2, 36, [], none), (36, .bipush 9, 38, [], none), (38, .if_icmp .ne 4, 41, [42], none)] (0, .aload_n 0, 1, [], some [0, 1]) (by decide +kernel) _ _ _).trans rfl
theorem B_X12_comesOut_41 (d : Nat) (M : zM)  :
  evk zcod none d zc_X12_comesOut 41 [] [] M =
  some (none, M) :=
  (blk_ok zcod none d zc_X12_comesOut [] (41, .return_, 42, [], some []) (by decide +kernel) _ _ _).trans rfl
theorem B_X12_comesOut_42 (d : Nat) (M : zM) (l0 : Nat) (l1 : Int32) (l2 : Int32) :
  evk zcod none d zc_X12_comesOut 42 [(0, .ref l0), (1, .int l1), (2, .int l2)] [] M =
  if gK M l0 = 12 then
  (if gK M l0 = 12 then
  (if ¬ l2 = (8 : Int32) then
  evk zcod none d zc_X12_comesOut 63 [(0, .ref l0), (1, .int l1), (2, .int l2)] [.ref l0] (sI M l0 48 ((gI M l0 48) - (1 : Int32)))
  else
  evk zcod none d zc_X12_comesOut 84 [(0, .ref l0), (1, .int l1)] [.int (2 : Int32), .ref l0] (sI M l0 48 ((gI M l0 48) - (1 : Int32)))) else none) else none :=
  (blk_ok zcod none d zc_X12_comesOut [(43, .dup, 44, [], none), (44, .getfield 323, 47, [12, 48, 0, 760, 0], none), (47, .iconst 1, 48, [], none), (48, .isub, 49, [], none), (49, .putfield 323, 52, [12, 48, 0, 760, 0, 0], none), (52, .aload_n 0, 53, [], none), (53, .iload_n 2, 54, [], none), (54, .bipush 8, 56, [], none), (56, .if_icmp .ne 7, 59, [63], none), (59, .iconst 2, 60, [], none), (60, .goto 24, 63, [84], none)] (42, .aload_n 0, 43, [], some [0, 1, 2]) (by decide +kernel) _ _ _).trans rfl
theorem B_X12_comesOut_63 (d : Nat) (M : zM) (l0 : Nat) (l1 : Int32) (l2 : Int32) (s0 : Nat) :
  evk zcod none d zc_X12_comesOut 63 [(0, .ref l0), (1, .int l1), (2, .int l2)] [.ref s0] M =
  if ¬ l2 = (9 : Int32) then
  evk zcod none d zc_X12_comesOut 73 [(0, .ref l0), (1, .int l1), (2, .int l2)] [.ref s0] M
  else
  evk zcod none d zc_X12_comesOut 84 [(0, .ref l0), (1, .int l1)] [.int (3 : Int32), .ref s0] M :=
  (blk_ok zcod none d zc_X12_comesOut [(64, .bipush 9, 66, [], none), (66, .if_icmp .ne 7, 69, [73], none), (69, .iconst 3, 70, [], none), (70, .goto 14, 73, [84], none)] (63, .iload_n 2, 64, [], some [0, 1, 2]) (by decide +kernel) _ _ _).trans rfl
theorem B_X12_comesOut_73 (d : Nat) (M : zM) (l0 : Nat) (l1 : Int32) (l2 : Int32) (s0 : Nat) :
  evk zcod none d zc_X12_comesOut 73 [(0, .ref l0), (1, .int l1), (2, .int l2)] [.ref s0] M =
  if ¬ l2 = (10 : Int32) then
  evk zcod none d zc_X12_comesOut 83 [(0, .ref l0), (1, .int l1)] [.ref s0] M
  else
  evk zcod none d zc_X12_comesOut 84 [(0, .ref l0), (1, .int l1)] [.int (4 : Int32), .ref s0] M :=
  (blk_ok zcod none d zc_X12_comesOut [(74, .bipush 10, 76, [], none), (76, .if_icmp .ne 7, 79, [83], none), (79, .iconst 4, 80, [], none), (80, .goto 4, 83, [84], none)] (73, .iload_n 2, 74, [], some [0, 1, 2]) (by decide +kernel) _ _ _).trans rfl
theorem B_X12_comesOut_83 (d : Nat) (M : zM) (l0 : Nat) (l1 : Int32) (s0 : Nat) :
  evk zcod none d zc_X12_comesOut 83 [(0, .ref l0), (1, .int l1)] [.ref s0] M =
  evk zcod none d zc_X12_comesOut 84 [(0, .ref l0), (1, .int l1)] [.int (5 : Int32), .ref s0] M :=
  (blk_ok zcod none d zc_X12_comesOut [] (83, .iconst 5, 84, [], some [0, 1]) (by decide +kernel) _ _ _).trans rfl
theorem B_X12_comesOut_84 (d : Nat) (M : zM) (l0 : Nat) (l1 : Int32) (s0 : Nat) (s1 : Int32) :
  evk zcod none d zc_X12_comesOut 84 [(0, .ref l0), (1, .int l1)] [.int s1, .ref s0] M =
  if gK M s0 = 12 then
  (bV (evM zcod d 186 [.ref s0, .int s1, .int (0 : Int32)] M) fun M1 =>
  if M1.1.1 = M.1.1 then
  (evk zcod none d zc_X12_comesOut 0 [(0, .ref l0), (1, .int l1)] [] M1) else none) else none :=
  (blk_ok zcod none d zc_X12_comesOut [(85, .invokevirtual 326, 88, [186, 2, 0, 12, 761, 762, 763, 662], none), (88, .goto (-88), 91, [0], none)] (84, .iconst 0, 85, [], some [0, 1]) (by decide +kernel) _ _ _).trans rfl
theorem B_X12_comesOut_91 (d : Nat) (M : zM)  :
  evk zcod none d zc_X12_comesOut 91 [] [] M =
  some (none, M) :=
  (blk_ok zcod none d zc_X12_comesOut [] (91, .return_, 92, [], some []) (by decide +kernel) _ _ _).trans rfl
theorem E_X12_expression (d : Nat) (M : zM) (l0 : Nat) : evM zcod (d + 1) 188 [.ref l0] M = evk zcod none d zc_X12_expression 0 [(0, .ref l0)] [] M := evM_eq zcod d 188 _ M (Nat.le_of_ble_eq_true rfl)
theorem B_X12_expression_0 (d : Nat) (M : zM) (l0 : Nat) :
  evk zcod none d zc_X12_expression 0 [(0, .ref l0)] [] M =
  if gK M l0 = 12 then
  (if gK (sI M l0 48 (0 : Int32)) l0 = 12 then
  (evk zcod none d zc_X12_expression 12 [(0, .ref l0), (1, .int (gI (sI M l0 48 (0 : Int32)) l0 12)), (2, .int (1 : Int32))] [] (sI M l0 48 (0 : Int32))) else none) else none :=
  (blk_ok zcod none d zc_X12_expression [(1, .iconst 0, 2, [], none), (2, .putfield 323, 5, [12, 48, 0, 760, 0, 0], none), (5, .aload_n 0, 6, [], none), (6, .getfield 254, 9, [12, 12, 0, 710, 0], none), (9, .istore_n 1, 10, [], none), (10, .iconst 1, 11, [], none), (11, .istore_n 2, 12, [], none)] (0, .aload_n 0, 1, [], none) (by decide +kernel) _ _ _).trans rfl
theorem B_X12_expression_12 (d : Nat) (M : zM) (l0 : Nat) (l1 : Int32) (l2 : Int32) :
  evk zcod none d zc_X12_expression 12 [(0, .ref l0), (1, .int l1), (2, .int l2)] [] M =
  if l2 = 0 then
  evk zcod none d zc_X12_expression 272 [] [] M
  else
  if gK M l0 = 12 then
  (if ¬ (gI M l0 13) = 0 then
  evk zcod none d zc_X12_expression 272 [] [] M
  else
  evk zcod none d zc_X12_expression 23 [(0, .ref l0), (1, .int l1)] [] M) else none :=
  (blk_ok zcod none d zc_X12_expression [(13, .ifCond .eq 259, 16, [272], none), (16, .aload_n 0, 17, [], none), (17, .getfield 227, 20, [12, 13, 0, 693, 0], none), (20, .ifCond .ne 252, 23, [272], none)] (12, .iload_n 2, 13, [], some [0, 1, 2]) (by decide +kernel) _ _ _).trans rfl
theorem B_X12_expression_23 (d : Nat) (M : zM) (l0 : Nat) (l1 : Int32) :
  evk zcod none d zc_X12_expression 23 [(0, .ref l0), (1, .int l1)] [] M =
  if gK M l0 = 12 then
  (bI (evM zcod d 167 [.ref l0, .int (6 : Int32)] M) fun x1 M1 =>
  if M1.1.1 = M.1.1 then
  (if x1 = 0 then
  evk zcod none d zc_X12_expression 84 [(0, .ref l0), (1, .int l1)] [] M1
  else
  if gK M1 l0 = 12 then
  (if ¬ (gI M1 l0 12) = (6 : Int32) then
  evk zcod none d zc_X12_expression 46 [(0, .ref l0), (1, .int l1)] [] M1
  else
  if gK M1 l0 = 12 then
  (bV (evM zcod d 168 [.ref l0, .int (2 : Int32)] M1) fun M2 =>
  if M2.1.1 = M1.1.1 then
  (evk zcod none d zc_X12_expression 46 [(0, .ref l0), (1, .int l1)] [] M2) else none) else none) else none) else none) else none :=
  (blk_ok zcod none d zc_X12_expression [(24, .bipush 6, 26, [], none), (26, .invokevirtual 245, 29, [167, 1, 1, 12, 701, 702, 703, 662], none), (29, .ifCond .eq 55, 32, [84], none), (32, .aload_n 0, 33, [], none), (33, .getfield 254, 36, [12, 12, 0, 710, 0], none), (36, .bipush 6, 38, [], none), (38, .if_icmp .ne 8, 41, [46], none), (41, .aload_n 0, 42, [], none), (42, .iconst 2, 43, [], none), (43, .invokevirtual 242, 46, [168, 1, 0, 12, 698, 699, 700, 662], none)] (23, .aload_n 0, 24, [], some [0, 1]) (by decide +kernel) _ _ _).trans rfl
theorem B_X12_expression_46 (d : Nat) (M : zM) (l0 : Nat) (l1 : Int32) :
  evk zcod none d zc_X12_expression 46 [(0, .ref l0), (1, .int l1)] [] M =
  if gK M l0 = 12 then
  (if gK M l0 = 12 then
  (if gK (sI M l0 12 ((gI M l0 12) + (1 : Int32))) l0 = 12 then
  (bV (evM zcod d 170 [.ref l0] (sI M l0 12 ((gI M l0 12) + (1 : Int32)))) fun M1 =>
  if M1.1.1 = (sI M l0 12 ((gI M l0 12) + (1 : Int32))).1.1 then
  (if gK M1 l0 = 12 then
  (if gK M1 l0 = 12 then
  (if gK M1 (gR M1 l0 47) = 20 ∧ zin (gI M1 l0 48) (gN M1 (gR M1 l0 47)) then
  (if gK (sI M1 (gR M1 l0 47) (zix (gI M1 l0 48)) (6 : Int32)) l0 = 12 then
  (if gK (sI M1 (gR M1 l0 47) (zix (gI M1 l0 48)) (6 : Int32)) l0 = 12 then
  (evk zcod none d zc_X12_expression 81 [(0, .ref l0), (1, .int l1)] [] (sI (sI M1 (gR M1 l0 47) (zix (gI M1 l0 48)) (6 : Int32)) l0 48 ((gI (sI M1 (gR M1 l0 47) (zix (gI M1 l0 48)) (6 : Int32)) l0 48) + (1 : Int32)))) else none) else none) else none) else none) else none) else none) else none) else none) else none :=
  (blk_ok zcod none d zc_X12_expression [(47, .dup, 48, [], none), (48, .getfield 254, 51, [12, 12, 0, 710, 0], none), (51, .iconst 1, 52, [], none), (52, .iadd, 53, [], none), (53, .putfield 254, 56, [12, 12, 0, 710, 0, 0], none), (56, .aload_n 0, 57, [], none), (57, .invokevirtual 248, 60, [170, 0, 0, 12, 704, 705, 706, 662], none), (60, .aload_n 0, 61, [], none), (61, .getfield 113, 64, [12, 47, 2, 638, 0], none), (64, .aload_n 0, 65, [], none), (65, .getfield 323, 68, [12, 48, 0, 760, 0], none), (68, .bipush 6, 70, [], none), (70, .iastore, 71, [20], none), (71, .aload_n 0, 72, [], none), (72, .dup, 73, [], none), (73, .getfield 323, 76, [12, 48, 0, 760, 0], none), (76, .iconst 1, 77, [], none), (77, .iadd, 78, [], none), (78, .putfield 323, 81, [12, 48, 0, 760, 0, 0], none)] (46, .aload_n 0, 47, [], some [0, 1]) (by decide +kernel) _ _ _).trans rfl
theorem B_X12_expression_81 (d : Nat) (M : zM) (l0 : Nat) (l1 : Int32) :
  evk zcod none d zc_X12_expression 81 [(0, .ref l0), (1, .int l1)] [] M =
  evk zcod none d zc_X12_expression 23 [(0, .ref l0), (1, .int l1)] [] M :=
  (blk_ok zcod none d zc_X12_expression [] (81, .goto (-58), 84, [23], some [0, 1]) (by decide +kernel) _ _ _).trans rfl
theorem B_X12_expression_84 (d : Nat) (M : zM) (l0 : Nat) (l1 : Int32) :
  evk zcod none d zc_X12_expression 84 [(0, .ref l0), (1, .int l1)] [] M =
  if gK M l0 = 12 then
  (bV (evM zcod d 189 [.ref l0] M) fun M1 =>
  if M1.1.1 = M.1.1 then
  (if gK M1 l0 = 12 then
  (if (gI M1 l0 13) ≤ 0 then
  evk zcod none d zc_X12_expression 96 [(0, .ref l0), (1, .int l1)] [] M1
  else
  some (none, M1)) else none) else none) else none :=
  (blk_ok zcod none d zc_X12_expression [(85, .invokevirtual 329, 88, [189, 0, 0, 12, 764, 765, 766, 662], none), (88, .aload_n 0, 89, [], none), (89, .getfield 227, 92, [12, 13, 0, 693, 0], none), (92, .ifCond .le 4, 95, [96], none), (95, .return_, 96, [], none)] (84, .aload_n 0, 85, [], some [0, 1]) (by decide +kernel) _ _ _).trans rfl
theorem B_X12_expression_96 (d : Nat) (M : zM) (l0 : Nat) (l1 : Int32) :
  evk zcod none d zc_X12_expression 96 [(0, .ref l0), (1, .int l1)] [] M =
  if gK M l0 = 12 then
  (bI (evM zcod d 167 [.ref l0, .int (7 : Int32)] M) fun x1 M1 =>
  if M1.1.1 = M.1.1 then
  (if x1 = 0 then
  evk zcod none d zc_X12_expression 145 [(0, .ref l0), (1, .int l1)] [] M1
  else
  if gK M1 l0 = 12 then
  (if (gI M1 l0 12) ≤ l1 then
  evk zcod none d zc_X12_expression 145 [(0, .ref l0), (1, .int l1)] [] M1
  else
  if gK M1 l0 = 12 then
  (bV (evM zcod d 187 [.ref l0, .int (0 : Int32)] M1) fun M2 =>
  if M2.1.1 = M1.1.1 then
  (if gK M2 l0 = 12 then
  (if gK M2 l0 = 12 then
  (if gK (sI M2 l0 48 ((gI M2 l0 48) - (1 : Int32))) l0 = 12 then
  (if gK (sI M2 l0 48 ((gI M2 l0 48) - (1 : Int32))) l0 = 12 then
  (evk zcod none d zc_X12_expression 138 [(0, .ref l0), (1, .int l1)] [] (sI (sI M2 l0 48 ((gI M2 l0 48) - (1 : Int32))) l0 12 ((gI (sI M2 l0 48 ((gI M2 l0 48) - (1 : Int32))) l0 12) - (1 : Int32)))) else none) else none) else none) else none) else none) else none) else none) else none) else none :=
  (blk_ok zcod none d zc_X12_expression [(97, .bipush 7, 99, [], none), (99, .invokevirtual 245, 102, [167, 1, 1, 12, 701, 702, 703, 662], none), (102, .ifCond .eq 43, 105, [145], none), (105, .aload_n 0, 106, [], none), (106, .getfield 254, 109, [12, 12, 0, 710, 0], none), (109, .iload_n 1, 110, [], none), (110, .if_icmp .le 35, 113, [145], none), (113, .aload_n 0, 114, [], none), (114, .iconst 0, 115, [], none), (115, .invokevirtual 332, 118, [187, 1, 0, 12, 767, 768, 769, 662], none), (118, .aload_n 0, 119, [], none), (119, .dup, 120, [], none), (120, .getfield 323, 123, [12, 48, 0, 760, 0], none), (123, .iconst 1, 124, [], none), (124, .isub, 125, [], none), (125, .putfield 323, 128, [12, 48, 0, 760, 0, 0], none), (128, .aload_n 0, 129, [], none), (129, .dup, 130, [], none), (130, .getfield 254, 133, [12, 12, 0, 710, 0], none), (133, .iconst 1, 134, [], none), (134, .isub, 135, [], none), (135, .putfield 254, 138, [12, 12, 0, 710, 0, 0], none)] (96, .aload_n 0, 97, [], some [0, 1]) (by decide +kernel) _ _ _).trans rfl
theorem B_X12_expression_138 (d : Nat) (M : zM) (l0 : Nat) (l1 : Int32) :
  evk zcod none d zc_X12_expression 138 [(0, .ref l0), (1, .int l1)] [] M =
  if gK M l0 = 12 then
  (bV (evM zcod d 170 [.ref l0] M) fun M1 =>
  if M1.1.1 = M.1.1 then
  (evk zcod none d zc_X12_expression 96 [(0, .ref l0), (1, .int l1)] [] M1) else none) else none :=
  (blk_ok zcod none d zc_X12_expression [(139, .invokevirtual 248, 142, [170, 0, 0, 12, 704, 705, 706, 662], none), (142, .goto (-46), 145, [96], none)] (138, .aload_n 0, 139, [], some [0, 1]) (by decide +kernel) _ _ _).trans rfl
theorem B_X12_expression_145 (d : Nat) (M : zM) (l0 : Nat) (l1 : Int32) :
  evk zcod none d zc_X12_expression 145 [(0, .ref l0), (1, .int l1)] [] M =
  if gK M l0 = 12 then
  (bI (evM zcod d 167 [.ref l0, .int (8 : Int32)] M) fun x1 M1 =>
  if M1.1.1 = M.1.1 then
  (if ¬ x1 = 0 then
  evk zcod none d zc_X12_expression 181 [(0, .ref l0), (1, .int l1)] [] M1
  else
  if gK M1 l0 = 12 then
  (bI (evM zcod d 167 [.ref l0, .int (9 : Int32)] M1) fun x2 M2 =>
  if M2.1.1 = M1.1.1 then
  (if ¬ x2 = 0 then
  evk zcod none d zc_X12_expression 181 [(0, .ref l0), (1, .int l1)] [] M2
  else
  if gK M2 l0 = 12 then
  (bI (evM zcod d 167 [.ref l0, .int (10 : Int32)] M2) fun x3 M3 =>
  if M3.1.1 = M2.1.1 then
  (if ¬ x3 = 0 then
  evk zcod none d zc_X12_expression 181 [(0, .ref l0), (1, .int l1)] [] M3
  else
  if gK M3 l0 = 12 then
  (bI (evM zcod d 167 [.ref l0, .int (15 : Int32)] M3) fun x4 M4 =>
  if M4.1.1 = M3.1.1 then
  (if x4 = 0 then
  evk zcod none d zc_X12_expression 185 [(0, .ref l0), (1, .int l1)] [] M4
  else
  evk zcod none d zc_X12_expression 181 [(0, .ref l0), (1, .int l1)] [] M4) else none) else none) else none) else none) else none) else none) else none) else none :=
  (blk_ok zcod none d zc_X12_expression [(146, .bipush 8, 148, [], none), (148, .invokevirtual 245, 151, [167, 1, 1, 12, 701, 702, 703, 662], none), (151, .ifCond .ne 30, 154, [181], none), (154, .aload_n 0, 155, [], none), (155, .bipush 9, 157, [], none), (157, .invokevirtual 245, 160, [167, 1, 1, 12, 701, 702, 703, 662], none), (160, .ifCond .ne 21, 163, [181], none), (163, .aload_n 0, 164, [], none), (164, .bipush 10, 166, [], none), (166, .invokevirtual 245, 169, [167, 1, 1, 12, 701, 702, 703, 662], none), (169, .ifCond .ne 12, 172, [181], none), (172, .aload_n 0, 173, [], none), (173, .bipush 15, 175, [], none), (175, .invokevirtual 245, 178, [167, 1, 1, 12, 701, 702, 703, 662], none), (178, .ifCond .eq 7, 181, [185], none)] (145, .aload_n 0, 146, [], some [0, 1]) (by decide +kernel) _ _ _).trans rfl
theorem B_X12_expression_181 (d : Nat) (M : zM) (l0 : Nat) (l1 : Int32) :
  evk zcod none d zc_X12_expression 181 [(0, .ref l0), (1, .int l1)] [] M =
  evk zcod none d zc_X12_expression 186 [(0, .ref l0), (1, .int l1)] [.int (1 : Int32)] M :=
  (blk_ok zcod none d zc_X12_expression [(182, .goto 4, 185, [186], none)] (181, .iconst 1, 182, [], some [0, 1]) (by decide +kernel) _ _ _).trans rfl
theorem B_X12_expression_185 (d : Nat) (M : zM) (l0 : Nat) (l1 : Int32) :
  evk zcod none d zc_X12_expression 185 [(0, .ref l0), (1, .int l1)] [] M =
  evk zcod none d zc_X12_expression 186 [(0, .ref l0), (1, .int l1)] [.int (0 : Int32)] M :=
  (blk_ok zcod none d zc_X12_expression [] (185, .iconst 0, 186, [], some [0, 1]) (by decide +kernel) _ _ _).trans rfl
theorem B_X12_expression_186 (d : Nat) (M : zM) (l0 : Nat) (l1 : Int32) (s0 : Int32) :
  evk zcod none d zc_X12_expression 186 [(0, .ref l0), (1, .int l1)] [.int s0] M =
  if ¬ s0 = 0 then
  evk zcod none d zc_X12_expression 210 [(0, .ref l0), (1, .int l1), (2, .int s0)] [] M
  else
  if gK M l0 = 12 then
  (if (gI M l0 12) ≤ l1 then
  evk zcod none d zc_X12_expression 204 [(0, .ref l0)] [] M
  else
  if gK M l0 = 12 then
  (bV (evM zcod d 168 [.ref l0, .int (1 : Int32)] M) fun M1 =>
  if M1.1.1 = M.1.1 then
  (evk zcod none d zc_X12_expression 204 [(0, .ref l0)] [] M1) else none) else none) else none :=
  (blk_ok zcod none d zc_X12_expression [(187, .iload_n 2, 188, [], none), (188, .ifCond .ne 22, 191, [210], none), (191, .aload_n 0, 192, [], none), (192, .getfield 254, 195, [12, 12, 0, 710, 0], none), (195, .iload_n 1, 196, [], none), (196, .if_icmp .le 8, 199, [204], none), (199, .aload_n 0, 200, [], none), (200, .iconst 1, 201, [], none), (201, .invokevirtual 242, 204, [168, 1, 0, 12, 698, 699, 700, 662], none)] (186, .istore_n 2, 187, [], some [0, 1]) (by decide +kernel) _ _ _).trans rfl
theorem B_X12_expression_204 (d : Nat) (M : zM) (l0 : Nat) :
  evk zcod none d zc_X12_expression 204 [(0, .ref l0)] [] M =
  if gK M l0 = 12 then
  (bV (evM zcod d 187 [.ref l0, .int (0 : Int32)] M) fun M1 =>
  if M1.1.1 = M.1.1 then
  (some (none, M1)) else none) else none :=
  (blk_ok zcod none d zc_X12_expression [(205, .iconst 0, 206, [], none), (206, .invokevirtual 332, 209, [187, 1, 0, 12, 767, 768, 769, 662], none), (209, .return_, 210, [], none)] (204, .aload_n 0, 205, [], some [0]) (by decide +kernel) _ _ _).trans rfl
theorem B_X12_expression_210 (d : Nat) (M : zM) (l0 : Nat) (l1 : Int32) (l2 : Int32) :
  evk zcod none d zc_X12_expression 210 [(0, .ref l0), (1, .int l1), (2, .int l2)] [] M =
  if gK M l0 = 12 then
  (bI (evM zcod d 167 [.ref l0, .int (10 : Int32)] M) fun x1 M1 =>
  if M1.1.1 = M.1.1 then
  (if ¬ x1 = 0 then
  evk zcod none d zc_X12_expression 229 [(0, .ref l0), (1, .int l1), (2, .int l2)] [.ref l0] M1
  else
  if gK M1 l0 = 12 then
  (bI (evM zcod d 167 [.ref l0, .int (15 : Int32)] M1) fun x2 M2 =>
  if M2.1.1 = M1.1.1 then
  (if x2 = 0 then
  evk zcod none d zc_X12_expression 233 [(0, .ref l0), (1, .int l1), (2, .int l2)] [.ref l0] M2
  else
  evk zcod none d zc_X12_expression 229 [(0, .ref l0), (1, .int l1), (2, .int l2)] [.ref l0] M2) else none) else none) else none) else none :=
  (blk_ok zcod none d zc_X12_expression [(211, .aload_n 0, 212, [], none), (212, .bipush 10, 214, [], none), (214, .invokevirtual 245, 217, [167, 1, 1, 12, 701, 702, 703, 662], none), (217, .ifCond .ne 12, 220, [229], none), (220, .aload_n 0, 221, [], none), (221, .bipush 15, 223, [], none), (223, .invokevirtual 245, 226, [167, 1, 1, 12, 701, 702, 703, 662], none), (226, .ifCond .eq 7, 229, [233], none)] (210, .aload_n 0, 211, [], some [0, 1, 2]) (by decide +kernel) _ _ _).trans rfl
theorem B_X12_expression_229 (d : Nat) (M : zM) (l0 : Nat) (l1 : Int32) (l2 : Int32) (s0 : Nat) :
  evk zcod none d zc_X12_expression 229 [(0, .ref l0), (1, .int l1), (2, .int l2)] [.ref s0] M =
  evk zcod none d zc_X12_expression 234 [(0, .ref l0), (1, .int l1), (2, .int l2)] [.int (1 : Int32), .ref s0] M :=
  (blk_ok zcod none d zc_X12_expression [(230, .goto 4, 233, [234], none)] (229, .iconst 1, 230, [], some [0, 1, 2]) (by decide +kernel) _ _ _).trans rfl
theorem B_X12_expression_233 (d : Nat) (M : zM) (l0 : Nat) (l1 : Int32) (l2 : Int32) (s0 : Nat) :
  evk zcod none d zc_X12_expression 233 [(0, .ref l0), (1, .int l1), (2, .int l2)] [.ref s0] M =
  evk zcod none d zc_X12_expression 234 [(0, .ref l0), (1, .int l1), (2, .int l2)] [.int (0 : Int32), .ref s0] M :=
  (blk_ok zcod none d zc_X12_expression [] (233, .iconst 0, 234, [], some [0, 1, 2]) (by decide +kernel) _ _ _).trans rfl
theorem B_X12_expression_234 (d : Nat) (M : zM) (l0 : Nat) (l1 : Int32) (l2 : Int32) (s0 : Nat) (s1 : Int32) :
  evk zcod none d zc_X12_expression 234 [(0, .ref l0), (1, .int l1), (2, .int l2)] [.int s1, .ref s0] M =
  if gK M s0 = 12 then
  (bV (evM zcod d 187 [.ref s0, .int s1] M) fun M1 =>
  if M1.1.1 = M.1.1 then
  (if gK M1 l0 = 12 then
  (if gK M1 l0 = 12 then
  (if gK M1 l0 = 12 then
  (if gK M1 l0 = 12 then
  (if gK M1 (gR M1 l0 5) = 20 ∧ zin (gI M1 l0 11) (gN M1 (gR M1 l0 5)) then
  (if gK M1 (gR M1 l0 47) = 20 ∧ zin (gI M1 l0 48) (gN M1 (gR M1 l0 47)) then
  (if gK (sI M1 (gR M1 l0 47) (zix (gI M1 l0 48)) (gI M1 (gR M1 l0 5) (zix (gI M1 l0 11)))) l0 = 12 then
  (if gK (sI M1 (gR M1 l0 47) (zix (gI M1 l0 48)) (gI M1 (gR M1 l0 5) (zix (gI M1 l0 11)))) l0 = 12 then
  (if gK (sI (sI M1 (gR M1 l0 47) (zix (gI M1 l0 48)) (gI M1 (gR M1 l0 5) (zix (gI M1 l0 11)))) l0 48 ((gI (sI M1 (gR M1 l0 47) (zix (gI M1 l0 48)) (gI M1 (gR M1 l0 5) (zix (gI M1 l0 11)))) l0 48) + (1 : Int32))) l0 = 12 then
  (bV (evM zcod d 170 [.ref l0] (sI (sI M1 (gR M1 l0 47) (zix (gI M1 l0 48)) (gI M1 (gR M1 l0 5) (zix (gI M1 l0 11)))) l0 48 ((gI (sI M1 (gR M1 l0 47) (zix (gI M1 l0 48)) (gI M1 (gR M1 l0 5) (zix (gI M1 l0 11)))) l0 48) + (1 : Int32)))) fun M2 =>
  if M2.1.1 = (sI (sI M1 (gR M1 l0 47) (zix (gI M1 l0 48)) (gI M1 (gR M1 l0 5) (zix (gI M1 l0 11)))) l0 48 ((gI (sI M1 (gR M1 l0 47) (zix (gI M1 l0 48)) (gI M1 (gR M1 l0 5) (zix (gI M1 l0 11)))) l0 48) + (1 : Int32))).1.1 then
  (evk zcod none d zc_X12_expression 269 [(0, .ref l0), (1, .int l1), (2, .int l2)] [] M2) else none) else none) else none) else none) else none) else none) else none) else none) else none) else none) else none) else none :=
  (blk_ok zcod none d zc_X12_expression [(237, .aload_n 0, 238, [], none), (238, .getfield 113, 241, [12, 47, 2, 638, 0], none), (241, .aload_n 0, 242, [], none), (242, .getfield 323, 245, [12, 48, 0, 760, 0], none), (245, .aload_n 0, 246, [], none), (246, .getfield 20, 249, [12, 5, 2, 607, 0], none), (249, .aload_n 0, 250, [], none), (250, .getfield 230, 253, [12, 11, 0, 694, 0], none), (253, .iaload, 254, [20], none), (254, .iastore, 255, [20], none), (255, .aload_n 0, 256, [], none), (256, .dup, 257, [], none), (257, .getfield 323, 260, [12, 48, 0, 760, 0], none), (260, .iconst 1, 261, [], none), (261, .iadd, 262, [], none), (262, .putfield 323, 265, [12, 48, 0, 760, 0, 0], none), (265, .aload_n 0, 266, [], none), (266, .invokevirtual 248, 269, [170, 0, 0, 12, 704, 705, 706, 662], none)] (234, .invokevirtual 332, 237, [187, 1, 0, 12, 767, 768, 769, 662], some [0, 1, 2]) (by decide +kernel) _ _ _).trans rfl
theorem B_X12_expression_269 (d : Nat) (M : zM) (l0 : Nat) (l1 : Int32) (l2 : Int32) :
  evk zcod none d zc_X12_expression 269 [(0, .ref l0), (1, .int l1), (2, .int l2)] [] M =
  evk zcod none d zc_X12_expression 12 [(0, .ref l0), (1, .int l1), (2, .int l2)] [] M :=
  (blk_ok zcod none d zc_X12_expression [] (269, .goto (-257), 272, [12], some [0, 1, 2]) (by decide +kernel) _ _ _).trans rfl
theorem B_X12_expression_272 (d : Nat) (M : zM)  :
  evk zcod none d zc_X12_expression 272 [] [] M =
  some (none, M) :=
  (blk_ok zcod none d zc_X12_expression [] (272, .return_, 273, [], some []) (by decide +kernel) _ _ _).trans rfl
theorem E_X12_unit (d : Nat) (M : zM) (l0 : Nat) : evM zcod (d + 1) 189 [.ref l0] M = evk zcod none d zc_X12_unit 0 [(0, .ref l0)] [] M := evM_eq zcod d 189 _ M (Nat.le_of_ble_eq_true rfl)
theorem B_X12_unit_0 (d : Nat) (M : zM) (l0 : Nat) :
  evk zcod none d zc_X12_unit 0 [(0, .ref l0)] [] M =
  if gK M l0 = 12 then
  (bI (evM zcod d 167 [.ref l0, .int (2 : Int32)] M) fun x1 M1 =>
  if M1.1.1 = M.1.1 then
  (if x1 = 0 then
  evk zcod none d zc_X12_unit 29 [(0, .ref l0)] [] M1
  else
  if gK M1 l0 = 12 then
  (if gK M1 l0 = 12 then
  (if gK M1 (gR M1 l0 7) = 20 ∧ zin (gI M1 l0 11) (gN M1 (gR M1 l0 7)) then
  (if gK M1 l0 = 12 then
  (bV (evM zcod d 186 [.ref l0, .int (0 : Int32), .int (gI M1 (gR M1 l0 7) (zix (gI M1 l0 11)))] M1) fun M2 =>
  if M2.1.1 = M1.1.1 then
  (if gK M2 l0 = 12 then
  (bV (evM zcod d 170 [.ref l0] M2) fun M3 =>
  if M3.1.1 = M2.1.1 then
  (evk zcod none d zc_X12_unit 93 [] [] M3) else none) else none) else none) else none) else none) else none) else none) else none) else none :=
  (blk_ok zcod none d zc_X12_unit [(1, .iconst 2, 2, [], none), (2, .invokevirtual 245, 5, [167, 1, 1, 12, 701, 702, 703, 662], none), (5, .ifCond .eq 24, 8, [29], none), (8, .aload_n 0, 9, [], none), (9, .iconst 0, 10, [], none), (10, .aload_n 0, 11, [], none), (11, .getfield 27, 14, [12, 7, 2, 609, 0], none), (14, .aload_n 0, 15, [], none), (15, .getfield 230, 18, [12, 11, 0, 694, 0], none), (18, .iaload, 19, [20], none), (19, .invokevirtual 326, 22, [186, 2, 0, 12, 761, 762, 763, 662], none), (22, .aload_n 0, 23, [], none), (23, .invokevirtual 248, 26, [170, 0, 0, 12, 704, 705, 706, 662], none), (26, .goto 67, 29, [93], none)] (0, .aload_n 0, 1, [], none) (by decide +kernel) _ _ _).trans rfl
theorem B_X12_unit_29 (d : Nat) (M : zM) (l0 : Nat) :
  evk zcod none d zc_X12_unit 29 [(0, .ref l0)] [] M =
  if gK M l0 = 12 then
  (if ¬ (gI M l0 13) = 0 then
  evk zcod none d zc_X12_unit 88 [(0, .ref l0)] [] M
  else
  if gK M l0 = 12 then
  (if gK M l0 = 12 then
  (if gK M (gR M l0 5) = 20 ∧ zin (gI M l0 11) (gN M (gR M l0 5)) then
  (if (gI M (gR M l0 5) (zix (gI M l0 11))) < (33 : Int32) then
  evk zcod none d zc_X12_unit 88 [(0, .ref l0)] [] M
  else
  if gK M l0 = 12 then
  (if gK M l0 = 12 then
  (if gK M (gR M l0 5) = 20 ∧ zin (gI M l0 11) (gN M (gR M l0 5)) then
  (if (41 : Int32) < (gI M (gR M l0 5) (zix (gI M l0 11))) then
  evk zcod none d zc_X12_unit 88 [(0, .ref l0)] [] M
  else
  if gK M l0 = 12 then
  (if gK M l0 = 12 then
  (if gK M (gR M l0 5) = 20 ∧ zin (gI M l0 11) (gN M (gR M l0 5)) then
  (if gK M l0 = 12 then
  (bV (evM zcod d 186 [.ref l0, .int (1 : Int32), .int ((gI M (gR M l0 5) (zix (gI M l0 11))) - (33 : Int32))] M) fun M1 =>
  if M1.1.1 = M.1.1 then
  (if gK M1 l0 = 12 then
  (bV (evM zcod d 170 [.ref l0] M1) fun M2 =>
  if M2.1.1 = M1.1.1 then
  (evk zcod none d zc_X12_unit 93 [] [] M2) else none) else none) else none) else none) else none) else none) else none) else none) else none) else none) else none) else none) else none) else none :=
  (blk_ok zcod none d zc_X12_unit [(30, .getfield 227, 33, [12, 13, 0, 693, 0], none), (33, .ifCond .ne 55, 36, [88], none), (36, .aload_n 0, 37, [], none), (37, .getfield 20, 40, [12, 5, 2, 607, 0], none), (40, .aload_n 0, 41, [], none), (41, .getfield 230, 44, [12, 11, 0, 694, 0], none), (44, .iaload, 45, [20], none), (45, .bipush 33, 47, [], none), (47, .if_icmp .lt 41, 50, [88], none), (50, .aload_n 0, 51, [], none), (51, .getfield 20, 54, [12, 5, 2, 607, 0], none), (54, .aload_n 0, 55, [], none), (55, .getfield 230, 58, [12, 11, 0, 694, 0], none), (58, .iaload, 59, [20], none), (59, .bipush 41, 61, [], none), (61, .if_icmp .gt 27, 64, [88], none), (64, .aload_n 0, 65, [], none), (65, .iconst 1, 66, [], none), (66, .aload_n 0, 67, [], none), (67, .getfield 20, 70, [12, 5, 2, 607, 0], none), (70, .aload_n 0, 71, [], none), (71, .getfield 230, 74, [12, 11, 0, 694, 0], none), (74, .iaload, 75, [20], none), (75, .bipush 33, 77, [], none), (77, .isub, 78, [], none), (78, .invokevirtual 326, 81, [186, 2, 0, 12, 761, 762, 763, 662], none), (81, .aload_n 0, 82, [], none), (82, .invokevirtual 248, 85, [170, 0, 0, 12, 704, 705, 706, 662], none), (85, .goto 8, 88, [93], none)] (29, .aload_n 0, 30, [], some [0]) (by decide +kernel) _ _ _).trans rfl
theorem B_X12_unit_88 (d : Nat) (M : zM) (l0 : Nat) :
  evk zcod none d zc_X12_unit 88 [(0, .ref l0)] [] M =
  if gK M l0 = 12 then
  (bV (evM zcod d 168 [.ref l0, .int (1 : Int32)] M) fun M1 =>
  if M1.1.1 = M.1.1 then
  (evk zcod none d zc_X12_unit 93 [] [] M1) else none) else none :=
  (blk_ok zcod none d zc_X12_unit [(89, .iconst 1, 90, [], none), (90, .invokevirtual 242, 93, [168, 1, 0, 12, 698, 699, 700, 662], none)] (88, .aload_n 0, 89, [], some [0]) (by decide +kernel) _ _ _).trans rfl
theorem B_X12_unit_93 (d : Nat) (M : zM)  :
  evk zcod none d zc_X12_unit 93 [] [] M =
  some (none, M) :=
  (blk_ok zcod none d zc_X12_unit [] (93, .return_, 94, [], some []) (by decide +kernel) _ _ _).trans rfl
theorem E_X12_termOf (d : Nat) (M : zM) (l0 : Nat) (l1 : Int32) (l2 : Int32) : evM zcod (d + 1) 190 [.ref l0, .int l1, .int l2] M = evk zcod none d zc_X12_termOf 0 [(0, .ref l0), (1, .int l1), (2, .int l2)] [] M := evM_eq zcod d 190 _ M (Nat.le_of_ble_eq_true rfl)
theorem B_X12_termOf_0 (d : Nat) (M : zM) (l0 : Nat) (l1 : Int32) (l2 : Int32) :
  evk zcod none d zc_X12_termOf 0 [(0, .ref l0), (1, .int l1), (2, .int l2)] [] M =
  evk zcod none d zc_X12_termOf 5 [(0, .ref l0), (2, .int l2), (3, .int (0 : Int32)), (4, .int l1)] [] M :=
  (blk_ok zcod none d zc_X12_termOf [(1, .istore_n 3, 2, [], none), (2, .iload_n 1, 3, [], none), (3, .istore 4, 5, [], none)] (0, .iconst 0, 1, [], none) (by decide +kernel) _ _ _).trans rfl
theorem B_X12_termOf_5 (d : Nat) (M : zM) (l0 : Nat) (l2 : Int32) (l3 : Int32) (l4 : Int32) :
  evk zcod none d zc_X12_termOf 5 [(0, .ref l0), (2, .int l2), (3, .int l3), (4, .int l4)] [] M =
  if l2 ≤ l4 then
  evk zcod none d zc_X12_termOf 165 [(0, .ref l0)] [] M
  else
  if gK M l0 = 12 then
  (if gK M (gR M l0 45) = 20 ∧ zin l4 (gN M (gR M l0 45)) then
  (if (2 : Int32) ≤ (gI M (gR M l0 45) (zix l4)) then
  evk zcod none d zc_X12_termOf 65 [(0, .ref l0), (2, .int l2), (3, .int l3), (4, .int l4), (5, .int (gI M (gR M l0 45) (zix l4)))] [] M
  else
  if gK M l0 = 12 then
  (if ¬ (gI M (gR M l0 45) (zix l4)) = 0 then
  evk zcod none d zc_X12_termOf 46 [(0, .ref l0), (2, .int l2), (3, .int l3), (4, .int l4)] [.int l3, .ref (gR M l0 50)] M
  else
  if gK M l0 = 12 then
  (if gK M (gR M l0 46) = 20 ∧ zin l4 (gN M (gR M l0 46)) then
  (evk zcod none d zc_X12_termOf 58 [(0, .ref l0), (2, .int l2), (3, .int l3), (4, .int l4)] [.int (gI M (gR M l0 46) (zix l4)), .int l3, .ref (gR M l0 50)] M) else none) else none) else none) else none) else none :=
  (blk_ok zcod none d zc_X12_termOf [(7, .iload_n 2, 8, [], none), (8, .if_icmp .ge 157, 11, [165], none), (11, .aload_n 0, 12, [], none), (12, .getfield 107, 15, [12, 45, 2, 636, 0], none), (15, .iload 4, 17, [], none), (17, .iaload, 18, [20], none), (18, .istore 5, 20, [], none), (20, .iload 5, 22, [], none), (22, .iconst 2, 23, [], none), (23, .if_icmp .ge 42, 26, [65], none), (26, .aload_n 0, 27, [], none), (27, .getfield 119, 30, [12, 50, 2, 640, 0], none), (30, .iload_n 3, 31, [], none), (31, .iload 5, 33, [], none), (33, .ifCond .ne 13, 36, [46], none), (36, .aload_n 0, 37, [], none), (37, .getfield 110, 40, [12, 46, 2, 637, 0], none), (40, .iload 4, 42, [], none), (42, .iaload, 43, [20], none), (43, .goto 15, 46, [58], none)] (5, .iload 4, 7, [], some [0, 2, 3, 4]) (by decide +kernel) _ _ _).trans rfl
theorem B_X12_termOf_46 (d : Nat) (M : zM) (l0 : Nat) (l2 : Int32) (l3 : Int32) (l4 : Int32) (s0 : Nat) (s1 : Int32) :
  evk zcod none d zc_X12_termOf 46 [(0, .ref l0), (2, .int l2), (3, .int l3), (4, .int l4)] [.int s1, .ref s0] M =
  if gK M l0 = 12 then
  (if gK M l0 = 12 then
  (if gK M (gR M l0 46) = 20 ∧ zin l4 (gN M (gR M l0 46)) then
  (if gK M (gR M l0 49) = 20 ∧ zin (gI M (gR M l0 46) (zix l4)) (gN M (gR M l0 49)) then
  (evk zcod none d zc_X12_termOf 58 [(0, .ref l0), (2, .int l2), (3, .int l3), (4, .int l4)] [.int (gI M (gR M l0 49) (zix (gI M (gR M l0 46) (zix l4)))), .int s1, .ref s0] M) else none) else none) else none) else none :=
  (blk_ok zcod none d zc_X12_termOf [(47, .getfield 116, 50, [12, 49, 2, 639, 0], none), (50, .aload_n 0, 51, [], none), (51, .getfield 110, 54, [12, 46, 2, 637, 0], none), (54, .iload 4, 56, [], none), (56, .iaload, 57, [20], none), (57, .iaload, 58, [20], none)] (46, .aload_n 0, 47, [], some [0, 2, 3, 4]) (by decide +kernel) _ _ _).trans rfl
theorem B_X12_termOf_58 (d : Nat) (M : zM) (l0 : Nat) (l2 : Int32) (l3 : Int32) (l4 : Int32) (s0 : Nat) (s1 : Int32) (s2 : Int32) :
  evk zcod none d zc_X12_termOf 58 [(0, .ref l0), (2, .int l2), (3, .int l3), (4, .int l4)] [.int s2, .int s1, .ref s0] M =
  if gK M s0 = 20 ∧ zin s1 (gN M s0) then
  (evk zcod none d zc_X12_termOf 159 [(0, .ref l0), (2, .int l2), (3, .int (l3 + 1)), (4, .int l4)] [] (sI M s0 (zix s1) s2)) else none :=
  (blk_ok zcod none d zc_X12_termOf [(59, .iinc 3 1, 62, [], none), (62, .goto 97, 65, [159], none)] (58, .iastore, 59, [20], some [0, 2, 3, 4]) (by decide +kernel) _ _ _).trans rfl
theorem B_X12_termOf_65 (d : Nat) (M : zM) (l0 : Nat) (l2 : Int32) (l3 : Int32) (l4 : Int32) (l5 : Int32) :
  evk zcod none d zc_X12_termOf 65 [(0, .ref l0), (2, .int l2), (3, .int l3), (4, .int l4), (5, .int l5)] [] M =
  if gK M l0 = 12 then
  (if gK M (gR M l0 50) = 20 ∧ zin ((l3 + (-1)) - (1 : Int32)) (gN M (gR M l0 50)) then
  (if gK M l0 = 12 then
  (if gK M (gR M l0 50) = 20 ∧ zin (l3 + (-1)) (gN M (gR M l0 50)) then
  (if ¬ l5 = (5 : Int32) then
  evk zcod none d zc_X12_termOf 104 [(0, .ref l0), (2, .int l2), (3, .int (l3 + (-1))), (4, .int l4), (5, .int l5), (6, .int (gI M (gR M l0 50) (zix ((l3 + (-1)) - (1 : Int32))))), (7, .int (gI M (gR M l0 50) (zix (l3 + (-1)))))] [] M
  else
  if ¬ (gI M (gR M l0 50) (zix (l3 + (-1)))) = 0 then
  evk zcod none d zc_X12_termOf 104 [(0, .ref l0), (2, .int l2), (3, .int (l3 + (-1))), (4, .int l4), (5, .int l5), (6, .int (gI M (gR M l0 50) (zix ((l3 + (-1)) - (1 : Int32))))), (7, .int (gI M (gR M l0 50) (zix (l3 + (-1)))))] [] M
  else
  if gK M l0 = 12 ∧ ((1 : Int32) = 0 ∨ (1 : Int32) = 1) then
  (some (some (.int (0 : Int32)), (sI M l0 51 (1 : Int32)))) else none) else none) else none) else none) else none :=
  (blk_ok zcod none d zc_X12_termOf [(68, .aload_n 0, 69, [], none), (69, .getfield 119, 72, [12, 50, 2, 640, 0], none), (72, .iload_n 3, 73, [], none), (73, .iconst 1, 74, [], none), (74, .isub, 75, [], none), (75, .iaload, 76, [20], none), (76, .istore 6, 78, [], none), (78, .aload_n 0, 79, [], none), (79, .getfield 119, 82, [12, 50, 2, 640, 0], none), (82, .iload_n 3, 83, [], none), (83, .iaload, 84, [20], none), (84, .istore 7, 86, [], none), (86, .iload 5, 88, [], none), (88, .iconst 5, 89, [], none), (89, .if_icmp .ne 15, 92, [104], none), (92, .iload 7, 94, [], none), (94, .ifCond .ne 10, 97, [104], none), (97, .aload_n 0, 98, [], none), (98, .iconst 1, 99, [], none), (99, .putfield 336, 102, [12, 51, 3, 770, 0, 0], none), (102, .iconst 0, 103, [], none), (103, .ireturn, 104, [0], none)] (65, .iinc 3 (-1), 68, [], some [0, 2, 3, 4, 5]) (by decide +kernel) _ _ _).trans rfl
theorem B_X12_termOf_104 (d : Nat) (M : zM) (l0 : Nat) (l2 : Int32) (l3 : Int32) (l4 : Int32) (l5 : Int32) (l6 : Int32) (l7 : Int32) :
  evk zcod none d zc_X12_termOf 104 [(0, .ref l0), (2, .int l2), (3, .int l3), (4, .int l4), (5, .int l5), (6, .int l6), (7, .int l7)] [] M =
  if gK M l0 = 12 then
  (if ¬ l5 = (2 : Int32) then
  evk zcod none d zc_X12_termOf 125 [(0, .ref l0), (2, .int l2), (3, .int l3), (4, .int l4), (5, .int l5), (6, .int l6), (7, .int l7)] [.int (l3 - (1 : Int32)), .ref (gR M l0 50)] M
  else
  evk zcod none d zc_X12_termOf 158 [(0, .ref l0), (2, .int l2), (3, .int l3), (4, .int l4)] [.int (l6 + l7), .int (l3 - (1 : Int32)), .ref (gR M l0 50)] M) else none :=
  (blk_ok zcod none d zc_X12_termOf [(105, .getfield 119, 108, [12, 50, 2, 640, 0], none), (108, .iload_n 3, 109, [], none), (109, .iconst 1, 110, [], none), (110, .isub, 111, [], none), (111, .iload 5, 113, [], none), (113, .iconst 2, 114, [], none), (114, .if_icmp .ne 11, 117, [125], none), (117, .iload 6, 119, [], none), (119, .iload 7, 121, [], none), (121, .iadd, 122, [], none), (122, .goto 36, 125, [158], none)] (104, .aload_n 0, 105, [], some [0, 2, 3, 4, 5, 6, 7]) (by decide +kernel) _ _ _).trans rfl
theorem B_X12_termOf_125 (d : Nat) (M : zM) (l0 : Nat) (l2 : Int32) (l3 : Int32) (l4 : Int32) (l5 : Int32) (l6 : Int32) (l7 : Int32) (s0 : Nat) (s1 : Int32) :
  evk zcod none d zc_X12_termOf 125 [(0, .ref l0), (2, .int l2), (3, .int l3), (4, .int l4), (5, .int l5), (6, .int l6), (7, .int l7)] [.int s1, .ref s0] M =
  if ¬ l5 = (3 : Int32) then
  evk zcod none d zc_X12_termOf 139 [(0, .ref l0), (2, .int l2), (3, .int l3), (4, .int l4), (5, .int l5), (6, .int l6), (7, .int l7)] [.int s1, .ref s0] M
  else
  evk zcod none d zc_X12_termOf 158 [(0, .ref l0), (2, .int l2), (3, .int l3), (4, .int l4)] [.int (l6 - l7), .int s1, .ref s0] M :=
  (blk_ok zcod none d zc_X12_termOf [(127, .iconst 3, 128, [], none), (128, .if_icmp .ne 11, 131, [139], none), (131, .iload 6, 133, [], none), (133, .iload 7, 135, [], none), (135, .isub, 136, [], none), (136, .goto 22, 139, [158], none)] (125, .iload 5, 127, [], some [0, 2, 3, 4, 5, 6, 7]) (by decide +kernel) _ _ _).trans rfl
theorem B_X12_termOf_139 (d : Nat) (M : zM) (l0 : Nat) (l2 : Int32) (l3 : Int32) (l4 : Int32) (l5 : Int32) (l6 : Int32) (l7 : Int32) (s0 : Nat) (s1 : Int32) :
  evk zcod none d zc_X12_termOf 139 [(0, .ref l0), (2, .int l2), (3, .int l3), (4, .int l4), (5, .int l5), (6, .int l6), (7, .int l7)] [.int s1, .ref s0] M =
  if ¬ l5 = (4 : Int32) then
  evk zcod none d zc_X12_termOf 153 [(0, .ref l0), (2, .int l2), (3, .int l3), (4, .int l4), (6, .int l6), (7, .int l7)] [.int s1, .ref s0] M
  else
  evk zcod none d zc_X12_termOf 158 [(0, .ref l0), (2, .int l2), (3, .int l3), (4, .int l4)] [.int (l6 * l7), .int s1, .ref s0] M :=
  (blk_ok zcod none d zc_X12_termOf [(141, .iconst 4, 142, [], none), (142, .if_icmp .ne 11, 145, [153], none), (145, .iload 6, 147, [], none), (147, .iload 7, 149, [], none), (149, .imul, 150, [], none), (150, .goto 8, 153, [158], none)] (139, .iload 5, 141, [], some [0, 2, 3, 4, 5, 6, 7]) (by decide +kernel) _ _ _).trans rfl
theorem B_X12_termOf_153 (d : Nat) (M : zM) (l0 : Nat) (l2 : Int32) (l3 : Int32) (l4 : Int32) (l6 : Int32) (l7 : Int32) (s0 : Nat) (s1 : Int32) :
  evk zcod none d zc_X12_termOf 153 [(0, .ref l0), (2, .int l2), (3, .int l3), (4, .int l4), (6, .int l6), (7, .int l7)] [.int s1, .ref s0] M =
  if l7 = 0 then none else
  evk zcod none d zc_X12_termOf 158 [(0, .ref l0), (2, .int l2), (3, .int l3), (4, .int l4)] [.int (l6 / l7), .int s1, .ref s0] M :=
  (blk_ok zcod none d zc_X12_termOf [(155, .iload 7, 157, [], none), (157, .idiv, 158, [], none)] (153, .iload 6, 155, [], some [0, 2, 3, 4, 6, 7]) (by decide +kernel) _ _ _).trans rfl
theorem B_X12_termOf_158 (d : Nat) (M : zM) (l0 : Nat) (l2 : Int32) (l3 : Int32) (l4 : Int32) (s0 : Nat) (s1 : Int32) (s2 : Int32) :
  evk zcod none d zc_X12_termOf 158 [(0, .ref l0), (2, .int l2), (3, .int l3), (4, .int l4)] [.int s2, .int s1, .ref s0] M =
  if gK M s0 = 20 ∧ zin s1 (gN M s0) then
  (evk zcod none d zc_X12_termOf 159 [(0, .ref l0), (2, .int l2), (3, .int l3), (4, .int l4)] [] (sI M s0 (zix s1) s2)) else none :=
  (blk_ok zcod none d zc_X12_termOf [] (158, .iastore, 159, [20], some [0, 2, 3, 4]) (by decide +kernel) _ _ _).trans rfl
theorem B_X12_termOf_159 (d : Nat) (M : zM) (l0 : Nat) (l2 : Int32) (l3 : Int32) (l4 : Int32) :
  evk zcod none d zc_X12_termOf 159 [(0, .ref l0), (2, .int l2), (3, .int l3), (4, .int l4)] [] M =
  evk zcod none d zc_X12_termOf 5 [(0, .ref l0), (2, .int l2), (3, .int l3), (4, .int (l4 + 1))] [] M :=
  (blk_ok zcod none d zc_X12_termOf [(162, .goto (-157), 165, [5], none)] (159, .iinc 4 1, 162, [], some [0, 2, 3, 4]) (by decide +kernel) _ _ _).trans rfl
theorem B_X12_termOf_165 (d : Nat) (M : zM) (l0 : Nat) :
  evk zcod none d zc_X12_termOf 165 [(0, .ref l0)] [] M =
  if gK M l0 = 12 then
  (if gK M (gR M l0 50) = 20 ∧ zin (0 : Int32) (gN M (gR M l0 50)) then
  (some (some (.int (gI M (gR M l0 50) (zix (0 : Int32)))), M)) else none) else none :=
  (blk_ok zcod none d zc_X12_termOf [(166, .getfield 119, 169, [12, 50, 2, 640, 0], none), (169, .iconst 0, 170, [], none), (170, .iaload, 171, [20], none), (171, .ireturn, 172, [0], none)] (165, .aload_n 0, 166, [], some [0]) (by decide +kernel) _ _ _).trans rfl
theorem E_X12_in (d : Nat) (M : zM) (l0 : Int32) (l1 : Int32) (l2 : Int32) : evM zcod (d + 1) 191 [.int l0, .int l1, .int l2] M = evk zcod none d zc_X12_in 0 [(0, .int l0), (1, .int l1), (2, .int l2)] [] M := evM_eq zcod d 191 _ M (Nat.le_of_ble_eq_true rfl)
theorem B_X12_in_0 (d : Nat) (M : zM) (l0 : Int32) (l1 : Int32) (l2 : Int32) :
  evk zcod none d zc_X12_in 0 [(0, .int l0), (1, .int l1), (2, .int l2)] [] M =
  if l0 < l1 then
  evk zcod none d zc_X12_in 14 [] [] M
  else
  if l2 < l0 then
  evk zcod none d zc_X12_in 14 [] [] M
  else
  evk zcod none d zc_X12_in 15 [] [.int (1 : Int32)] M :=
  (blk_ok zcod none d zc_X12_in [(1, .iload_n 1, 2, [], none), (2, .if_icmp .lt 12, 5, [14], none), (5, .iload_n 0, 6, [], none), (6, .iload_n 2, 7, [], none), (7, .if_icmp .gt 7, 10, [14], none), (10, .iconst 1, 11, [], none), (11, .goto 4, 14, [15], none)] (0, .iload_n 0, 1, [], none) (by decide +kernel) _ _ _).trans rfl
theorem B_X12_in_14 (d : Nat) (M : zM)  :
  evk zcod none d zc_X12_in 14 [] [] M =
  evk zcod none d zc_X12_in 15 [] [.int (0 : Int32)] M :=
  (blk_ok zcod none d zc_X12_in [] (14, .iconst 0, 15, [], some []) (by decide +kernel) _ _ _).trans rfl
theorem B_X12_in_15 (d : Nat) (M : zM) (s0 : Int32) :
  evk zcod none d zc_X12_in 15 [] [.int s0] M =
  if s0 = 0 ∨ s0 = 1 then some (some (.int s0), M) else none :=
  (blk_ok zcod none d zc_X12_in [] (15, .ireturn, 16, [1], some []) (by decide +kernel) _ _ _).trans rfl
theorem E_X12_held (d : Nat) (M : zM) (l0 : Int32) (l1 : Int32) (l2 : Int32) : evM zcod (d + 1) 192 [.int l0, .int l1, .int l2] M = evk zcod none d zc_X12_held 0 [(0, .int l0), (1, .int l1), (2, .int l2)] [] M := evM_eq zcod d 192 _ M (Nat.le_of_ble_eq_true rfl)
theorem B_X12_held_0 (d : Nat) (M : zM) (l0 : Int32) (l1 : Int32) (l2 : Int32) :
  evk zcod none d zc_X12_held 0 [(0, .int l0), (1, .int l1), (2, .int l2)] [] M =
  if l1 ≤ l0 then
  evk zcod none d zc_X12_held 9 [(0, .int l0), (2, .int l2)] [] M
  else
  evk zcod none d zc_X12_held 19 [] [.int l1] M :=
  (blk_ok zcod none d zc_X12_held [(1, .iload_n 1, 2, [], none), (2, .if_icmp .ge 7, 5, [9], none), (5, .iload_n 1, 6, [], none), (6, .goto 13, 9, [19], none)] (0, .iload_n 0, 1, [], none) (by decide +kernel) _ _ _).trans rfl
theorem B_X12_held_9 (d : Nat) (M : zM) (l0 : Int32) (l2 : Int32) :
  evk zcod none d zc_X12_held 9 [(0, .int l0), (2, .int l2)] [] M =
  if l0 ≤ l2 then
  evk zcod none d zc_X12_held 18 [(0, .int l0)] [] M
  else
  evk zcod none d zc_X12_held 19 [] [.int l2] M :=
  (blk_ok zcod none d zc_X12_held [(10, .iload_n 2, 11, [], none), (11, .if_icmp .le 7, 14, [18], none), (14, .iload_n 2, 15, [], none), (15, .goto 4, 18, [19], none)] (9, .iload_n 0, 10, [], some [0, 2]) (by decide +kernel) _ _ _).trans rfl
theorem B_X12_held_18 (d : Nat) (M : zM) (l0 : Int32) :
  evk zcod none d zc_X12_held 18 [(0, .int l0)] [] M =
  evk zcod none d zc_X12_held 19 [] [.int l0] M :=
  (blk_ok zcod none d zc_X12_held [] (18, .iload_n 0, 19, [], some [0]) (by decide +kernel) _ _ _).trans rfl
theorem B_X12_held_19 (d : Nat) (M : zM) (s0 : Int32) :
  evk zcod none d zc_X12_held 19 [] [.int s0] M =
  some (some (.int s0), M) :=
  (blk_ok zcod none d zc_X12_held [] (19, .ireturn, 20, [0], some []) (by decide +kernel) _ _ _).trans rfl
theorem E_X12_bits (d : Nat) (M : zM) (l0 : Int32) : evM zcod (d + 1) 193 [.int l0] M = evk zcod none d zc_X12_bits 0 [(0, .int l0)] [] M := evM_eq zcod d 193 _ M (Nat.le_of_ble_eq_true rfl)
theorem B_X12_bits_0 (d : Nat) (M : zM) (l0 : Int32) :
  evk zcod none d zc_X12_bits 0 [(0, .int l0)] [] M =
  evk zcod none d zc_X12_bits 4 [(0, .int l0), (1, .int (0 : Int32)), (2, .int (0 : Int32))] [] M :=
  (blk_ok zcod none d zc_X12_bits [(1, .istore_n 1, 2, [], none), (2, .iconst 0, 3, [], none), (3, .istore_n 2, 4, [], none)] (0, .iconst 0, 1, [], none) (by decide +kernel) _ _ _).trans rfl
theorem B_X12_bits_4 (d : Nat) (M : zM) (l0 : Int32) (l1 : Int32) (l2 : Int32) :
  evk zcod none d zc_X12_bits 4 [(0, .int l0), (1, .int l1), (2, .int l2)] [] M =
  if (7 : Int32) ≤ l2 then
  evk zcod none d zc_X12_bits 24 [(1, .int l1)] [] M
  else
  evk zcod none d zc_X12_bits 4 [(0, .int l0), (1, .int (l1 + ((l0 >>> (l2 &&& 31)) &&& (1 : Int32)))), (2, .int (l2 + 1))] [] M :=
  (blk_ok zcod none d zc_X12_bits [(5, .bipush 7, 7, [], none), (7, .if_icmp .ge 17, 10, [24], none), (10, .iload_n 1, 11, [], none), (11, .iload_n 0, 12, [], none), (12, .iload_n 2, 13, [], none), (13, .ishr, 14, [], none), (14, .iconst 1, 15, [], none), (15, .iand, 16, [], none), (16, .iadd, 17, [], none), (17, .istore_n 1, 18, [], none), (18, .iinc 2 1, 21, [], none), (21, .goto (-17), 24, [4], none)] (4, .iload_n 2, 5, [], some [0, 1, 2]) (by decide +kernel) _ _ _).trans rfl
theorem B_X12_bits_24 (d : Nat) (M : zM) (l1 : Int32) :
  evk zcod none d zc_X12_bits 24 [(1, .int l1)] [] M =
  some (some (.int l1), M) :=
  (blk_ok zcod none d zc_X12_bits [(25, .ireturn, 26, [0], none)] (24, .iload_n 1, 25, [], some [1]) (by decide +kernel) _ _ _).trans rfl
theorem E_X12_off (d : Nat) (M : zM) (l0 : Int32) (l1 : Int32) : evM zcod (d + 1) 194 [.int l0, .int l1] M = evk zcod none d zc_X12_off 0 [(0, .int l0), (1, .int l1)] [] M := evM_eq zcod d 194 _ M (Nat.le_of_ble_eq_true rfl)
theorem B_X12_off_0 (d : Nat) (M : zM) (l0 : Int32) (l1 : Int32) :
  evk zcod none d zc_X12_off 0 [(0, .int l0), (1, .int l1)] [] M =
  if l1 ≤ l0 then
  evk zcod none d zc_X12_off 11 [(0, .int l0), (1, .int l1)] [] M
  else
  evk zcod none d zc_X12_off 14 [] [.int (l1 - l0)] M :=
  (blk_ok zcod none d zc_X12_off [(1, .iload_n 1, 2, [], none), (2, .if_icmp .ge 9, 5, [11], none), (5, .iload_n 1, 6, [], none), (6, .iload_n 0, 7, [], none), (7, .isub, 8, [], none), (8, .goto 6, 11, [14], none)] (0, .iload_n 0, 1, [], none) (by decide +kernel) _ _ _).trans rfl
theorem B_X12_off_11 (d : Nat) (M : zM) (l0 : Int32) (l1 : Int32) :
  evk zcod none d zc_X12_off 11 [(0, .int l0), (1, .int l1)] [] M =
  evk zcod none d zc_X12_off 14 [] [.int (l0 - l1)] M :=
  (blk_ok zcod none d zc_X12_off [(12, .iload_n 1, 13, [], none), (13, .isub, 14, [], none)] (11, .iload_n 0, 12, [], some [0, 1]) (by decide +kernel) _ _ _).trans rfl
theorem B_X12_off_14 (d : Nat) (M : zM) (s0 : Int32) :
  evk zcod none d zc_X12_off 14 [] [.int s0] M =
  some (some (.int s0), M) :=
  (blk_ok zcod none d zc_X12_off [] (14, .ireturn, 15, [0], some []) (by decide +kernel) _ _ _).trans rfl
