/-! blocks with numbers below 0, first as the machine has them -/
theorem cvN : (Int32.ofInt (-1) = -1) ∧ (Int32.ofInt (-2) = -2) ∧ (Int32.ofInt (-3) = -3) ∧ (Int32.ofInt (-4) = -4) ∧ (Int32.ofInt (-5) = -5) ∧ (Int32.ofInt (-6) = -6) ∧ (Int32.ofInt (-7) = -7) ∧ (Int32.ofInt (-8) = -8) ∧ (Int32.ofInt (-9) = -9) ∧ (Int32.ofInt (-10) = -10) ∧ ((Int8.ofInt (-1)).toInt32 = -1) ∧ ((Int8.ofInt (-2)).toInt32 = -2) ∧ ((Int8.ofInt (-3)).toInt32 = -3) ∧ ((Int8.ofInt (-4)).toInt32 = -4) ∧ ((Int8.ofInt (-5)).toInt32 = -5) ∧ ((Int8.ofInt (-6)).toInt32 = -6) ∧ ((Int8.ofInt (-7)).toInt32 = -7) ∧ ((Int8.ofInt (-8)).toInt32 = -8) ∧ ((Int8.ofInt (-9)).toInt32 = -9) ∧ ((Int8.ofInt (-10)).toInt32 = -10) ∧ ((Int8.ofInt (-100)).toInt32 = -100) ∧ ((Int16.ofInt (-1000)).toInt32 = -1000) := by decide +kernel
set_option maxRecDepth 20000 in
set_option maxHeartbeats 4000000 in
theorem R_X7_valueOf_14 (d : Nat) (S : mS) (I : mI) (L : mJ) (l0 : Nat) (l2 : Int32) (l3 : Int32) (l4 : Int32) :
  evk zcod none d zc_X7_valueOf 14 [(0, .ref l0), (2, .int l2), (3, .int l3), (4, .int l4)] [] (S, I, L) =
  if kK S l0 = 7 then
 (if kK S (kR S l0 0) = 3 then
 (bI (evM zcod d 18 [.ref (kR S l0 0)] (S, I, L)) fun x1 M1 =>
 if M1.1.1 = S.1 then
 (if x1 ≤ l4 then
 evk zcod none d zc_X7_valueOf 196 [] [] M1
 else
 if kK M1.1 l0 = 7 then
 (if kK M1.1 (kR M1.1 l0 0) = 3 then
 (bI (evM zcod d 17 [.ref (kR M1.1 l0 0), .int l2] M1) fun x2 M2 =>
 if M2.1.1 = M1.1.1 then
 (if (nI 0) ≤ x2 then
 evk zcod none d zc_X7_valueOf 51 [(0, .ref l0), (2, .int (l2 + (nI 1))), (3, .int l3), (4, .int l4), (5, .int x2)] [] M2
 else
 if ((Int8.ofInt (-10)).toInt32) < x2 then
 evk zcod none d zc_X7_valueOf 90 [(0, .ref l0), (2, .int (l2 + (nI 1))), (3, .int l3), (4, .int l4), (5, .int x2)] [] M2
 else
 evk zcod none d zc_X7_valueOf 51 [(0, .ref l0), (2, .int (l2 + (nI 1))), (3, .int l3), (4, .int l4), (5, .int x2)] [] M2) else none) else none) else none) else none) else none) else none :=
  (blk_ok zcod none d zc_X7_valueOf [(16, .aload_n 0, 17, [], none), (17, .getfield 9, 20, [7, 0, 2, 255, 0], none), (20, .invokevirtual 39, 23, [18, 0, 1, 3, 270, 271, 272, 29], none), (23, .if_icmp .ge 173, 26, [196], none), (26, .aload_n 0, 27, [], none), (27, .getfield 9, 30, [7, 0, 2, 255, 0], none), (30, .iload_n 2, 31, [], none), (31, .invokevirtual 43, 34, [17, 1, 1, 3, 273, 274, 275, 29], none), (34, .istore 5, 36, [], none), (36, .iinc 2 1, 39, [], none), (39, .iload 5, 41, [], none), (41, .ifCond .ge 10, 44, [51], none), (44, .iload 5, 46, [], none), (46, .bipush (-10), 48, [], none), (48, .if_icmp .gt 42, 51, [90], none)] (14, .iload 4, 16, [], some [0, 2, 3, 4]) (by decide +kernel) _ _ _).trans rfl
theorem B_X7_valueOf_14 (d : Nat) (S : mS) (I : mI) (L : mJ) (l0 : Nat) (l2 : Int32) (l3 : Int32) (l4 : Int32) :
  evk zcod none d zc_X7_valueOf 14 [(0, .ref l0), (2, .int l2), (3, .int l3), (4, .int l4)] [] (S, I, L) =
  if kK S l0 = 7 then
 (if kK S (kR S l0 0) = 3 then
 (bI (evM zcod d 18 [.ref (kR S l0 0)] (S, I, L)) fun x1 M1 =>
 if M1.1.1 = S.1 then
 (if x1 ≤ l4 then
 evk zcod none d zc_X7_valueOf 196 [] [] M1
 else
 if kK M1.1 l0 = 7 then
 (if kK M1.1 (kR M1.1 l0 0) = 3 then
 (bI (evM zcod d 17 [.ref (kR M1.1 l0 0), .int l2] M1) fun x2 M2 =>
 if M2.1.1 = M1.1.1 then
 (if (nI 0) ≤ x2 then
 evk zcod none d zc_X7_valueOf 51 [(0, .ref l0), (2, .int (l2 + (nI 1))), (3, .int l3), (4, .int l4), (5, .int x2)] [] M2
 else
 if (-10 : Int32) < x2 then
 evk zcod none d zc_X7_valueOf 90 [(0, .ref l0), (2, .int (l2 + (nI 1))), (3, .int l3), (4, .int l4), (5, .int x2)] [] M2
 else
 evk zcod none d zc_X7_valueOf 51 [(0, .ref l0), (2, .int (l2 + (nI 1))), (3, .int l3), (4, .int l4), (5, .int x2)] [] M2) else none) else none) else none) else none) else none) else none := by
  have h := R_X7_valueOf_14 d S I L l0 l2 l3 l4
  simp only [cvN] at h
  exact h
set_option maxRecDepth 20000 in
set_option maxHeartbeats 4000000 in
theorem R_X7_valueOf_137 (d : Nat) (S : mS) (I : mI) (L : mJ) (l0 : Nat) (l2 : Int32) (l3 : Int32) (l4 : Int32) (l5 : Int32) (l6 : Int32) (l7 : Int32) :
  evk zcod none d zc_X7_valueOf 137 [(0, .ref l0), (2, .int l2), (3, .int l3), (4, .int l4), (5, .int l5), (6, .int l6), (7, .int l7)] [] (S, I, L) =
  if ¬ l5 = ((Int8.ofInt (-5)).toInt32) then
 evk zcod none d zc_X7_valueOf 172 [(0, .ref l0), (2, .int l2), (3, .int (l3 + (Int32.ofInt (-2)))), (4, .int l4), (5, .int l5), (6, .int l6), (7, .int l7)] [] (S, I, L)
 else
 if l6 ≤ l7 then
 evk zcod none d zc_X7_valueOf 160 [(0, .ref l0), (2, .int l2), (3, .int (l3 + (Int32.ofInt (-2)))), (4, .int l4)] [] (S, I, L)
 else
 evk zcod none d zc_X7_valueOf 168 [(0, .ref l0), (3, .int (l3 + (Int32.ofInt (-2)))), (4, .int l4)] [.int (l2 + (nI 1))] (S, I, L) :=
  (blk_ok zcod none d zc_X7_valueOf [(140, .iload 5, 142, [], none), (142, .bipush (-5), 144, [], none), (144, .if_icmp .ne 28, 147, [172], none), (147, .iload 7, 149, [], none), (149, .iload 6, 151, [], none), (151, .if_icmp .ge 9, 154, [160], none), (154, .iload_n 2, 155, [], none), (155, .iconst 1, 156, [], none), (156, .iadd, 157, [], none), (157, .goto 11, 160, [168], none)] (137, .iinc 3 (-2), 140, [], some [0, 2, 3, 4, 5, 6, 7]) (by decide +kernel) _ _ _).trans rfl
theorem B_X7_valueOf_137 (d : Nat) (S : mS) (I : mI) (L : mJ) (l0 : Nat) (l2 : Int32) (l3 : Int32) (l4 : Int32) (l5 : Int32) (l6 : Int32) (l7 : Int32) :
  evk zcod none d zc_X7_valueOf 137 [(0, .ref l0), (2, .int l2), (3, .int l3), (4, .int l4), (5, .int l5), (6, .int l6), (7, .int l7)] [] (S, I, L) =
  if ¬ l5 = (-5 : Int32) then
 evk zcod none d zc_X7_valueOf 172 [(0, .ref l0), (2, .int l2), (3, .int (l3 + (-2 : Int32))), (4, .int l4), (5, .int l5), (6, .int l6), (7, .int l7)] [] (S, I, L)
 else
 if l6 ≤ l7 then
 evk zcod none d zc_X7_valueOf 160 [(0, .ref l0), (2, .int l2), (3, .int (l3 + (-2 : Int32))), (4, .int l4)] [] (S, I, L)
 else
 evk zcod none d zc_X7_valueOf 168 [(0, .ref l0), (3, .int (l3 + (-2 : Int32))), (4, .int l4)] [.int (l2 + (nI 1))] (S, I, L) := by
  have h := R_X7_valueOf_137 d S I L l0 l2 l3 l4 l5 l6 l7
  simp only [cvN] at h
  exact h
set_option maxRecDepth 20000 in
set_option maxHeartbeats 4000000 in
theorem R_X2_weigh_117 (d : Nat) (S : mS) (I : mI) (L : mJ) (l0 : Nat) (l1 : Int32) :
  evk zcod none d zc_X2_weigh 117 [(0, .ref l0), (1, .int l1)] [] (S, I, L) =
  evk zcod none d zc_X2_weigh 85 [(0, .ref l0), (1, .int (l1 + (Int32.ofInt (-1))))] [] (S, I, L) :=
  (blk_ok zcod none d zc_X2_weigh [(120, .goto (-35), 123, [85], none)] (117, .iinc 1 (-1), 120, [], some [0, 1]) (by decide +kernel) _ _ _).trans rfl
theorem B_X2_weigh_117 (d : Nat) (S : mS) (I : mI) (L : mJ) (l0 : Nat) (l1 : Int32) :
  evk zcod none d zc_X2_weigh 117 [(0, .ref l0), (1, .int l1)] [] (S, I, L) =
  evk zcod none d zc_X2_weigh 85 [(0, .ref l0), (1, .int (l1 + (-1 : Int32)))] [] (S, I, L) := by
  have h := R_X2_weigh_117 d S I L l0 l1
  simp only [cvN] at h
  exact h
theorem R_X7_varOf_0 (d : Nat) (S : mS) (I : mI) (L : mJ) (l0 : Nat) (l1 : Int32) :
  evk zcod none d zc_X7_varOf 0 [(0, .ref l0), (1, .int l1)] [] (S, I, L) =
  evk zcod none d zc_X7_varOf 5 [(2, .int (((Int8.ofInt (-10)).toInt32) - l1)), (0, .ref l0), (1, .int l1)] [] (S, I, L) :=
  (blk_ok zcod none d zc_X7_varOf [(2, .iload_n 1, 3, [], none), (3, .isub, 4, [], none), (4, .istore_n 2, 5, [], none)] (0, .bipush (-10), 2, [], none) (by decide +kernel) _ _ _).trans rfl
theorem B_X7_varOf_5 (d : Nat) (S : mS) (I : mI) (L : mJ) (l2 : Int32) (l0 : Nat) (l1 : Int32) :
  evk zcod none d zc_X7_varOf 5 [(2, .int l2), (0, .ref l0), (1, .int l1)] [] (S, I, L) =
  if l2 < (nI 0) then
 evk zcod none d zc_X7_varOf 27 [] [] (S, I, L)
 else
 if kK S l0 = 7 then
 (if kK S (kR S l0 1) = 20 then
 (if (nI (kN S (kR S l0 1))) ≤ l2 then
 evk zcod none d zc_X7_varOf 27 [] [] (S, I, L)
 else
 if kK S l0 = 7 then
 (if kK S (kR S l0 1) = 20 ∧ zin l2 (kN S (kR S l0 1)) then
 (evk zcod none d zc_X7_varOf 28 [] [.int (I (kR S l0 1) (zix l2))] (S, I, L)) else none) else none) else none) else none :=
  (blk_ok zcod none d zc_X7_varOf [(6, .ifCond .lt 21, 9, [27], none), (9, .iload_n 2, 10, [], none), (10, .aload_n 0, 11, [], none), (11, .getfield 15, 14, [7, 1, 2, 256, 0], none), (14, .arraylength, 15, [20], none), (15, .if_icmp .ge 12, 18, [27], none), (18, .aload_n 0, 19, [], none), (19, .getfield 15, 22, [7, 1, 2, 256, 0], none), (22, .iload_n 2, 23, [], none), (23, .iaload, 24, [20], none), (24, .goto 4, 27, [28], none)] (5, .iload_n 2, 6, [], none) (by decide +kernel) _ _ _).trans rfl
theorem B_X7_varOf_0 (d : Nat) (S : mS) (I : mI) (L : mJ) (l0 : Nat) (l1 : Int32) :
  evk zcod none d zc_X7_varOf 0 [(0, .ref l0), (1, .int l1)] [] (S, I, L) =
  if ((-10 : Int32) - l1) < (nI 0) then
 evk zcod none d zc_X7_varOf 27 [] [] (S, I, L)
 else
 if kK S l0 = 7 then
 (if kK S (kR S l0 1) = 20 then
 (if (nI (kN S (kR S l0 1))) ≤ ((-10 : Int32) - l1) then
 evk zcod none d zc_X7_varOf 27 [] [] (S, I, L)
 else
 if kK S l0 = 7 then
 (if kK S (kR S l0 1) = 20 ∧ zin ((-10 : Int32) - l1) (kN S (kR S l0 1)) then
 (evk zcod none d zc_X7_varOf 28 [] [.int (I (kR S l0 1) (zix ((-10 : Int32) - l1)))] (S, I, L)) else none) else none) else none) else none := by
  rw [R_X7_varOf_0, B_X7_varOf_5]
  simp only [cvN]
set_option maxRecDepth 20000 in
set_option maxHeartbeats 4000000 in
theorem B_X1_go_37 (d : Nat) (S : mS) (I : mI) (L : mJ) (l0 : Nat) (l1 : Int32) (l2 : Int32) (l3 : Int32) (l5 : Int32) (l6 : Int32) (l7 : Int32) (l8 : Int32) (l9 : Int32) :
  evk zcod none d zc_X1_go 37 [(0, .ref l0), (1, .int l1), (2, .int l2), (3, .int l3), (5, .int l5), (6, .int l6), (7, .int l7), (8, .int l8), (9, .int l9)] [] (S, I, L) =
  if l6 ≤ l9 then
 evk zcod none d zc_X1_go 140 [] [] (S, I, L)
 else
 if kK S l0 = 1 then
 (if ¬ (I l0 4) = (nI 0) then
 evk zcod none d zc_X1_go 140 [] [] (S, I, L)
 else
 if kK S l0 = 1 then
 (if kK S (kR S l0 2) = 7 then
 (bV (evM zcod d 69 [.ref (kR S l0 2), .int (l5 + l9), .int (nI 1), .int l7] (S, I, L)) fun M1 =>
 if M1.1.1 = S.1 then
 (if kK M1.1 l0 = 1 then
 (if kK M1.1 l0 = 1 then
 (if kK M1.1 (kR M1.1 l0 2) = 7 then
 (bI (evM zcod d 70 [.ref (kR M1.1 l0 2), .int l1, .int l2, .int l8, .int (M1.2.1 l0 6)] M1) fun x2 M2 =>
 if M2.1.1 = M1.1.1 then
 (if kK M2.1 l0 = 1 then
 (if kK M2.1 l0 = 1 then
 (if kK M2.1 (kR M2.1 l0 2) = 7 then
 (bI (evM zcod d 71 [.ref (kR M2.1 l0 2), .int l8, .int (M2.2.1 l0 6)] M2) fun x3 M3 =>
 if M3.1.1 = M2.1.1 then
 (if kK M3.1 l0 = 1 then
 (bI (evM zcod d 146 [.int (((M3.2.1 l0 6) + l3) + x3), .int (nI 0), .int (nI 19)] M3) fun x4 M4 =>
 if M4.1.1 = M3.1.1 then
 (if kK M4.1 l0 = 1 then
 (evk zcod none d zc_X1_go 124 [(0, .ref l0), (1, .int l1), (2, .int l2), (3, .int l3), (5, .int l5), (6, .int l6), (7, .int l7), (8, .int (l8 + x2)), (9, .int l9)] [] (M4.1, (uI M4.2.1 l0 6 x4), M4.2.2)) else none) else none) else none) else none) else none) else none) else none) else none) else none) else none) else none) else none) else none) else none) else none :=
  (blk_ok zcod none d zc_X1_go [(39, .iload 6, 41, [], none), (41, .if_icmp .ge 99, 44, [140], none), (44, .aload_n 0, 45, [], none), (45, .getfield 27, 48, [1, 4, 0, 348, 0], none), (48, .ifCond .ne 92, 51, [140], none), (51, .aload_n 0, 52, [], none), (52, .getfield 19, 55, [1, 2, 2, 346, 0], none), (55, .iload 5, 57, [], none), (57, .iload 9, 59, [], none), (59, .iadd, 60, [], none), (60, .iconst 1, 61, [], none), (61, .iload 7, 63, [], none), (63, .invokevirtual 70, 66, [69, 3, 0, 7, 362, 308, 309, 261], none), (66, .aload_n 0, 67, [], none), (67, .getfield 19, 70, [1, 2, 2, 346, 0], none), (70, .iload_n 1, 71, [], none), (71, .iload_n 2, 72, [], none), (72, .iload 8, 74, [], none), (74, .aload_n 0, 75, [], none), (75, .getfield 33, 78, [1, 6, 0, 350, 0], none), (78, .invokevirtual 74, 81, [70, 4, 1, 7, 363, 325, 326, 261], none), (81, .istore 10, 83, [], none), (83, .aload_n 0, 84, [], none), (84, .getfield 19, 87, [1, 2, 2, 346, 0], none), (87, .iload 8, 89, [], none), (89, .aload_n 0, 90, [], none), (90, .getfield 33, 93, [1, 6, 0, 350, 0], none), (93, .invokevirtual 78, 96, [71, 2, 1, 7, 364, 328, 329, 261], none), (96, .istore 11, 98, [], none), (98, .iload 8, 100, [], none), (100, .iload 10, 102, [], none), (102, .iadd, 103, [], none), (103, .istore 8, 105, [], none), (105, .aload_n 0, 106, [], none), (106, .aload_n 0, 107, [], none), (107, .getfield 33, 110, [1, 6, 0, 350, 0], none), (110, .iload_n 3, 111, [], none), (111, .iadd, 112, [], none), (112, .iload 11, 114, [], none), (114, .iadd, 115, [], none), (115, .iconst 0, 116, [], none), (116, .bipush 19, 118, [], none), (118, .invokestatic 81, 121, [146, 3, 1, 1, 365, 266, 222], none), (121, .putfield 33, 124, [1, 6, 0, 350, 0, 0], none)] (37, .iload 9, 39, [], some [0, 1, 2, 3, 5, 6, 7, 8, 9]) (by decide +kernel) _ _ _).trans rfl

