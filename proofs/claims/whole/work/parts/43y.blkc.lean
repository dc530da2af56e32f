/-! block equations over (S, I, L), c -/
theorem E_X7_begin (d : Nat) (M : zM) (l0 : Nat) (l1 : Int32) (l2 : Int32) (l3 : Int32) : evM zcod (d + 1) 69 [.ref l0, .int l1, .int l2, .int l3] M = evk zcod none d zc_X7_begin 0 [(0, .ref l0), (1, .int l1), (2, .int l2), (3, .int l3)] [] M := evM_eq zcod d 69 _ M (Nat.le_of_ble_eq_true rfl)
theorem B_X7_begin_0 (d : Nat) (S : mS) (I : mI) (L : mJ) (l0 : Nat) (l1 : Int32) (l2 : Int32) (l3 : Int32) :
  evk zcod none d zc_X7_begin 0 [(0, .ref l0), (1, .int l1), (2, .int l2), (3, .int l3)] [] (S, I, L) =
  if kK S l0 = 7 then
 (if (nI 24) = nI 0 then none else
 if kK S (kR S l0 1) = 20 ∧ zin (nI 0) (kN S (kR S l0 1)) then
 (if kK S l0 = 7 then
 (if (nI 24) = nI 0 then none else
 if kK S (kR S l0 1) = 20 ∧ zin (nI 1) (kN S (kR S l0 1)) then
 (if kK S l0 = 7 then
 (if kK S (kR S l0 1) = 20 ∧ zin (nI 7) (kN S (kR S l0 1)) then
 (if kK S l0 = 7 then
 (if kK S (kR S l0 1) = 20 ∧ zin (nI 8) (kN S (kR S l0 1)) then
 (evk zcod none d zc_X7_begin 36 [] [] (S, (uI (uI (uI (uI I (kR S l0 1) (zix (nI 0)) (zrem l1 (nI 24))) (kR S l0 1) (zix (nI 1)) (l1 / (nI 24))) (kR S l0 1) (zix (nI 7)) l2) (kR S l0 1) (zix (nI 8)) l3), L)) else none) else none) else none) else none) else none) else none) else none) else none :=
  (blk_ok zcod none d zc_X7_begin [(1, .getfield 15, 4, [7, 1, 2, 256, 0], none), (4, .iconst 0, 5, [], none), (5, .iload_n 1, 6, [], none), (6, .bipush 24, 8, [], none), (8, .irem, 9, [], none), (9, .iastore, 10, [20], none), (10, .aload_n 0, 11, [], none), (11, .getfield 15, 14, [7, 1, 2, 256, 0], none), (14, .iconst 1, 15, [], none), (15, .iload_n 1, 16, [], none), (16, .bipush 24, 18, [], none), (18, .idiv, 19, [], none), (19, .iastore, 20, [20], none), (20, .aload_n 0, 21, [], none), (21, .getfield 15, 24, [7, 1, 2, 256, 0], none), (24, .bipush 7, 26, [], none), (26, .iload_n 2, 27, [], none), (27, .iastore, 28, [20], none), (28, .aload_n 0, 29, [], none), (29, .getfield 15, 32, [7, 1, 2, 256, 0], none), (32, .bipush 8, 34, [], none), (34, .iload_n 3, 35, [], none), (35, .iastore, 36, [20], none)] (0, .aload_n 0, 1, [], none) (by decide +kernel) _ _ _).trans rfl
theorem B_X7_begin_36 (d : Nat) (S : mS) (I : mI) (L : mJ)  :
  evk zcod none d zc_X7_begin 36 [] [] (S, I, L) =
  some (none, (S, I, L)) :=
  (blk_ok zcod none d zc_X7_begin [] (36, .return_, 37, [], some []) (by decide +kernel) _ _ _).trans rfl
theorem E_X7_lift (d : Nat) (M : zM) (l0 : Nat) (l1 : Int32) (l2 : Int32) (l3 : Int32) (l4 : Int32) : evM zcod (d + 1) 70 [.ref l0, .int l1, .int l2, .int l3, .int l4] M = evk zcod none d zc_X7_lift 0 [(0, .ref l0), (1, .int l1), (2, .int l2), (3, .int l3), (4, .int l4)] [] M := evM_eq zcod d 70 _ M (Nat.le_of_ble_eq_true rfl)
theorem B_X7_lift_0 (d : Nat) (S : mS) (I : mI) (L : mJ) (l0 : Nat) (l1 : Int32) (l2 : Int32) (l3 : Int32) (l4 : Int32) :
  evk zcod none d zc_X7_lift 0 [(0, .ref l0), (1, .int l1), (2, .int l2), (3, .int l3), (4, .int l4)] [] (S, I, L) =
  if kK S l0 = 7 then
 (bV (evM zcod d 74 [.ref l0, .int l1, .int l2, .int l3, .int l4, .int (nI 0)] (S, I, L)) fun M1 =>
 if M1.1.1 = S.1 then
 (if kK M1.1 l0 = 7 then
 (bI (evM zcod d 75 [.ref l0, .int (nI 0)] M1) fun x2 M2 =>
 if M2.1.1 = M1.1.1 then
 (bI (evM zcod d 146 [.int x2, .int (-9 : Int32), .int (nI 9)] M2) fun x3 M3 =>
 if M3.1.1 = M2.1.1 then
 (some (some (.int x3), M3)) else none) else none) else none) else none) else none :=
  (blk_ok zcod none d zc_X7_lift [(1, .iload_n 1, 2, [], none), (2, .iload_n 2, 3, [], none), (3, .iload_n 3, 4, [], none), (4, .iload 4, 6, [], none), (6, .iconst 0, 7, [], none), (7, .invokevirtual 22, 10, [74, 5, 0, 7, 258, 259, 260, 261], none), (10, .aload_n 0, 11, [], none), (11, .iconst 0, 12, [], none), (12, .invokevirtual 26, 15, [75, 1, 1, 7, 262, 263, 264, 261], none), (15, .bipush (-9), 17, [], none), (17, .bipush 9, 19, [], none), (19, .invokestatic 30, 22, [146, 3, 1, 1, 265, 266, 222], none), (22, .ireturn, 23, [0], none)] (0, .aload_n 0, 1, [], none) (by decide +kernel) _ _ _).trans rfl
theorem E_X7_wind (d : Nat) (M : zM) (l0 : Nat) (l1 : Int32) (l2 : Int32) : evM zcod (d + 1) 71 [.ref l0, .int l1, .int l2] M = evk zcod none d zc_X7_wind 0 [(0, .ref l0), (1, .int l1), (2, .int l2)] [] M := evM_eq zcod d 71 _ M (Nat.le_of_ble_eq_true rfl)
theorem B_X7_wind_0 (d : Nat) (S : mS) (I : mI) (L : mJ) (l0 : Nat) (l1 : Int32) (l2 : Int32) :
  evk zcod none d zc_X7_wind 0 [(0, .ref l0), (1, .int l1), (2, .int l2)] [] (S, I, L) =
  if kK S l0 = 7 then
 (bV (evM zcod d 74 [.ref l0, .int (nI 0), .int (nI 0), .int l1, .int l2, .int (nI 0)] (S, I, L)) fun M1 =>
 if M1.1.1 = S.1 then
 (if kK M1.1 l0 = 7 then
 (bI (evM zcod d 75 [.ref l0, .int (nI 1)] M1) fun x2 M2 =>
 if M2.1.1 = M1.1.1 then
 (bI (evM zcod d 146 [.int x2, .int (-3 : Int32), .int (nI 3)] M2) fun x3 M3 =>
 if M3.1.1 = M2.1.1 then
 (some (some (.int x3), M3)) else none) else none) else none) else none) else none :=
  (blk_ok zcod none d zc_X7_wind [(1, .iconst 0, 2, [], none), (2, .iconst 0, 3, [], none), (3, .iload_n 1, 4, [], none), (4, .iload_n 2, 5, [], none), (5, .iconst 0, 6, [], none), (6, .invokevirtual 22, 9, [74, 5, 0, 7, 258, 259, 260, 261], none), (9, .aload_n 0, 10, [], none), (10, .iconst 1, 11, [], none), (11, .invokevirtual 26, 14, [75, 1, 1, 7, 262, 263, 264, 261], none), (14, .bipush (-3), 16, [], none), (16, .iconst 3, 17, [], none), (17, .invokestatic 30, 20, [146, 3, 1, 1, 265, 266, 222], none), (20, .ireturn, 21, [0], none)] (0, .aload_n 0, 1, [], none) (by decide +kernel) _ _ _).trans rfl
theorem E_X7_ties (d : Nat) (M : zM) (l0 : Nat) (l1 : Int32) (l2 : Int32) : evM zcod (d + 1) 72 [.ref l0, .int l1, .int l2] M = evk zcod none d zc_X7_ties 0 [(0, .ref l0), (1, .int l1), (2, .int l2)] [] M := evM_eq zcod d 72 _ M (Nat.le_of_ble_eq_true rfl)
theorem B_X7_ties_0 (d : Nat) (S : mS) (I : mI) (L : mJ) (l0 : Nat) (l1 : Int32) (l2 : Int32) :
  evk zcod none d zc_X7_ties 0 [(0, .ref l0), (1, .int l1), (2, .int l2)] [] (S, I, L) =
  if kK S l0 = 7 then
 (bV (evM zcod d 74 [.ref l0, .int l1, .int l2, .int (nI 0), .int (nI 0), .int (nI 0)] (S, I, L)) fun M1 =>
 if M1.1.1 = S.1 then
 (if kK M1.1 l0 = 7 then
 (bI (evM zcod d 75 [.ref l0, .int (nI 2)] M1) fun x2 M2 =>
 if M2.1.1 = M1.1.1 then
 (bI (evM zcod d 146 [.int x2, .int (nI 0), .int (nI 99)] M2) fun x3 M3 =>
 if M3.1.1 = M2.1.1 then
 (some (some (.int x3), M3)) else none) else none) else none) else none) else none :=
  (blk_ok zcod none d zc_X7_ties [(1, .iload_n 1, 2, [], none), (2, .iload_n 2, 3, [], none), (3, .iconst 0, 4, [], none), (4, .iconst 0, 5, [], none), (5, .iconst 0, 6, [], none), (6, .invokevirtual 22, 9, [74, 5, 0, 7, 258, 259, 260, 261], none), (9, .aload_n 0, 10, [], none), (10, .iconst 2, 11, [], none), (11, .invokevirtual 26, 14, [75, 1, 1, 7, 262, 263, 264, 261], none), (14, .iconst 0, 15, [], none), (15, .bipush 99, 17, [], none), (17, .invokestatic 30, 20, [146, 3, 1, 1, 265, 266, 222], none), (20, .ireturn, 21, [0], none)] (0, .aload_n 0, 1, [], none) (by decide +kernel) _ _ _).trans rfl
theorem E_X7_pays (d : Nat) (M : zM) (l0 : Nat) (l1 : Int32) (l2 : Int32) : evM zcod (d + 1) 73 [.ref l0, .int l1, .int l2] M = evk zcod none d zc_X7_pays 0 [(0, .ref l0), (1, .int l1), (2, .int l2)] [] M := evM_eq zcod d 73 _ M (Nat.le_of_ble_eq_true rfl)
theorem B_X7_pays_0 (d : Nat) (S : mS) (I : mI) (L : mJ) (l0 : Nat) (l1 : Int32) (l2 : Int32) :
  evk zcod none d zc_X7_pays 0 [(0, .ref l0), (1, .int l1), (2, .int l2)] [] (S, I, L) =
  if kK S l0 = 7 then
 (bV (evM zcod d 74 [.ref l0, .int (nI 0), .int l2, .int (nI 0), .int (nI 0), .int l1] (S, I, L)) fun M1 =>
 if M1.1.1 = S.1 then
 (if kK M1.1 l0 = 7 then
 (bI (evM zcod d 75 [.ref l0, .int (nI 3)] M1) fun x2 M2 =>
 if M2.1.1 = M1.1.1 then
 (bI (evM zcod d 146 [.int x2, .int (nI 0), .int (nI 99)] M2) fun x3 M3 =>
 if M3.1.1 = M2.1.1 then
 (some (some (.int x3), M3)) else none) else none) else none) else none) else none :=
  (blk_ok zcod none d zc_X7_pays [(1, .iconst 0, 2, [], none), (2, .iload_n 2, 3, [], none), (3, .iconst 0, 4, [], none), (4, .iconst 0, 5, [], none), (5, .iload_n 1, 6, [], none), (6, .invokevirtual 22, 9, [74, 5, 0, 7, 258, 259, 260, 261], none), (9, .aload_n 0, 10, [], none), (10, .iconst 3, 11, [], none), (11, .invokevirtual 26, 14, [75, 1, 1, 7, 262, 263, 264, 261], none), (14, .iconst 0, 15, [], none), (15, .bipush 99, 17, [], none), (17, .invokestatic 30, 20, [146, 3, 1, 1, 265, 266, 222], none), (20, .ireturn, 21, [0], none)] (0, .aload_n 0, 1, [], none) (by decide +kernel) _ _ _).trans rfl
theorem E_X7_look (d : Nat) (M : zM) (l0 : Nat) (l1 : Int32) (l2 : Int32) (l3 : Int32) (l4 : Int32) (l5 : Int32) : evM zcod (d + 1) 74 [.ref l0, .int l1, .int l2, .int l3, .int l4, .int l5] M = evk zcod none d zc_X7_look 0 [(0, .ref l0), (1, .int l1), (2, .int l2), (3, .int l3), (4, .int l4), (5, .int l5)] [] M := evM_eq zcod d 74 _ M (Nat.le_of_ble_eq_true rfl)
theorem B_X7_look_0 (d : Nat) (S : mS) (I : mI) (L : mJ) (l0 : Nat) (l1 : Int32) (l2 : Int32) (l3 : Int32) (l4 : Int32) (l5 : Int32) :
  evk zcod none d zc_X7_look 0 [(0, .ref l0), (1, .int l1), (2, .int l2), (3, .int l3), (4, .int l4), (5, .int l5)] [] (S, I, L) =
  if kK S l0 = 7 then
 (if kK S (kR S l0 1) = 20 ∧ zin (nI 2) (kN S (kR S l0 1)) then
 (if kK S l0 = 7 then
 (if kK S (kR S l0 1) = 20 ∧ zin (nI 3) (kN S (kR S l0 1)) then
 (if kK S l0 = 7 then
 (if kK S (kR S l0 1) = 20 ∧ zin (nI 4) (kN S (kR S l0 1)) then
 (if kK S l0 = 7 then
 (if kK S (kR S l0 1) = 20 ∧ zin (nI 5) (kN S (kR S l0 1)) then
 (evk zcod none d zc_X7_look 29 [(0, .ref l0), (5, .int l5)] [] (S, (uI (uI (uI (uI I (kR S l0 1) (zix (nI 2)) l1) (kR S l0 1) (zix (nI 3)) l2) (kR S l0 1) (zix (nI 4)) l3) (kR S l0 1) (zix (nI 5)) l4), L)) else none) else none) else none) else none) else none) else none) else none) else none :=
  (blk_ok zcod none d zc_X7_look [(1, .getfield 15, 4, [7, 1, 2, 256, 0], none), (4, .iconst 2, 5, [], none), (5, .iload_n 1, 6, [], none), (6, .iastore, 7, [20], none), (7, .aload_n 0, 8, [], none), (8, .getfield 15, 11, [7, 1, 2, 256, 0], none), (11, .iconst 3, 12, [], none), (12, .iload_n 2, 13, [], none), (13, .iastore, 14, [20], none), (14, .aload_n 0, 15, [], none), (15, .getfield 15, 18, [7, 1, 2, 256, 0], none), (18, .iconst 4, 19, [], none), (19, .iload_n 3, 20, [], none), (20, .iastore, 21, [20], none), (21, .aload_n 0, 22, [], none), (22, .getfield 15, 25, [7, 1, 2, 256, 0], none), (25, .iconst 5, 26, [], none), (26, .iload 4, 28, [], none), (28, .iastore, 29, [20], none)] (0, .aload_n 0, 1, [], none) (by decide +kernel) _ _ _).trans rfl
theorem B_X7_look_29 (d : Nat) (S : mS) (I : mI) (L : mJ) (l0 : Nat) (l5 : Int32) :
  evk zcod none d zc_X7_look 29 [(0, .ref l0), (5, .int l5)] [] (S, I, L) =
  if kK S l0 = 7 then
 (if kK S (kR S l0 1) = 20 ∧ zin (nI 6) (kN S (kR S l0 1)) then
 (some (none, (S, (uI I (kR S l0 1) (zix (nI 6)) l5), L))) else none) else none :=
  (blk_ok zcod none d zc_X7_look [(30, .getfield 15, 33, [7, 1, 2, 256, 0], none), (33, .bipush 6, 35, [], none), (35, .iload 5, 37, [], none), (37, .iastore, 38, [20], none), (38, .return_, 39, [], none)] (29, .aload_n 0, 30, [], some [0, 5]) (by decide +kernel) _ _ _).trans rfl
theorem E_X7_valueOf (d : Nat) (M : zM) (l0 : Nat) (l1 : Int32) : evM zcod (d + 1) 75 [.ref l0, .int l1] M = evk zcod none d zc_X7_valueOf 0 [(0, .ref l0), (1, .int l1)] [] M := evM_eq zcod d 75 _ M (Nat.le_of_ble_eq_true rfl)
theorem B_X7_valueOf_0 (d : Nat) (S : mS) (I : mI) (L : mJ) (l0 : Nat) (l1 : Int32) :
  evk zcod none d zc_X7_valueOf 0 [(0, .ref l0), (1, .int l1)] [] (S, I, L) =
  if kK S l0 = 7 then
 (if kK S (kR S l0 0) = 3 then
 (bI (evM zcod d 13 [.ref (kR S l0 0), .int l1] (S, I, L)) fun x1 M1 =>
 if M1.1.1 = S.1 then
 (evk zcod none d zc_X7_valueOf 14 [(0, .ref l0), (2, .int x1), (3, .int (nI 0)), (4, .int (nI 0))] [] M1) else none) else none) else none :=
  (blk_ok zcod none d zc_X7_valueOf [(1, .getfield 9, 4, [7, 0, 2, 255, 0], none), (4, .iload_n 1, 5, [], none), (5, .invokevirtual 34, 8, [13, 1, 1, 3, 267, 268, 269, 29], none), (8, .istore_n 2, 9, [], none), (9, .iconst 0, 10, [], none), (10, .istore_n 3, 11, [], none), (11, .iconst 0, 12, [], none), (12, .istore 4, 14, [], none)] (0, .aload_n 0, 1, [], none) (by decide +kernel) _ _ _).trans rfl
theorem B_X7_valueOf_51 (d : Nat) (S : mS) (I : mI) (L : mJ) (l0 : Nat) (l2 : Int32) (l3 : Int32) (l4 : Int32) (l5 : Int32) :
  evk zcod none d zc_X7_valueOf 51 [(0, .ref l0), (2, .int l2), (3, .int l3), (4, .int l4), (5, .int l5)] [] (S, I, L) =
  if kK S l0 = 7 then
 (if kK S (kR S l0 2) = 20 then
 (if l3 < (nI (kN S (kR S l0 2))) then
 evk zcod none d zc_X7_valueOf 62 [(0, .ref l0), (2, .int l2), (3, .int l3), (4, .int l4), (5, .int l5)] [] (S, I, L)
 else
 some (some (.int (nI 0)), (S, I, L))) else none) else none :=
  (blk_ok zcod none d zc_X7_valueOf [(52, .aload_n 0, 53, [], none), (53, .getfield 19, 56, [7, 2, 2, 257, 0], none), (56, .arraylength, 57, [20], none), (57, .if_icmp .lt 5, 60, [62], none), (60, .iconst 0, 61, [], none), (61, .ireturn, 62, [0], none)] (51, .iload_n 3, 52, [], some [0, 2, 3, 4, 5]) (by decide +kernel) _ _ _).trans rfl
theorem B_X7_valueOf_62 (d : Nat) (S : mS) (I : mI) (L : mJ) (l0 : Nat) (l2 : Int32) (l3 : Int32) (l4 : Int32) (l5 : Int32) :
  evk zcod none d zc_X7_valueOf 62 [(0, .ref l0), (2, .int l2), (3, .int l3), (4, .int l4), (5, .int l5)] [] (S, I, L) =
  if kK S l0 = 7 then
 (if l5 < (nI 0) then
 evk zcod none d zc_X7_valueOf 77 [(0, .ref l0), (2, .int l2), (3, .int l3), (4, .int l4), (5, .int l5)] [.int l3, .ref (kR S l0 2)] (S, I, L)
 else
 evk zcod none d zc_X7_valueOf 83 [(0, .ref l0), (2, .int l2), (3, .int l3), (4, .int l4)] [.int l5, .int l3, .ref (kR S l0 2)] (S, I, L)) else none :=
  (blk_ok zcod none d zc_X7_valueOf [(63, .getfield 19, 66, [7, 2, 2, 257, 0], none), (66, .iload_n 3, 67, [], none), (67, .iload 5, 69, [], none), (69, .ifCond .lt 8, 72, [77], none), (72, .iload 5, 74, [], none), (74, .goto 9, 77, [83], none)] (62, .aload_n 0, 63, [], some [0, 2, 3, 4, 5]) (by decide +kernel) _ _ _).trans rfl
theorem B_X7_valueOf_77 (d : Nat) (S : mS) (I : mI) (L : mJ) (l0 : Nat) (l2 : Int32) (l3 : Int32) (l4 : Int32) (l5 : Int32) (s0 : Nat) (s1 : Int32) :
  evk zcod none d zc_X7_valueOf 77 [(0, .ref l0), (2, .int l2), (3, .int l3), (4, .int l4), (5, .int l5)] [.int s1, .ref s0] (S, I, L) =
  if kK S l0 = 7 then
 (bI (evM zcod d 76 [.ref l0, .int l5] (S, I, L)) fun x1 M1 =>
 if M1.1.1 = S.1 then
 (evk zcod none d zc_X7_valueOf 83 [(0, .ref l0), (2, .int l2), (3, .int l3), (4, .int l4)] [.int x1, .int s1, .ref s0] M1) else none) else none :=
  (blk_ok zcod none d zc_X7_valueOf [(78, .iload 5, 80, [], none), (80, .invokevirtual 46, 83, [76, 1, 1, 7, 276, 277, 278, 261], none)] (77, .aload_n 0, 78, [], some [0, 2, 3, 4, 5]) (by decide +kernel) _ _ _).trans rfl
theorem B_X7_valueOf_83 (d : Nat) (S : mS) (I : mI) (L : mJ) (l0 : Nat) (l2 : Int32) (l3 : Int32) (l4 : Int32) (s0 : Nat) (s1 : Int32) (s2 : Int32) :
  evk zcod none d zc_X7_valueOf 83 [(0, .ref l0), (2, .int l2), (3, .int l3), (4, .int l4)] [.int s2, .int s1, .ref s0] (S, I, L) =
  if kK S s0 = 20 ∧ zin s1 (kN S s0) then
 (evk zcod none d zc_X7_valueOf 190 [(0, .ref l0), (2, .int l2), (3, .int (l3 + (nI 1))), (4, .int l4)] [] (S, (uI I s0 (zix s1) s2), L)) else none :=
  (blk_ok zcod none d zc_X7_valueOf [(84, .iinc 3 1, 87, [], none), (87, .goto 103, 90, [190], none)] (83, .iastore, 84, [20], some [0, 2, 3, 4]) (by decide +kernel) _ _ _).trans rfl
theorem B_X7_valueOf_90 (d : Nat) (S : mS) (I : mI) (L : mJ) (l0 : Nat) (l2 : Int32) (l3 : Int32) (l4 : Int32) (l5 : Int32) :
  evk zcod none d zc_X7_valueOf 90 [(0, .ref l0), (2, .int l2), (3, .int l3), (4, .int l4), (5, .int l5)] [] (S, I, L) =
  if kK S l0 = 7 then
 (bI (evM zcod d 77 [.ref l0, .int (l3 - (nI 1))] (S, I, L)) fun x1 M1 =>
 if M1.1.1 = S.1 then
 (if kK M1.1 l0 = 7 then
 (bI (evM zcod d 77 [.ref l0, .int (l3 - (nI 2))] M1) fun x2 M2 =>
 if M2.1.1 = M1.1.1 then
 (if ¬ l5 = (-6 : Int32) then
 evk zcod none d zc_X7_valueOf 118 [(0, .ref l0), (2, .int l2), (3, .int l3), (4, .int l4), (5, .int l5), (6, .int x1), (7, .int x2)] [] M2
 else
 some (some (.int x1), M2)) else none) else none) else none) else none :=
  (blk_ok zcod none d zc_X7_valueOf [(91, .iload_n 3, 92, [], none), (92, .iconst 1, 93, [], none), (93, .isub, 94, [], none), (94, .invokevirtual 49, 97, [77, 1, 1, 7, 279, 280, 281, 261], none), (97, .istore 6, 99, [], none), (99, .aload_n 0, 100, [], none), (100, .iload_n 3, 101, [], none), (101, .iconst 2, 102, [], none), (102, .isub, 103, [], none), (103, .invokevirtual 49, 106, [77, 1, 1, 7, 279, 280, 281, 261], none), (106, .istore 7, 108, [], none), (108, .iload 5, 110, [], none), (110, .bipush (-6), 112, [], none), (112, .if_icmp .ne 6, 115, [118], none), (115, .iload 6, 117, [], none), (117, .ireturn, 118, [0], none)] (90, .aload_n 0, 91, [], some [0, 2, 3, 4, 5]) (by decide +kernel) _ _ _).trans rfl
theorem B_X7_valueOf_118 (d : Nat) (S : mS) (I : mI) (L : mJ) (l0 : Nat) (l2 : Int32) (l3 : Int32) (l4 : Int32) (l5 : Int32) (l6 : Int32) (l7 : Int32) :
  evk zcod none d zc_X7_valueOf 118 [(0, .ref l0), (2, .int l2), (3, .int l3), (4, .int l4), (5, .int l5), (6, .int l6), (7, .int l7)] [] (S, I, L) =
  if l3 < (nI 2) then
 evk zcod none d zc_X7_valueOf 135 [] [] (S, I, L)
 else
 if ¬ l5 = (-4 : Int32) then
 evk zcod none d zc_X7_valueOf 137 [(0, .ref l0), (2, .int l2), (3, .int l3), (4, .int l4), (5, .int l5), (6, .int l6), (7, .int l7)] [] (S, I, L)
 else
 if ¬ l6 = (nI 0) then
 evk zcod none d zc_X7_valueOf 137 [(0, .ref l0), (2, .int l2), (3, .int l3), (4, .int l4), (5, .int l5), (6, .int l6), (7, .int l7)] [] (S, I, L)
 else
 evk zcod none d zc_X7_valueOf 135 [] [] (S, I, L) :=
  (blk_ok zcod none d zc_X7_valueOf [(119, .iconst 2, 120, [], none), (120, .if_icmp .lt 15, 123, [135], none), (123, .iload 5, 125, [], none), (125, .bipush (-4), 127, [], none), (127, .if_icmp .ne 10, 130, [137], none), (130, .iload 6, 132, [], none), (132, .ifCond .ne 5, 135, [137], none)] (118, .iload_n 3, 119, [], some [0, 2, 3, 4, 5, 6, 7]) (by decide +kernel) _ _ _).trans rfl
theorem B_X7_valueOf_135 (d : Nat) (S : mS) (I : mI) (L : mJ)  :
  evk zcod none d zc_X7_valueOf 135 [] [] (S, I, L) =
  some (some (.int (nI 0)), (S, I, L)) :=
  (blk_ok zcod none d zc_X7_valueOf [(136, .ireturn, 137, [0], none)] (135, .iconst 0, 136, [], some []) (by decide +kernel) _ _ _).trans rfl
theorem B_X7_valueOf_160 (d : Nat) (S : mS) (I : mI) (L : mJ) (l0 : Nat) (l2 : Int32) (l3 : Int32) (l4 : Int32) :
  evk zcod none d zc_X7_valueOf 160 [(0, .ref l0), (2, .int l2), (3, .int l3), (4, .int l4)] [] (S, I, L) =
  if kK S l0 = 7 then
 (if kK S (kR S l0 0) = 3 then
 (bI (evM zcod d 17 [.ref (kR S l0 0), .int l2] (S, I, L)) fun x1 M1 =>
 if M1.1.1 = S.1 then
 (evk zcod none d zc_X7_valueOf 168 [(0, .ref l0), (3, .int l3), (4, .int l4)] [.int x1] M1) else none) else none) else none :=
  (blk_ok zcod none d zc_X7_valueOf [(161, .getfield 9, 164, [7, 0, 2, 255, 0], none), (164, .iload_n 2, 165, [], none), (165, .invokevirtual 43, 168, [17, 1, 1, 3, 273, 274, 275, 29], none)] (160, .aload_n 0, 161, [], some [0, 2, 3, 4]) (by decide +kernel) _ _ _).trans rfl
theorem B_X7_valueOf_168 (d : Nat) (S : mS) (I : mI) (L : mJ) (l0 : Nat) (l3 : Int32) (l4 : Int32) (s0 : Int32) :
  evk zcod none d zc_X7_valueOf 168 [(0, .ref l0), (3, .int l3), (4, .int l4)] [.int s0] (S, I, L) =
  evk zcod none d zc_X7_valueOf 190 [(0, .ref l0), (2, .int s0), (3, .int l3), (4, .int l4)] [] (S, I, L) :=
  (blk_ok zcod none d zc_X7_valueOf [(169, .goto 21, 172, [190], none)] (168, .istore_n 2, 169, [], some [0, 3, 4]) (by decide +kernel) _ _ _).trans rfl
theorem B_X7_valueOf_172 (d : Nat) (S : mS) (I : mI) (L : mJ) (l0 : Nat) (l2 : Int32) (l3 : Int32) (l4 : Int32) (l5 : Int32) (l6 : Int32) (l7 : Int32) :
  evk zcod none d zc_X7_valueOf 172 [(0, .ref l0), (2, .int l2), (3, .int l3), (4, .int l4), (5, .int l5), (6, .int l6), (7, .int l7)] [] (S, I, L) =
  if kK S l0 = 7 then
 (bI (evM zcod d 78 [.int l5, .int l7, .int l6] (S, I, L)) fun x1 M1 =>
 if M1.1.1 = S.1 then
 (if kK M1.1 (kR S l0 2) = 20 ∧ zin l3 (kN M1.1 (kR S l0 2)) then
 (evk zcod none d zc_X7_valueOf 190 [(0, .ref l0), (2, .int l2), (3, .int (l3 + (nI 1))), (4, .int l4)] [] (M1.1, (uI M1.2.1 (kR S l0 2) (zix l3) x1), M1.2.2)) else none) else none) else none :=
  (blk_ok zcod none d zc_X7_valueOf [(173, .getfield 19, 176, [7, 2, 2, 257, 0], none), (176, .iload_n 3, 177, [], none), (177, .iload 5, 179, [], none), (179, .iload 7, 181, [], none), (181, .iload 6, 183, [], none), (183, .invokestatic 52, 186, [78, 3, 1, 0, 282, 283, 261], none), (186, .iastore, 187, [20], none), (187, .iinc 3 1, 190, [], none)] (172, .aload_n 0, 173, [], some [0, 2, 3, 4, 5, 6, 7]) (by decide +kernel) _ _ _).trans rfl
theorem B_X7_valueOf_190 (d : Nat) (S : mS) (I : mI) (L : mJ) (l0 : Nat) (l2 : Int32) (l3 : Int32) (l4 : Int32) :
  evk zcod none d zc_X7_valueOf 190 [(0, .ref l0), (2, .int l2), (3, .int l3), (4, .int l4)] [] (S, I, L) =
  evk zcod none d zc_X7_valueOf 14 [(0, .ref l0), (2, .int l2), (3, .int l3), (4, .int (l4 + (nI 1)))] [] (S, I, L) :=
  (blk_ok zcod none d zc_X7_valueOf [(193, .goto (-179), 196, [14], none)] (190, .iinc 4 1, 193, [], some [0, 2, 3, 4]) (by decide +kernel) _ _ _).trans rfl
theorem B_X7_valueOf_196 (d : Nat) (S : mS) (I : mI) (L : mJ)  :
  evk zcod none d zc_X7_valueOf 196 [] [] (S, I, L) =
  some (some (.int (nI 0)), (S, I, L)) :=
  (blk_ok zcod none d zc_X7_valueOf [(197, .ireturn, 198, [0], none)] (196, .iconst 0, 197, [], some []) (by decide +kernel) _ _ _).trans rfl
theorem E_X7_varOf (d : Nat) (M : zM) (l0 : Nat) (l1 : Int32) : evM zcod (d + 1) 76 [.ref l0, .int l1] M = evk zcod none d zc_X7_varOf 0 [(0, .ref l0), (1, .int l1)] [] M := evM_eq zcod d 76 _ M (Nat.le_of_ble_eq_true rfl)
theorem B_X7_varOf_27 (d : Nat) (S : mS) (I : mI) (L : mJ)  :
  evk zcod none d zc_X7_varOf 27 [] [] (S, I, L) =
  evk zcod none d zc_X7_varOf 28 [] [.int (nI 0)] (S, I, L) :=
  (blk_ok zcod none d zc_X7_varOf [] (27, .iconst 0, 28, [], some []) (by decide +kernel) _ _ _).trans rfl
theorem B_X7_varOf_28 (d : Nat) (S : mS) (I : mI) (L : mJ) (s0 : Int32) :
  evk zcod none d zc_X7_varOf 28 [] [.int s0] (S, I, L) =
  some (some (.int s0), (S, I, L)) :=
  (blk_ok zcod none d zc_X7_varOf [] (28, .ireturn, 29, [0], some []) (by decide +kernel) _ _ _).trans rfl
theorem E_X7_onStack (d : Nat) (M : zM) (l0 : Nat) (l1 : Int32) : evM zcod (d + 1) 77 [.ref l0, .int l1] M = evk zcod none d zc_X7_onStack 0 [(0, .ref l0), (1, .int l1)] [] M := evM_eq zcod d 77 _ M (Nat.le_of_ble_eq_true rfl)
theorem B_X7_onStack_0 (d : Nat) (S : mS) (I : mI) (L : mJ) (l0 : Nat) (l1 : Int32) :
  evk zcod none d zc_X7_onStack 0 [(0, .ref l0), (1, .int l1)] [] (S, I, L) =
  if l1 < (nI 0) then
 evk zcod none d zc_X7_onStack 22 [] [] (S, I, L)
 else
 if kK S l0 = 7 then
 (if kK S (kR S l0 2) = 20 then
 (if (nI (kN S (kR S l0 2))) ≤ l1 then
 evk zcod none d zc_X7_onStack 22 [] [] (S, I, L)
 else
 if kK S l0 = 7 then
 (if kK S (kR S l0 2) = 20 ∧ zin l1 (kN S (kR S l0 2)) then
 (evk zcod none d zc_X7_onStack 23 [] [.int (I (kR S l0 2) (zix l1))] (S, I, L)) else none) else none) else none) else none :=
  (blk_ok zcod none d zc_X7_onStack [(1, .ifCond .lt 21, 4, [22], none), (4, .iload_n 1, 5, [], none), (5, .aload_n 0, 6, [], none), (6, .getfield 19, 9, [7, 2, 2, 257, 0], none), (9, .arraylength, 10, [20], none), (10, .if_icmp .ge 12, 13, [22], none), (13, .aload_n 0, 14, [], none), (14, .getfield 19, 17, [7, 2, 2, 257, 0], none), (17, .iload_n 1, 18, [], none), (18, .iaload, 19, [20], none), (19, .goto 4, 22, [23], none)] (0, .iload_n 1, 1, [], none) (by decide +kernel) _ _ _).trans rfl
theorem B_X7_onStack_22 (d : Nat) (S : mS) (I : mI) (L : mJ)  :
  evk zcod none d zc_X7_onStack 22 [] [] (S, I, L) =
  evk zcod none d zc_X7_onStack 23 [] [.int (nI 0)] (S, I, L) :=
  (blk_ok zcod none d zc_X7_onStack [] (22, .iconst 0, 23, [], some []) (by decide +kernel) _ _ _).trans rfl
theorem B_X7_onStack_23 (d : Nat) (S : mS) (I : mI) (L : mJ) (s0 : Int32) :
  evk zcod none d zc_X7_onStack 23 [] [.int s0] (S, I, L) =
  some (some (.int s0), (S, I, L)) :=
  (blk_ok zcod none d zc_X7_onStack [] (23, .ireturn, 24, [0], some []) (by decide +kernel) _ _ _).trans rfl
theorem E_X7_joined (d : Nat) (M : zM) (l0 : Int32) (l1 : Int32) (l2 : Int32) : evM zcod (d + 1) 78 [.int l0, .int l1, .int l2] M = evk zcod none d zc_X7_joined 0 [(0, .int l0), (1, .int l1), (2, .int l2)] [] M := evM_eq zcod d 78 _ M (Nat.le_of_ble_eq_true rfl)
theorem B_X7_joined_0 (d : Nat) (S : mS) (I : mI) (L : mJ) (l0 : Int32) (l1 : Int32) (l2 : Int32) :
  evk zcod none d zc_X7_joined 0 [(0, .int l0), (1, .int l1), (2, .int l2)] [] (S, I, L) =
  if l0 = (-3 : Int32) then evk zcod none d zc_X7_joined 36 [(1, .int l1), (2, .int l2)] [] (S, I, L) else
 if l0 = (-2 : Int32) then evk zcod none d zc_X7_joined 32 [(1, .int l1), (2, .int l2)] [] (S, I, L) else
 if l0 = (-1 : Int32) then evk zcod none d zc_X7_joined 28 [(1, .int l1), (2, .int l2)] [] (S, I, L) else
 evk zcod none d zc_X7_joined 40 [(1, .int l1), (2, .int l2)] [] (S, I, L) :=
  (blk_ok zcod none d zc_X7_joined [(1, .tableswitch 39 (-3) (-1) #[35, 31, 27], 28, [40, 36, 32, 28], none)] (0, .iload_n 0, 1, [], none) (by decide +kernel) _ _ _).trans rfl
theorem B_X7_joined_28 (d : Nat) (S : mS) (I : mI) (L : mJ) (l1 : Int32) (l2 : Int32) :
  evk zcod none d zc_X7_joined 28 [(1, .int l1), (2, .int l2)] [] (S, I, L) =
  some (some (.int (l1 + l2)), (S, I, L)) :=
  (blk_ok zcod none d zc_X7_joined [(29, .iload_n 2, 30, [], none), (30, .iadd, 31, [], none), (31, .ireturn, 32, [0], none)] (28, .iload_n 1, 29, [], some [1, 2]) (by decide +kernel) _ _ _).trans rfl
theorem B_X7_joined_32 (d : Nat) (S : mS) (I : mI) (L : mJ) (l1 : Int32) (l2 : Int32) :
  evk zcod none d zc_X7_joined 32 [(1, .int l1), (2, .int l2)] [] (S, I, L) =
  some (some (.int (l1 - l2)), (S, I, L)) :=
  (blk_ok zcod none d zc_X7_joined [(33, .iload_n 2, 34, [], none), (34, .isub, 35, [], none), (35, .ireturn, 36, [0], none)] (32, .iload_n 1, 33, [], some [1, 2]) (by decide +kernel) _ _ _).trans rfl
theorem B_X7_joined_36 (d : Nat) (S : mS) (I : mI) (L : mJ) (l1 : Int32) (l2 : Int32) :
  evk zcod none d zc_X7_joined 36 [(1, .int l1), (2, .int l2)] [] (S, I, L) =
  some (some (.int (l1 * l2)), (S, I, L)) :=
  (blk_ok zcod none d zc_X7_joined [(37, .iload_n 2, 38, [], none), (38, .imul, 39, [], none), (39, .ireturn, 40, [0], none)] (36, .iload_n 1, 37, [], some [1, 2]) (by decide +kernel) _ _ _).trans rfl
theorem B_X7_joined_40 (d : Nat) (S : mS) (I : mI) (L : mJ) (l1 : Int32) (l2 : Int32) :
  evk zcod none d zc_X7_joined 40 [(1, .int l1), (2, .int l2)] [] (S, I, L) =
  if ¬ l2 = (nI 0) then
 evk zcod none d zc_X7_joined 48 [(1, .int l1), (2, .int l2)] [] (S, I, L)
 else
 evk zcod none d zc_X7_joined 51 [] [.int (nI 0)] (S, I, L) :=
  (blk_ok zcod none d zc_X7_joined [(41, .ifCond .ne 7, 44, [48], none), (44, .iconst 0, 45, [], none), (45, .goto 6, 48, [51], none)] (40, .iload_n 2, 41, [], some [1, 2]) (by decide +kernel) _ _ _).trans rfl
theorem B_X7_joined_48 (d : Nat) (S : mS) (I : mI) (L : mJ) (l1 : Int32) (l2 : Int32) :
  evk zcod none d zc_X7_joined 48 [(1, .int l1), (2, .int l2)] [] (S, I, L) =
  if l2 = nI 0 then none else
 evk zcod none d zc_X7_joined 51 [] [.int (l1 / l2)] (S, I, L) :=
  (blk_ok zcod none d zc_X7_joined [(49, .iload_n 2, 50, [], none), (50, .idiv, 51, [], none)] (48, .iload_n 1, 49, [], some [1, 2]) (by decide +kernel) _ _ _).trans rfl
theorem B_X7_joined_51 (d : Nat) (S : mS) (I : mI) (L : mJ) (s0 : Int32) :
  evk zcod none d zc_X7_joined 51 [] [.int s0] (S, I, L) =
  some (some (.int s0), (S, I, L)) :=
  (blk_ok zcod none d zc_X7_joined [] (51, .ireturn, 52, [0], some []) (by decide +kernel) _ _ _).trans rfl
theorem E_X0_isGust (d : Nat) (M : zM) (l0 : Nat) (l1 : Int32) (l2 : Int32) : evM zcod (d + 1) 80 [.ref l0, .int l1, .int l2] M = evk zcod none d zc_X0_isGust 0 [(0, .ref l0), (1, .int l1), (2, .int l2)] [] M := evM_eq zcod d 80 _ M (Nat.le_of_ble_eq_true rfl)
theorem B_X0_isGust_0 (d : Nat) (S : mS) (I : mI) (L : mJ) (l0 : Nat) (l1 : Int32) (l2 : Int32) :
  evk zcod none d zc_X0_isGust 0 [(0, .ref l0), (1, .int l1), (2, .int l2)] [] (S, I, L) =
  bI (evM zcod d 81 [.int l2, .int (nI 113)] (S, I, L)) fun x1 M1 =>
 if M1.1.1 = S.1 then
 (bI (evM zcod d 81 [.int x1, .int ((nI 4) * l1)] M1) fun x2 M2 =>
 if M2.1.1 = M1.1.1 then
 (if (nI 100) = nI 0 then none else
 if kK M2.1 l0 = 0 then
 (if kK M2.1 (kR M2.1 l0 0) = 5 then
 (if (M2.2.1 (kR M2.1 l0 0) 3) ≤ (zrem ((x2.toUInt32 >>> ((nI 1).toUInt32 &&& 31)).toInt32) (nI 100)) then
 evk zcod none d zc_X0_isGust 33 [] [] M2
 else
 evk zcod none d zc_X0_isGust 34 [] [.int (nI 1)] M2) else none) else none) else none) else none :=
  (blk_ok zcod none d zc_X0_isGust [(1, .bipush 113, 3, [], none), (3, .invokestatic 23, 6, [81, 2, 1, 0, 288, 289, 290], none), (6, .iconst 4, 7, [], none), (7, .iload_n 1, 8, [], none), (8, .imul, 9, [], none), (9, .invokestatic 23, 12, [81, 2, 1, 0, 288, 289, 290], none), (12, .istore_n 3, 13, [], none), (13, .iload_n 3, 14, [], none), (14, .iconst 1, 15, [], none), (15, .iushr, 16, [], none), (16, .bipush 100, 18, [], none), (18, .irem, 19, [], none), (19, .aload_n 0, 20, [], none), (20, .getfield 9, 23, [0, 0, 2, 285, 0], none), (23, .getfield 27, 26, [5, 3, 0, 291, 1], none), (26, .if_icmp .ge 7, 29, [33], none), (29, .iconst 1, 30, [], none), (30, .goto 4, 33, [34], none)] (0, .iload_n 2, 1, [], none) (by decide +kernel) _ _ _).trans rfl
theorem B_X0_isGust_33 (d : Nat) (S : mS) (I : mI) (L : mJ)  :
  evk zcod none d zc_X0_isGust 33 [] [] (S, I, L) =
  evk zcod none d zc_X0_isGust 34 [] [.int (nI 0)] (S, I, L) :=
  (blk_ok zcod none d zc_X0_isGust [] (33, .iconst 0, 34, [], some []) (by decide +kernel) _ _ _).trans rfl
theorem B_X0_isGust_34 (d : Nat) (S : mS) (I : mI) (L : mJ) (s0 : Int32) :
  evk zcod none d zc_X0_isGust 34 [] [.int s0] (S, I, L) =
  if s0 = nI 0 ∨ s0 = nI 1 then some (some (.int s0), (S, I, L)) else none :=
  (blk_ok zcod none d zc_X0_isGust [] (34, .ireturn, 35, [1], some []) (by decide +kernel) _ _ _).trans rfl
theorem E_X0_stirred (d : Nat) (M : zM) (l0 : Int32) (l1 : Int32) : evM zcod (d + 1) 81 [.int l0, .int l1] M = evk zcod none d zc_X0_stirred 0 [(0, .int l0), (1, .int l1)] [] M := evM_eq zcod d 81 _ M (Nat.le_of_ble_eq_true rfl)
theorem B_X0_stirred_0 (d : Nat) (S : mS) (I : mI) (L : mJ) (l0 : Int32) (l1 : Int32) :
  evk zcod none d zc_X0_stirred 0 [(0, .int l0), (1, .int l1)] [] (S, I, L) =
  some (some (.int ((((l0 ^^^ l1) * (nI 1103515245)) + (nI 12345)) ^^^ ((((l0 ^^^ l1) * (nI 1103515245)) + (nI 12345)).toUInt32 >>> ((nI 15).toUInt32 &&& 31)).toInt32)), (S, I, L)) :=
  (blk_ok zcod none d zc_X0_stirred [(1, .iload_n 1, 2, [], none), (2, .ixor, 3, [], none), (3, .ldc 33, 5, [0, 1103515245, 292], none), (5, .imul, 6, [], none), (6, .sipush 12345, 9, [], none), (9, .iadd, 10, [], none), (10, .istore_n 2, 11, [], none), (11, .iload_n 2, 12, [], none), (12, .iload_n 2, 13, [], none), (13, .bipush 15, 15, [], none), (15, .iushr, 16, [], none), (16, .ixor, 17, [], none), (17, .ireturn, 18, [0], none)] (0, .iload_n 0, 1, [], none) (by decide +kernel) _ _ _).trans rfl
theorem E_X0_pass (d : Nat) (M : zM) (l0 : Nat) (l1 : Nat) (l2 : Int32) (l3 : Int32) : evM zcod (d + 1) 82 [.ref l0, .ref l1, .int l2, .int l3] M = evk zcod none d zc_X0_pass 0 [(0, .ref l0), (1, .ref l1), (2, .int l2), (3, .int l3)] [] M := evM_eq zcod d 82 _ M (Nat.le_of_ble_eq_true rfl)
theorem B_X0_pass_0 (d : Nat) (S : mS) (I : mI) (L : mJ) (l0 : Nat) (l1 : Nat) (l2 : Int32) (l3 : Int32) :
  evk zcod none d zc_X0_pass 0 [(0, .ref l0), (1, .ref l1), (2, .int l2), (3, .int l3)] [] (S, I, L) =
  evk zcod none d zc_X0_pass 3 [(0, .ref l0), (1, .ref l1), (2, .int l2), (3, .int l3), (4, .int (nI 0))] [] (S, I, L) :=
  (blk_ok zcod none d zc_X0_pass [(1, .istore 4, 3, [], none)] (0, .iconst 0, 1, [], none) (by decide +kernel) _ _ _).trans rfl
theorem B_X0_pass_3 (d : Nat) (S : mS) (I : mI) (L : mJ) (l0 : Nat) (l1 : Nat) (l2 : Int32) (l3 : Int32) (l4 : Int32) :
  evk zcod none d zc_X0_pass 3 [(0, .ref l0), (1, .ref l1), (2, .int l2), (3, .int l3), (4, .int l4)] [] (S, I, L) =
  if l2 ≤ l4 then
 evk zcod none d zc_X0_pass 50 [] [] (S, I, L)
 else
 if kK S l1 = 8 then
 (bI (evM zcod d 23 [.ref l1] (S, I, L)) fun x1 M1 =>
 if M1.1.1 = S.1 then
 (if ¬ x1 = (nI 0) then
 evk zcod none d zc_X0_pass 30 [(0, .ref l0), (1, .ref l1), (2, .int l2), (3, .int l3), (4, .int l4)] [] M1
 else
 if kK M1.1 l1 = 8 then
 (if kK M1.1 l1 = 8 then
 (some (none, (M1.1, (uI M1.2.1 l1 3 ((M1.2.1 l1 3) + (l2 - l4))), M1.2.2))) else none) else none) else none) else none :=
  (blk_ok zcod none d zc_X0_pass [(5, .iload_n 2, 6, [], none), (6, .if_icmp .ge 44, 9, [50], none), (9, .aload_n 1, 10, [], none), (10, .invokevirtual 34, 13, [23, 0, 1, 8, 293, 294, 295, 60], none), (13, .ifCond .ne 17, 16, [30], none), (16, .aload_n 1, 17, [], none), (17, .dup, 18, [], none), (18, .getfield 40, 21, [8, 3, 0, 296, 1], none), (21, .iload_n 2, 22, [], none), (22, .iload 4, 24, [], none), (24, .isub, 25, [], none), (25, .iadd, 26, [], none), (26, .putfield 40, 29, [8, 3, 0, 296, 1, 0], none), (29, .return_, 30, [], none)] (3, .iload 4, 5, [], some [0, 1, 2, 3, 4]) (by decide +kernel) _ _ _).trans rfl
theorem B_X0_pass_30 (d : Nat) (S : mS) (I : mI) (L : mJ) (l0 : Nat) (l1 : Nat) (l2 : Int32) (l3 : Int32) (l4 : Int32) :
  evk zcod none d zc_X0_pass 30 [(0, .ref l0), (1, .ref l1), (2, .int l2), (3, .int l3), (4, .int l4)] [] (S, I, L) =
  if kK S l1 = 8 then
 (if kK S l0 = 0 then
 (bI (evM zcod d 80 [.ref l0, .int (I l1 3), .int l3] (S, I, L)) fun x1 M1 =>
 if M1.1.1 = S.1 then
 (if kK M1.1 l0 = 0 then
 (bV (evM zcod d 83 [.ref l0, .ref l1, .int x1] M1) fun M2 =>
 if M2.1.1 = M1.1.1 then
 (evk zcod none d zc_X0_pass 3 [(0, .ref l0), (1, .ref l1), (2, .int l2), (3, .int l3), (4, .int (l4 + (nI 1)))] [] M2) else none) else none) else none) else none) else none :=
  (blk_ok zcod none d zc_X0_pass [(31, .aload_n 1, 32, [], none), (32, .aload_n 0, 33, [], none), (33, .aload_n 1, 34, [], none), (34, .getfield 40, 37, [8, 3, 0, 296, 1], none), (37, .iload_n 3, 38, [], none), (38, .invokevirtual 43, 41, [80, 2, 1, 0, 297, 298, 299, 290], none), (41, .invokevirtual 47, 44, [83, 2, 0, 0, 300, 301, 302, 290], none), (44, .iinc 4 1, 47, [], none), (47, .goto (-44), 50, [3], none)] (30, .aload_n 0, 31, [], some [0, 1, 2, 3, 4]) (by decide +kernel) _ _ _).trans rfl
theorem B_X0_pass_50 (d : Nat) (S : mS) (I : mI) (L : mJ)  :
  evk zcod none d zc_X0_pass 50 [] [] (S, I, L) =
  some (none, (S, I, L)) :=
  (blk_ok zcod none d zc_X0_pass [] (50, .return_, 51, [], some []) (by decide +kernel) _ _ _).trans rfl
theorem E_X0_passOne (d : Nat) (M : zM) (l0 : Nat) (l1 : Nat) (l2 : Int32) : evM zcod (d + 1) 83 [.ref l0, .ref l1, .int l2] M = evk zcod none d zc_X0_passOne 0 [(0, .ref l0), (1, .ref l1), (2, .int l2)] [] M := evM_eq zcod d 83 _ M (Nat.le_of_ble_eq_true rfl)
theorem B_X0_passOne_0 (d : Nat) (S : mS) (I : mI) (L : mJ) (l0 : Nat) (l1 : Nat) (l2 : Int32) :
  evk zcod none d zc_X0_passOne 0 [(0, .ref l0), (1, .ref l1), (2, .int l2)] [] (S, I, L) =
  if kK S l1 = 8 then
 (bI (evM zcod d 22 [.ref l1, .int (nI 1)] (S, I, L)) fun x1 M1 =>
 if M1.1.1 = S.1 then
 (if kK M1.1 l0 = 0 then
 (if kK M1.1 l1 = 8 then
 (if kK M1.1 l1 = 8 then
 (bI (evM zcod d 23 [.ref l1] M1) fun x2 M2 =>
 if M2.1.1 = M1.1.1 then
 (if kK M2.1 l1 = 8 then
 (bI (evM zcod d 24 [.ref l1] M2) fun x3 M3 =>
 if M3.1.1 = M2.1.1 then
 (if kK M3.1 (kR M1.1 l0 1) = 7 then
 (bV (evM zcod d 69 [.ref (kR M1.1 l0 1), .int (M1.2.1 l1 3), .int x2, .int x3] M3) fun M4 =>
 if M4.1.1 = M3.1.1 then
 (evk zcod none d zc_X0_passOne 25 [(0, .ref l0), (1, .ref l1), (2, .int l2), (3, .int x1)] [] M4) else none) else none) else none) else none) else none) else none) else none) else none) else none) else none :=
  (blk_ok zcod none d zc_X0_passOne [(1, .iconst 1, 2, [], none), (2, .invokevirtual 51, 5, [22, 1, 1, 8, 303, 58, 59, 60], none), (5, .istore_n 3, 6, [], none), (6, .aload_n 0, 7, [], none), (7, .getfield 15, 10, [0, 1, 2, 286, 0], none), (10, .aload_n 1, 11, [], none), (11, .getfield 40, 14, [8, 3, 0, 296, 1], none), (14, .aload_n 1, 15, [], none), (15, .invokevirtual 34, 18, [23, 0, 1, 8, 293, 294, 295, 60], none), (18, .aload_n 1, 19, [], none), (19, .invokevirtual 55, 22, [24, 0, 1, 8, 304, 305, 306, 60], none), (22, .invokevirtual 58, 25, [69, 3, 0, 7, 307, 308, 309, 261], none)] (0, .aload_n 1, 1, [], none) (by decide +kernel) _ _ _).trans rfl
theorem B_X0_passOne_25 (d : Nat) (S : mS) (I : mI) (L : mJ) (l0 : Nat) (l1 : Nat) (l2 : Int32) (l3 : Int32) :
  evk zcod none d zc_X0_passOne 25 [(0, .ref l0), (1, .ref l1), (2, .int l2), (3, .int l3)] [] (S, I, L) =
  evk zcod none d zc_X0_passOne 28 [(0, .ref l0), (1, .ref l1), (2, .int l2), (3, .int l3), (4, .int (nI 0))] [] (S, I, L) :=
  (blk_ok zcod none d zc_X0_passOne [(26, .istore 4, 28, [], none)] (25, .iconst 0, 26, [], some [0, 1, 2, 3]) (by decide +kernel) _ _ _).trans rfl
theorem B_X0_passOne_28 (d : Nat) (S : mS) (I : mI) (L : mJ) (l0 : Nat) (l1 : Nat) (l2 : Int32) (l3 : Int32) (l4 : Int32) :
  evk zcod none d zc_X0_passOne 28 [(0, .ref l0), (1, .ref l1), (2, .int l2), (3, .int l3), (4, .int l4)] [] (S, I, L) =
  if kK S l1 = 8 then
 (if kK S (kR S l1 0) = 9 then
 (bI (evM zcod d 1 [.ref (kR S l1 0)] (S, I, L)) fun x1 M1 =>
 if M1.1.1 = S.1 then
 (if x1 ≤ l4 then
 evk zcod none d zc_X0_passOne 63 [(0, .ref l0), (1, .ref l1), (3, .int l3)] [] M1
 else
 if ((l3 >>> (l4 &&& nI 31)) &&& (nI 1)) = (nI 0) then
 evk zcod none d zc_X0_passOne 57 [(0, .ref l0), (1, .ref l1), (2, .int l2), (3, .int l3), (4, .int l4)] [] M1
 else
 if kK M1.1 l0 = 0 then
 (bV (evM zcod d 84 [.ref l0, .ref l1, .int l4, .int l2] M1) fun M2 =>
 if M2.1.1 = M1.1.1 then
 (evk zcod none d zc_X0_passOne 57 [(0, .ref l0), (1, .ref l1), (2, .int l2), (3, .int l3), (4, .int l4)] [] M2) else none) else none) else none) else none) else none :=
  (blk_ok zcod none d zc_X0_passOne [(30, .aload_n 1, 31, [], none), (31, .getfield 64, 34, [8, 0, 2, 310, 1], none), (34, .invokevirtual 68, 37, [1, 0, 1, 9, 311, 52, 53, 11], none), (37, .if_icmp .ge 26, 40, [63], none), (40, .iload_n 3, 41, [], none), (41, .iload 4, 43, [], none), (43, .ishr, 44, [], none), (44, .iconst 1, 45, [], none), (45, .iand, 46, [], none), (46, .ifCond .eq 11, 49, [57], none), (49, .aload_n 0, 50, [], none), (50, .aload_n 1, 51, [], none), (51, .iload 4, 53, [], none), (53, .iload_n 2, 54, [], none), (54, .invokevirtual 73, 57, [84, 3, 0, 0, 312, 313, 314, 290], none)] (28, .iload 4, 30, [], some [0, 1, 2, 3, 4]) (by decide +kernel) _ _ _).trans rfl
theorem B_X0_passOne_57 (d : Nat) (S : mS) (I : mI) (L : mJ) (l0 : Nat) (l1 : Nat) (l2 : Int32) (l3 : Int32) (l4 : Int32) :
  evk zcod none d zc_X0_passOne 57 [(0, .ref l0), (1, .ref l1), (2, .int l2), (3, .int l3), (4, .int l4)] [] (S, I, L) =
  evk zcod none d zc_X0_passOne 28 [(0, .ref l0), (1, .ref l1), (2, .int l2), (3, .int l3), (4, .int (l4 + (nI 1)))] [] (S, I, L) :=
  (blk_ok zcod none d zc_X0_passOne [(60, .goto (-32), 63, [28], none)] (57, .iinc 4 1, 60, [], some [0, 1, 2, 3, 4]) (by decide +kernel) _ _ _).trans rfl
theorem B_X0_passOne_63 (d : Nat) (S : mS) (I : mI) (L : mJ) (l0 : Nat) (l1 : Nat) (l3 : Int32) :
  evk zcod none d zc_X0_passOne 63 [(0, .ref l0), (1, .ref l1), (3, .int l3)] [] (S, I, L) =
  evk zcod none d zc_X0_passOne 66 [(0, .ref l0), (1, .ref l1), (3, .int l3), (4, .int (nI 0))] [] (S, I, L) :=
  (blk_ok zcod none d zc_X0_passOne [(64, .istore 4, 66, [], none)] (63, .iconst 0, 64, [], some [0, 1, 3]) (by decide +kernel) _ _ _).trans rfl
theorem B_X0_passOne_66 (d : Nat) (S : mS) (I : mI) (L : mJ) (l0 : Nat) (l1 : Nat) (l3 : Int32) (l4 : Int32) :
  evk zcod none d zc_X0_passOne 66 [(0, .ref l0), (1, .ref l1), (3, .int l3), (4, .int l4)] [] (S, I, L) =
  if kK S l0 = 0 then
 (if kK S (kR S l0 2) = 20 then
 (if (nI (kN S (kR S l0 2))) ≤ l4 then
 evk zcod none d zc_X0_passOne 90 [(0, .ref l0), (1, .ref l1), (3, .int l3)] [] (S, I, L)
 else
 if kK S l0 = 0 then
 (if kK S (kR S l0 2) = 20 ∧ zin l4 (kN S (kR S l0 2)) then
 (evk zcod none d zc_X0_passOne 66 [(0, .ref l0), (1, .ref l1), (3, .int l3), (4, .int (l4 + (nI 1)))] [] (S, (uI I (kR S l0 2) (zix l4) (nI 0)), L)) else none) else none) else none) else none :=
  (blk_ok zcod none d zc_X0_passOne [(68, .aload_n 0, 69, [], none), (69, .getfield 19, 72, [0, 2, 2, 287, 0], none), (72, .arraylength, 73, [20], none), (73, .if_icmp .ge 17, 76, [90], none), (76, .aload_n 0, 77, [], none), (77, .getfield 19, 80, [0, 2, 2, 287, 0], none), (80, .iload 4, 82, [], none), (82, .iconst 0, 83, [], none), (83, .iastore, 84, [20], none), (84, .iinc 4 1, 87, [], none), (87, .goto (-21), 90, [66], none)] (66, .iload 4, 68, [], some [0, 1, 3, 4]) (by decide +kernel) _ _ _).trans rfl
theorem B_X0_passOne_90 (d : Nat) (S : mS) (I : mI) (L : mJ) (l0 : Nat) (l1 : Nat) (l3 : Int32) :
  evk zcod none d zc_X0_passOne 90 [(0, .ref l0), (1, .ref l1), (3, .int l3)] [] (S, I, L) =
  evk zcod none d zc_X0_passOne 93 [(0, .ref l0), (1, .ref l1), (3, .int l3), (4, .int (nI 0))] [] (S, I, L) :=
  (blk_ok zcod none d zc_X0_passOne [(91, .istore 4, 93, [], none)] (90, .iconst 0, 91, [], some [0, 1, 3]) (by decide +kernel) _ _ _).trans rfl
theorem B_X0_passOne_93 (d : Nat) (S : mS) (I : mI) (L : mJ) (l0 : Nat) (l1 : Nat) (l3 : Int32) (l4 : Int32) :
  evk zcod none d zc_X0_passOne 93 [(0, .ref l0), (1, .ref l1), (3, .int l3), (4, .int l4)] [] (S, I, L) =
  if kK S l1 = 8 then
 (if kK S (kR S l1 0) = 9 then
 (bI (evM zcod d 1 [.ref (kR S l1 0)] (S, I, L)) fun x1 M1 =>
 if M1.1.1 = S.1 then
 (if x1 ≤ l4 then
 evk zcod none d zc_X0_passOne 187 [(1, .ref l1)] [] M1
 else
 if ((l3 >>> (l4 &&& nI 31)) &&& (nI 1)) = (nI 0) then
 evk zcod none d zc_X0_passOne 118 [(0, .ref l0), (1, .ref l1), (3, .int l3), (4, .int l4)] [] M1
 else
 evk zcod none d zc_X0_passOne 119 [(0, .ref l0), (1, .ref l1), (3, .int l3), (4, .int l4)] [.int (nI 1)] M1) else none) else none) else none :=
  (blk_ok zcod none d zc_X0_passOne [(95, .aload_n 1, 96, [], none), (96, .getfield 64, 99, [8, 0, 2, 310, 1], none), (99, .invokevirtual 68, 102, [1, 0, 1, 9, 311, 52, 53, 11], none), (102, .if_icmp .ge 85, 105, [187], none), (105, .iload_n 3, 106, [], none), (106, .iload 4, 108, [], none), (108, .ishr, 109, [], none), (109, .iconst 1, 110, [], none), (110, .iand, 111, [], none), (111, .ifCond .eq 7, 114, [118], none), (114, .iconst 1, 115, [], none), (115, .goto 4, 118, [119], none)] (93, .iload 4, 95, [], some [0, 1, 3, 4]) (by decide +kernel) _ _ _).trans rfl
theorem B_X0_passOne_118 (d : Nat) (S : mS) (I : mI) (L : mJ) (l0 : Nat) (l1 : Nat) (l3 : Int32) (l4 : Int32) :
  evk zcod none d zc_X0_passOne 118 [(0, .ref l0), (1, .ref l1), (3, .int l3), (4, .int l4)] [] (S, I, L) =
  evk zcod none d zc_X0_passOne 119 [(0, .ref l0), (1, .ref l1), (3, .int l3), (4, .int l4)] [.int (nI 0)] (S, I, L) :=
  (blk_ok zcod none d zc_X0_passOne [] (118, .iconst 0, 119, [], some [0, 1, 3, 4]) (by decide +kernel) _ _ _).trans rfl
theorem B_X0_passOne_119 (d : Nat) (S : mS) (I : mI) (L : mJ) (l0 : Nat) (l1 : Nat) (l3 : Int32) (l4 : Int32) (s0 : Int32) :
  evk zcod none d zc_X0_passOne 119 [(0, .ref l0), (1, .ref l1), (3, .int l3), (4, .int l4)] [.int s0] (S, I, L) =
  if s0 = (nI 0) then
 evk zcod none d zc_X0_passOne 156 [(0, .ref l0), (1, .ref l1), (3, .int l3), (4, .int l4), (5, .int s0)] [] (S, I, L)
 else
 if kK S l1 = 8 then
 (if kK S (kR S l1 0) = 9 then
 (bI (evM zcod d 5 [.ref (kR S l1 0), .int l4, .int (nI 4)] (S, I, L)) fun x1 M1 =>
 if M1.1.1 = S.1 then
 (if kK M1.1 l0 = 0 then
 (if kK M1.1 (kR M1.1 l0 0) = 5 then
 (if x1 < (M1.2.1 (kR M1.1 l0 0) 2) then
 evk zcod none d zc_X0_passOne 156 [(0, .ref l0), (1, .ref l1), (3, .int l3), (4, .int l4), (5, .int s0)] [] M1
 else
 if kK M1.1 l0 = 0 then
 (bV (evM zcod d 85 [.ref l0, .ref l1, .int l4] M1) fun M2 =>
 if M2.1.1 = M1.1.1 then
 (evk zcod none d zc_X0_passOne 181 [(0, .ref l0), (1, .ref l1), (3, .int l3), (4, .int l4)] [] M2) else none) else none) else none) else none) else none) else none) else none :=
  (blk_ok zcod none d zc_X0_passOne [(121, .iload 5, 123, [], none), (123, .ifCond .eq 33, 126, [156], none), (126, .aload_n 1, 127, [], none), (127, .getfield 64, 130, [8, 0, 2, 310, 1], none), (130, .iload 4, 132, [], none), (132, .iconst 4, 133, [], none), (133, .invokevirtual 77, 136, [5, 2, 1, 9, 315, 55, 56, 11], none), (136, .aload_n 0, 137, [], none), (137, .getfield 9, 140, [0, 0, 2, 285, 0], none), (140, .getfield 80, 143, [5, 2, 0, 316, 1], none), (143, .if_icmp .lt 13, 146, [156], none), (146, .aload_n 0, 147, [], none), (147, .aload_n 1, 148, [], none), (148, .iload 4, 150, [], none), (150, .invokevirtual 83, 153, [85, 2, 0, 0, 317, 318, 319, 290], none), (153, .goto 28, 156, [181], none)] (119, .istore 5, 121, [], some [0, 1, 3, 4]) (by decide +kernel) _ _ _).trans rfl
theorem B_X0_passOne_156 (d : Nat) (S : mS) (I : mI) (L : mJ) (l0 : Nat) (l1 : Nat) (l3 : Int32) (l4 : Int32) (l5 : Int32) :
  evk zcod none d zc_X0_passOne 156 [(0, .ref l0), (1, .ref l1), (3, .int l3), (4, .int l4), (5, .int l5)] [] (S, I, L) =
  if l5 = (nI 0) then
 evk zcod none d zc_X0_passOne 181 [(0, .ref l0), (1, .ref l1), (3, .int l3), (4, .int l4)] [] (S, I, L)
 else
 if kK S l1 = 8 then
 (if kK S (kR S l1 0) = 9 then
 (bI (evM zcod d 5 [.ref (kR S l1 0), .int l4, .int (nI 4)] (S, I, L)) fun x1 M1 =>
 if M1.1.1 = S.1 then
 (if (nI 0) < x1 then
 evk zcod none d zc_X0_passOne 181 [(0, .ref l0), (1, .ref l1), (3, .int l3), (4, .int l4)] [] M1
 else
 if kK M1.1 l1 = 8 then
 (bV (evM zcod d 29 [.ref l1, .int l4, .int (nI 0)] M1) fun M2 =>
 if M2.1.1 = M1.1.1 then
 (evk zcod none d zc_X0_passOne 181 [(0, .ref l0), (1, .ref l1), (3, .int l3), (4, .int l4)] [] M2) else none) else none) else none) else none) else none :=
  (blk_ok zcod none d zc_X0_passOne [(158, .ifCond .eq 23, 161, [181], none), (161, .aload_n 1, 162, [], none), (162, .getfield 64, 165, [8, 0, 2, 310, 1], none), (165, .iload 4, 167, [], none), (167, .iconst 4, 168, [], none), (168, .invokevirtual 77, 171, [5, 2, 1, 9, 315, 55, 56, 11], none), (171, .ifCond .gt 10, 174, [181], none), (174, .aload_n 1, 175, [], none), (175, .iload 4, 177, [], none), (177, .iconst 0, 178, [], none), (178, .invokevirtual 87, 181, [29, 2, 0, 8, 320, 321, 322, 60], none)] (156, .iload 5, 158, [], some [0, 1, 3, 4, 5]) (by decide +kernel) _ _ _).trans rfl
theorem B_X0_passOne_181 (d : Nat) (S : mS) (I : mI) (L : mJ) (l0 : Nat) (l1 : Nat) (l3 : Int32) (l4 : Int32) :
  evk zcod none d zc_X0_passOne 181 [(0, .ref l0), (1, .ref l1), (3, .int l3), (4, .int l4)] [] (S, I, L) =
  evk zcod none d zc_X0_passOne 93 [(0, .ref l0), (1, .ref l1), (3, .int l3), (4, .int (l4 + (nI 1)))] [] (S, I, L) :=
  (blk_ok zcod none d zc_X0_passOne [(184, .goto (-91), 187, [93], none)] (181, .iinc 4 1, 184, [], some [0, 1, 3, 4]) (by decide +kernel) _ _ _).trans rfl
theorem B_X0_passOne_187 (d : Nat) (S : mS) (I : mI) (L : mJ) (l1 : Nat) :
  evk zcod none d zc_X0_passOne 187 [(1, .ref l1)] [] (S, I, L) =
  if kK S l1 = 8 then
 (if kK S l1 = 8 then
 (some (none, (S, (uI I l1 3 ((I l1 3) + (nI 1))), L))) else none) else none :=
  (blk_ok zcod none d zc_X0_passOne [(188, .dup, 189, [], none), (189, .getfield 40, 192, [8, 3, 0, 296, 1], none), (192, .iconst 1, 193, [], none), (193, .iadd, 194, [], none), (194, .putfield 40, 197, [8, 3, 0, 296, 1, 0], none), (197, .return_, 198, [], none)] (187, .aload_n 1, 188, [], some [1]) (by decide +kernel) _ _ _).trans rfl
theorem E_X0_drift (d : Nat) (M : zM) (l0 : Nat) (l1 : Nat) (l2 : Int32) (l3 : Int32) : evM zcod (d + 1) 84 [.ref l0, .ref l1, .int l2, .int l3] M = evk zcod none d zc_X0_drift 0 [(0, .ref l0), (1, .ref l1), (2, .int l2), (3, .int l3)] [] M := evM_eq zcod d 84 _ M (Nat.le_of_ble_eq_true rfl)
theorem B_X0_drift_0 (d : Nat) (S : mS) (I : mI) (L : mJ) (l0 : Nat) (l1 : Nat) (l2 : Int32) (l3 : Int32) :
  evk zcod none d zc_X0_drift 0 [(0, .ref l0), (1, .ref l1), (2, .int l2), (3, .int l3)] [] (S, I, L) =
  if kK S l1 = 8 then
 (if kK S (kR S l1 0) = 9 then
 (bI (evM zcod d 5 [.ref (kR S l1 0), .int l2, .int (nI 5)] (S, I, L)) fun x1 M1 =>
 if M1.1.1 = S.1 then
 (if kK M1.1 l1 = 8 then
 (if kK M1.1 (kR M1.1 l1 0) = 9 then
 (bI (evM zcod d 5 [.ref (kR M1.1 l1 0), .int l2, .int (nI 4)] M1) fun x2 M2 =>
 if M2.1.1 = M1.1.1 then
 (if kK M2.1 l1 = 8 then
 (if kK M2.1 (kR M2.1 l1 0) = 9 then
 (bI (evM zcod d 5 [.ref (kR M2.1 l1 0), .int l2, .int (nI 0)] M2) fun x3 M3 =>
 if M3.1.1 = M2.1.1 then
 (if kK M3.1 l0 = 0 then
 (if kK M3.1 l1 = 8 then
 (if kK M3.1 (kR M3.1 l1 1) = 9 then
 (bI (evM zcod d 5 [.ref (kR M3.1 l1 1), .int x1, .int (nI 0)] M3) fun x4 M4 =>
 if M4.1.1 = M3.1.1 then
 (if kK M4.1 l1 = 8 then
 (if kK M4.1 (kR M4.1 l1 0) = 9 then
 (bI (evM zcod d 5 [.ref (kR M4.1 l1 0), .int l2, .int (nI 1)] M4) fun x5 M5 =>
 if M5.1.1 = M4.1.1 then
 (if kK M5.1 (kR M3.1 l0 1) = 7 then
 (bI (evM zcod d 70 [.ref (kR M3.1 l0 1), .int x4, .int x5, .int x2, .int x3] M5) fun x6 M6 =>
 if M6.1.1 = M5.1.1 then
 (evk zcod none d zc_X0_drift 65 [(0, .ref l0), (1, .ref l1), (2, .int l2), (3, .int l3), (4, .int x1), (5, .int x2), (6, .int x3), (7, .int x6)] [] M6) else none) else none) else none) else none) else none) else none) else none) else none) else none) else none) else none) else none) else none) else none) else none) else none) else none) else none :=
  (blk_ok zcod none d zc_X0_drift [(1, .getfield 64, 4, [8, 0, 2, 310, 1], none), (4, .iload_n 2, 5, [], none), (5, .iconst 5, 6, [], none), (6, .invokevirtual 77, 9, [5, 2, 1, 9, 315, 55, 56, 11], none), (9, .istore 4, 11, [], none), (11, .aload_n 1, 12, [], none), (12, .getfield 64, 15, [8, 0, 2, 310, 1], none), (15, .iload_n 2, 16, [], none), (16, .iconst 4, 17, [], none), (17, .invokevirtual 77, 20, [5, 2, 1, 9, 315, 55, 56, 11], none), (20, .istore 5, 22, [], none), (22, .aload_n 1, 23, [], none), (23, .getfield 64, 26, [8, 0, 2, 310, 1], none), (26, .iload_n 2, 27, [], none), (27, .iconst 0, 28, [], none), (28, .invokevirtual 77, 31, [5, 2, 1, 9, 315, 55, 56, 11], none), (31, .istore 6, 33, [], none), (33, .aload_n 0, 34, [], none), (34, .getfield 15, 37, [0, 1, 2, 286, 0], none), (37, .aload_n 1, 38, [], none), (38, .getfield 91, 41, [8, 1, 2, 323, 1], none), (41, .iload 4, 43, [], none), (43, .iconst 0, 44, [], none), (44, .invokevirtual 77, 47, [5, 2, 1, 9, 315, 55, 56, 11], none), (47, .aload_n 1, 48, [], none), (48, .getfield 64, 51, [8, 0, 2, 310, 1], none), (51, .iload_n 2, 52, [], none), (52, .iconst 1, 53, [], none), (53, .invokevirtual 77, 56, [5, 2, 1, 9, 315, 55, 56, 11], none), (56, .iload 5, 58, [], none), (58, .iload 6, 60, [], none), (60, .invokevirtual 94, 63, [70, 4, 1, 7, 324, 325, 326, 261], none), (63, .istore 7, 65, [], none)] (0, .aload_n 1, 1, [], none) (by decide +kernel) _ _ _).trans rfl
theorem B_X0_drift_65 (d : Nat) (S : mS) (I : mI) (L : mJ) (l0 : Nat) (l1 : Nat) (l2 : Int32) (l3 : Int32) (l4 : Int32) (l5 : Int32) (l6 : Int32) (l7 : Int32) :
  evk zcod none d zc_X0_drift 65 [(0, .ref l0), (1, .ref l1), (2, .int l2), (3, .int l3), (4, .int l4), (5, .int l5), (6, .int l6), (7, .int l7)] [] (S, I, L) =
  if kK S l0 = 0 then
 (if kK S (kR S l0 1) = 7 then
 (bI (evM zcod d 71 [.ref (kR S l0 1), .int l5, .int l6] (S, I, L)) fun x1 M1 =>
 if M1.1.1 = S.1 then
 (if l3 = (nI 0) then
 evk zcod none d zc_X0_drift 100 [(1, .ref l1), (2, .int l2), (4, .int l4), (5, .int l5), (6, .int l6), (7, .int l7), (8, .int x1)] [] M1
 else
 if x1 = (nI 0) then
 evk zcod none d zc_X0_drift 100 [(1, .ref l1), (2, .int l2), (4, .int l4), (5, .int l5), (6, .int l6), (7, .int l7), (8, .int x1)] [] M1
 else
 if x1 ≤ (nI 0) then
 evk zcod none d zc_X0_drift 96 [(1, .ref l1), (2, .int l2), (4, .int l4), (5, .int l5), (6, .int l6), (7, .int l7), (8, .int x1)] [] M1
 else
 evk zcod none d zc_X0_drift 101 [(1, .ref l1), (2, .int l2), (4, .int l4), (5, .int l5), (6, .int l6), (7, .int l7), (8, .int x1)] [.int (nI 1)] M1) else none) else none) else none :=
  (blk_ok zcod none d zc_X0_drift [(66, .getfield 15, 69, [0, 1, 2, 286, 0], none), (69, .iload 5, 71, [], none), (71, .iload 6, 73, [], none), (73, .invokevirtual 98, 76, [71, 2, 1, 7, 327, 328, 329, 261], none), (76, .istore 8, 78, [], none), (78, .iload_n 3, 79, [], none), (79, .ifCond .eq 21, 82, [100], none), (82, .iload 8, 84, [], none), (84, .ifCond .eq 16, 87, [100], none), (87, .iload 8, 89, [], none), (89, .ifCond .le 7, 92, [96], none), (92, .iconst 1, 93, [], none), (93, .goto 8, 96, [101], none)] (65, .aload_n 0, 66, [], some [0, 1, 2, 3, 4, 5, 6, 7]) (by decide +kernel) _ _ _).trans rfl
theorem B_X0_drift_96 (d : Nat) (S : mS) (I : mI) (L : mJ) (l1 : Nat) (l2 : Int32) (l4 : Int32) (l5 : Int32) (l6 : Int32) (l7 : Int32) (l8 : Int32) :
  evk zcod none d zc_X0_drift 96 [(1, .ref l1), (2, .int l2), (4, .int l4), (5, .int l5), (6, .int l6), (7, .int l7), (8, .int l8)] [] (S, I, L) =
  evk zcod none d zc_X0_drift 101 [(1, .ref l1), (2, .int l2), (4, .int l4), (5, .int l5), (6, .int l6), (7, .int l7), (8, .int l8)] [.int (-1 : Int32)] (S, I, L) :=
  (blk_ok zcod none d zc_X0_drift [(97, .goto 4, 100, [101], none)] (96, .iconst (-1), 97, [], some [1, 2, 4, 5, 6, 7, 8]) (by decide +kernel) _ _ _).trans rfl
theorem B_X0_drift_100 (d : Nat) (S : mS) (I : mI) (L : mJ) (l1 : Nat) (l2 : Int32) (l4 : Int32) (l5 : Int32) (l6 : Int32) (l7 : Int32) (l8 : Int32) :
  evk zcod none d zc_X0_drift 100 [(1, .ref l1), (2, .int l2), (4, .int l4), (5, .int l5), (6, .int l6), (7, .int l7), (8, .int l8)] [] (S, I, L) =
  evk zcod none d zc_X0_drift 101 [(1, .ref l1), (2, .int l2), (4, .int l4), (5, .int l5), (6, .int l6), (7, .int l7), (8, .int l8)] [.int (nI 0)] (S, I, L) :=
  (blk_ok zcod none d zc_X0_drift [] (100, .iconst 0, 101, [], some [1, 2, 4, 5, 6, 7, 8]) (by decide +kernel) _ _ _).trans rfl
theorem B_X0_drift_101 (d : Nat) (S : mS) (I : mI) (L : mJ) (l1 : Nat) (l2 : Int32) (l4 : Int32) (l5 : Int32) (l6 : Int32) (l7 : Int32) (l8 : Int32) (s0 : Int32) :
  evk zcod none d zc_X0_drift 101 [(1, .ref l1), (2, .int l2), (4, .int l4), (5, .int l5), (6, .int l6), (7, .int l7), (8, .int l8)] [.int s0] (S, I, L) =
  if kK S l1 = 8 then
 (if kK S (kR S l1 1) = 9 then
 (bI (evM zcod d 5 [.ref (kR S l1 1), .int l4, .int (nI 3)] (S, I, L)) fun x1 M1 =>
 if M1.1.1 = S.1 then
 (if kK M1.1 l1 = 8 then
 (if kK M1.1 (kR M1.1 l1 0) = 9 then
 (bV (evM zcod d 6 [.ref (kR M1.1 l1 0), .int l2, .int (nI 4), .int (l5 + l7)] M1) fun M2 =>
 if M2.1.1 = M1.1.1 then
 (if kK M2.1 l1 = 8 then
 (bI (evM zcod d 146 [.int (l6 + ((x1 + l8) + s0)), .int (nI 0), .int (nI 19)] M2) fun x3 M3 =>
 if M3.1.1 = M2.1.1 then
 (if kK M3.1 (kR M2.1 l1 0) = 9 then
 (bV (evM zcod d 6 [.ref (kR M2.1 l1 0), .int l2, .int (nI 0), .int x3] M3) fun M4 =>
 if M4.1.1 = M3.1.1 then
 (evk zcod none d zc_X0_drift 155 [] [] M4) else none) else none) else none) else none) else none) else none) else none) else none) else none) else none :=
  (blk_ok zcod none d zc_X0_drift [(103, .aload_n 1, 104, [], none), (104, .getfield 91, 107, [8, 1, 2, 323, 1], none), (107, .iload 4, 109, [], none), (109, .iconst 3, 110, [], none), (110, .invokevirtual 77, 113, [5, 2, 1, 9, 315, 55, 56, 11], none), (113, .iload 8, 115, [], none), (115, .iadd, 116, [], none), (116, .iload 9, 118, [], none), (118, .iadd, 119, [], none), (119, .istore 10, 121, [], none), (121, .aload_n 1, 122, [], none), (122, .getfield 64, 125, [8, 0, 2, 310, 1], none), (125, .iload_n 2, 126, [], none), (126, .iconst 4, 127, [], none), (127, .iload 5, 129, [], none), (129, .iload 7, 131, [], none), (131, .iadd, 132, [], none), (132, .invokevirtual 101, 135, [6, 3, 0, 9, 330, 13, 14, 11], none), (135, .aload_n 1, 136, [], none), (136, .getfield 64, 139, [8, 0, 2, 310, 1], none), (139, .iload_n 2, 140, [], none), (140, .iconst 0, 141, [], none), (141, .iload 6, 143, [], none), (143, .iload 10, 145, [], none), (145, .iadd, 146, [], none), (146, .iconst 0, 147, [], none), (147, .bipush 19, 149, [], none), (149, .invokestatic 104, 152, [146, 3, 1, 1, 331, 266, 222], none), (152, .invokevirtual 101, 155, [6, 3, 0, 9, 330, 13, 14, 11], none)] (101, .istore 9, 103, [], some [1, 2, 4, 5, 6, 7, 8]) (by decide +kernel) _ _ _).trans rfl
theorem B_X0_drift_155 (d : Nat) (S : mS) (I : mI) (L : mJ)  :
  evk zcod none d zc_X0_drift 155 [] [] (S, I, L) =
  some (none, (S, I, L)) :=
  (blk_ok zcod none d zc_X0_drift [] (155, .return_, 156, [], some []) (by decide +kernel) _ _ _).trans rfl
theorem E_X0_comeToRim (d : Nat) (M : zM) (l0 : Nat) (l1 : Nat) (l2 : Int32) : evM zcod (d + 1) 85 [.ref l0, .ref l1, .int l2] M = evk zcod none d zc_X0_comeToRim 0 [(0, .ref l0), (1, .ref l1), (2, .int l2)] [] M := evM_eq zcod d 85 _ M (Nat.le_of_ble_eq_true rfl)
theorem B_X0_comeToRim_0 (d : Nat) (S : mS) (I : mI) (L : mJ) (l0 : Nat) (l1 : Nat) (l2 : Int32) :
  evk zcod none d zc_X0_comeToRim 0 [(0, .ref l0), (1, .ref l1), (2, .int l2)] [] (S, I, L) =
  if kK S l1 = 8 then
 (if kK S (kR S l1 0) = 9 then
 (bI (evM zcod d 5 [.ref (kR S l1 0), .int l2, .int (nI 0)] (S, I, L)) fun x1 M1 =>
 if M1.1.1 = S.1 then
 (if kK M1.1 l0 = 0 then
 (bI (evM zcod d 86 [.ref l0, .ref l1] M1) fun x2 M2 =>
 if M2.1.1 = M1.1.1 then
 (if kK M2.1 l1 = 8 then
 (bI (evM zcod d 30 [.ref l1, .int x1, .int x2] M2) fun x3 M3 =>
 if M3.1.1 = M2.1.1 then
 (if x3 < (nI 0) then
 evk zcod none d zc_X0_comeToRim 32 [(1, .ref l1), (2, .int l2)] [] M3
 else
 if kK M3.1 l0 = 0 then
 (if kK M3.1 (kR M3.1 l0 2) = 20 then
 (if x3 < (nI (kN M3.1 (kR M3.1 l0 2))) then
 evk zcod none d zc_X0_comeToRim 39 [(0, .ref l0), (1, .ref l1), (2, .int l2), (3, .int x3)] [] M3
 else
 evk zcod none d zc_X0_comeToRim 32 [(1, .ref l1), (2, .int l2)] [] M3) else none) else none) else none) else none) else none) else none) else none) else none) else none :=
  (blk_ok zcod none d zc_X0_comeToRim [(1, .aload_n 1, 2, [], none), (2, .getfield 64, 5, [8, 0, 2, 310, 1], none), (5, .iload_n 2, 6, [], none), (6, .iconst 0, 7, [], none), (7, .invokevirtual 77, 10, [5, 2, 1, 9, 315, 55, 56, 11], none), (10, .aload_n 0, 11, [], none), (11, .aload_n 1, 12, [], none), (12, .invokevirtual 108, 15, [86, 1, 1, 0, 332, 333, 334, 290], none), (15, .invokevirtual 112, 18, [30, 2, 1, 8, 335, 336, 337, 60], none), (18, .istore_n 3, 19, [], none), (19, .iload_n 3, 20, [], none), (20, .ifCond .lt 12, 23, [32], none), (23, .iload_n 3, 24, [], none), (24, .aload_n 0, 25, [], none), (25, .getfield 19, 28, [0, 2, 2, 287, 0], none), (28, .arraylength, 29, [20], none), (29, .if_icmp .lt 10, 32, [39], none)] (0, .aload_n 1, 1, [], none) (by decide +kernel) _ _ _).trans rfl
theorem B_X0_comeToRim_32 (d : Nat) (S : mS) (I : mI) (L : mJ) (l1 : Nat) (l2 : Int32) :
  evk zcod none d zc_X0_comeToRim 32 [(1, .ref l1), (2, .int l2)] [] (S, I, L) =
  if kK S l1 = 8 then
 (bV (evM zcod d 29 [.ref l1, .int l2, .int (nI 3)] (S, I, L)) fun M1 =>
 if M1.1.1 = S.1 then
 (some (none, M1)) else none) else none :=
  (blk_ok zcod none d zc_X0_comeToRim [(33, .iload_n 2, 34, [], none), (34, .iconst 3, 35, [], none), (35, .invokevirtual 87, 38, [29, 2, 0, 8, 320, 321, 322, 60], none), (38, .return_, 39, [], none)] (32, .aload_n 1, 33, [], some [1, 2]) (by decide +kernel) _ _ _).trans rfl
theorem B_X0_comeToRim_39 (d : Nat) (S : mS) (I : mI) (L : mJ) (l0 : Nat) (l1 : Nat) (l2 : Int32) (l3 : Int32) :
  evk zcod none d zc_X0_comeToRim 39 [(0, .ref l0), (1, .ref l1), (2, .int l2), (3, .int l3)] [] (S, I, L) =
  if kK S l0 = 0 then
 (if kK S (kR S l0 2) = 20 ∧ zin l3 (kN S (kR S l0 2)) then
 (if kK S (kR S l0 2) = 20 ∧ zin l3 (kN S (kR S l0 2)) then
 (if kK S l1 = 8 then
 (bV (evM zcod d 29 [.ref l1, .int l2, .int (nI 2)] (S, (uI I (kR S l0 2) (zix l3) ((I (kR S l0 2) (zix l3)) + (nI 1))), L)) fun M1 =>
 if M1.1.1 = S.1 then
 (if kK M1.1 l1 = 8 then
 (if kK M1.1 (kR M1.1 l1 0) = 9 then
 (bV (evM zcod d 6 [.ref (kR M1.1 l1 0), .int l2, .int (nI 6), .int l3] M1) fun M2 =>
 if M2.1.1 = M1.1.1 then
 (if kK M2.1 l1 = 8 then
 (if kK M2.1 l1 = 8 then
 (if kK M2.1 (kR M2.1 l1 2) = 9 then
 (bI (evM zcod d 5 [.ref (kR M2.1 l1 2), .int l3, .int (nI 3)] M2) fun x3 M3 =>
 if M3.1.1 = M2.1.1 then
 (if kK M3.1 (kR M2.1 l1 2) = 9 then
 (bV (evM zcod d 6 [.ref (kR M2.1 l1 2), .int l3, .int (nI 3), .int (x3 ||| ((nI 1) <<< (l2 &&& nI 31)))] M3) fun M4 =>
 if M4.1.1 = M3.1.1 then
 (evk zcod none d zc_X0_comeToRim 88 [(0, .ref l0), (1, .ref l1), (2, .int l2)] [] M4) else none) else none) else none) else none) else none) else none) else none) else none) else none) else none) else none) else none) else none) else none :=
  (blk_ok zcod none d zc_X0_comeToRim [(40, .getfield 19, 43, [0, 2, 2, 287, 0], none), (43, .iload_n 3, 44, [], none), (44, .dup2, 45, [], none), (45, .iaload, 46, [20], none), (46, .iconst 1, 47, [], none), (47, .iadd, 48, [], none), (48, .iastore, 49, [20], none), (49, .aload_n 1, 50, [], none), (50, .iload_n 2, 51, [], none), (51, .iconst 2, 52, [], none), (52, .invokevirtual 87, 55, [29, 2, 0, 8, 320, 321, 322, 60], none), (55, .aload_n 1, 56, [], none), (56, .getfield 64, 59, [8, 0, 2, 310, 1], none), (59, .iload_n 2, 60, [], none), (60, .bipush 6, 62, [], none), (62, .iload_n 3, 63, [], none), (63, .invokevirtual 101, 66, [6, 3, 0, 9, 330, 13, 14, 11], none), (66, .aload_n 1, 67, [], none), (67, .getfield 115, 70, [8, 2, 2, 338, 1], none), (70, .iload_n 3, 71, [], none), (71, .iconst 3, 72, [], none), (72, .aload_n 1, 73, [], none), (73, .getfield 115, 76, [8, 2, 2, 338, 1], none), (76, .iload_n 3, 77, [], none), (77, .iconst 3, 78, [], none), (78, .invokevirtual 77, 81, [5, 2, 1, 9, 315, 55, 56, 11], none), (81, .iconst 1, 82, [], none), (82, .iload_n 2, 83, [], none), (83, .ishl, 84, [], none), (84, .ior, 85, [], none), (85, .invokevirtual 101, 88, [6, 3, 0, 9, 330, 13, 14, 11], none)] (39, .aload_n 0, 40, [], some [0, 1, 2, 3]) (by decide +kernel) _ _ _).trans rfl
theorem B_X0_comeToRim_88 (d : Nat) (S : mS) (I : mI) (L : mJ) (l0 : Nat) (l1 : Nat) (l2 : Int32) :
  evk zcod none d zc_X0_comeToRim 88 [(0, .ref l0), (1, .ref l1), (2, .int l2)] [] (S, I, L) =
  if kK S l1 = 8 then
 (if kK S l0 = 0 then
 (if kK S l1 = 8 then
 (if kK S (kR S l1 0) = 9 then
 (bI (evM zcod d 5 [.ref (kR S l1 0), .int l2, .int (nI 2)] (S, I, L)) fun x1 M1 =>
 if M1.1.1 = S.1 then
 (if kK M1.1 l1 = 8 then
 (if kK M1.1 (kR M1.1 l1 0) = 9 then
 (bI (evM zcod d 5 [.ref (kR M1.1 l1 0), .int l2, .int (nI 1)] M1) fun x2 M2 =>
 if M2.1.1 = M1.1.1 then
 (if kK M2.1 (kR S l0 1) = 7 then
 (bI (evM zcod d 73 [.ref (kR S l0 1), .int x1, .int x2] M2) fun x3 M3 =>
 if M3.1.1 = M2.1.1 then
 (if kK M3.1 l1 = 8 then
 (evk zcod none d zc_X0_comeToRim 122 [] [] (M3.1, (uI M3.2.1 l1 4 ((I l1 4) + x3)), M3.2.2)) else none) else none) else none) else none) else none) else none) else none) else none) else none) else none) else none :=
  (blk_ok zcod none d zc_X0_comeToRim [(89, .dup, 90, [], none), (90, .getfield 118, 93, [8, 4, 0, 339, 1], none), (93, .aload_n 0, 94, [], none), (94, .getfield 15, 97, [0, 1, 2, 286, 0], none), (97, .aload_n 1, 98, [], none), (98, .getfield 64, 101, [8, 0, 2, 310, 1], none), (101, .iload_n 2, 102, [], none), (102, .iconst 2, 103, [], none), (103, .invokevirtual 77, 106, [5, 2, 1, 9, 315, 55, 56, 11], none), (106, .aload_n 1, 107, [], none), (107, .getfield 64, 110, [8, 0, 2, 310, 1], none), (110, .iload_n 2, 111, [], none), (111, .iconst 1, 112, [], none), (112, .invokevirtual 77, 115, [5, 2, 1, 9, 315, 55, 56, 11], none), (115, .invokevirtual 121, 118, [73, 2, 1, 7, 340, 341, 342, 261], none), (118, .iadd, 119, [], none), (119, .putfield 118, 122, [8, 4, 0, 339, 1, 0], none)] (88, .aload_n 1, 89, [], some [0, 1, 2]) (by decide +kernel) _ _ _).trans rfl
theorem B_X0_comeToRim_122 (d : Nat) (S : mS) (I : mI) (L : mJ)  :
  evk zcod none d zc_X0_comeToRim 122 [] [] (S, I, L) =
  some (none, (S, I, L)) :=
  (blk_ok zcod none d zc_X0_comeToRim [] (122, .return_, 123, [], some []) (by decide +kernel) _ _ _).trans rfl
theorem E_X0_busyHooks (d : Nat) (M : zM) (l0 : Nat) (l1 : Nat) : evM zcod (d + 1) 86 [.ref l0, .ref l1] M = evk zcod none d zc_X0_busyHooks 0 [(0, .ref l0), (1, .ref l1)] [] M := evM_eq zcod d 86 _ M (Nat.le_of_ble_eq_true rfl)
theorem B_X0_busyHooks_0 (d : Nat) (S : mS) (I : mI) (L : mJ) (l0 : Nat) (l1 : Nat) :
  evk zcod none d zc_X0_busyHooks 0 [(0, .ref l0), (1, .ref l1)] [] (S, I, L) =
  evk zcod none d zc_X0_busyHooks 4 [(0, .ref l0), (1, .ref l1), (2, .int (nI 0)), (3, .int (nI 0))] [] (S, I, L) :=
  (blk_ok zcod none d zc_X0_busyHooks [(1, .istore_n 2, 2, [], none), (2, .iconst 0, 3, [], none), (3, .istore_n 3, 4, [], none)] (0, .iconst 0, 1, [], none) (by decide +kernel) _ _ _).trans rfl
theorem B_X0_busyHooks_4 (d : Nat) (S : mS) (I : mI) (L : mJ) (l0 : Nat) (l1 : Nat) (l2 : Int32) (l3 : Int32) :
  evk zcod none d zc_X0_busyHooks 4 [(0, .ref l0), (1, .ref l1), (2, .int l2), (3, .int l3)] [] (S, I, L) =
  if kK S l0 = 0 then
 (if kK S (kR S l0 2) = 20 then
 (if (nI (kN S (kR S l0 2))) ≤ l3 then
 evk zcod none d zc_X0_busyHooks 43 [(2, .int l2)] [] (S, I, L)
 else
 if kK S l0 = 0 then
 (if kK S (kR S l0 2) = 20 ∧ zin l3 (kN S (kR S l0 2)) then
 (if kK S l1 = 8 then
 (if kK S (kR S l1 2) = 9 then
 (bI (evM zcod d 5 [.ref (kR S l1 2), .int l3, .int (nI 2)] (S, I, L)) fun x1 M1 =>
 if M1.1.1 = S.1 then
 (if (I (kR S l0 2) (zix l3)) < x1 then
 evk zcod none d zc_X0_busyHooks 37 [(0, .ref l0), (1, .ref l1), (2, .int l2), (3, .int l3)] [] M1
 else
 evk zcod none d zc_X0_busyHooks 37 [(0, .ref l0), (1, .ref l1), (2, .int (l2 ||| ((nI 1) <<< (l3 &&& nI 31)))), (3, .int l3)] [] M1) else none) else none) else none) else none) else none) else none) else none :=
  (blk_ok zcod none d zc_X0_busyHooks [(5, .aload_n 0, 6, [], none), (6, .getfield 19, 9, [0, 2, 2, 287, 0], none), (9, .arraylength, 10, [20], none), (10, .if_icmp .ge 33, 13, [43], none), (13, .aload_n 0, 14, [], none), (14, .getfield 19, 17, [0, 2, 2, 287, 0], none), (17, .iload_n 3, 18, [], none), (18, .iaload, 19, [20], none), (19, .aload_n 1, 20, [], none), (20, .getfield 115, 23, [8, 2, 2, 338, 1], none), (23, .iload_n 3, 24, [], none), (24, .iconst 2, 25, [], none), (25, .invokevirtual 77, 28, [5, 2, 1, 9, 315, 55, 56, 11], none), (28, .if_icmp .lt 9, 31, [37], none), (31, .iload_n 2, 32, [], none), (32, .iconst 1, 33, [], none), (33, .iload_n 3, 34, [], none), (34, .ishl, 35, [], none), (35, .ior, 36, [], none), (36, .istore_n 2, 37, [], none)] (4, .iload_n 3, 5, [], some [0, 1, 2, 3]) (by decide +kernel) _ _ _).trans rfl
theorem B_X0_busyHooks_37 (d : Nat) (S : mS) (I : mI) (L : mJ) (l0 : Nat) (l1 : Nat) (l2 : Int32) (l3 : Int32) :
  evk zcod none d zc_X0_busyHooks 37 [(0, .ref l0), (1, .ref l1), (2, .int l2), (3, .int l3)] [] (S, I, L) =
  evk zcod none d zc_X0_busyHooks 4 [(0, .ref l0), (1, .ref l1), (2, .int l2), (3, .int (l3 + (nI 1)))] [] (S, I, L) :=
  (blk_ok zcod none d zc_X0_busyHooks [(40, .goto (-36), 43, [4], none)] (37, .iinc 3 1, 40, [], some [0, 1, 2, 3]) (by decide +kernel) _ _ _).trans rfl
theorem B_X0_busyHooks_43 (d : Nat) (S : mS) (I : mI) (L : mJ) (l2 : Int32) :
  evk zcod none d zc_X0_busyHooks 43 [(2, .int l2)] [] (S, I, L) =
  some (some (.int l2), (S, I, L)) :=
  (blk_ok zcod none d zc_X0_busyHooks [(44, .ireturn, 45, [0], none)] (43, .iload_n 2, 44, [], some [2]) (by decide +kernel) _ _ _).trans rfl
theorem E_X1_isAtRim (d : Nat) (M : zM) (l0 : Nat) : evM zcod (d + 1) 88 [.ref l0] M = evk zcod none d zc_X1_isAtRim 0 [(0, .ref l0)] [] M := evM_eq zcod d 88 _ M (Nat.le_of_ble_eq_true rfl)
theorem B_X1_isAtRim_0 (d : Nat) (S : mS) (I : mI) (L : mJ) (l0 : Nat) :
  evk zcod none d zc_X1_isAtRim 0 [(0, .ref l0)] [] (S, I, L) =
  if kK S l0 = 1 then
 (if (I l0 4) = (nI 1) then
 evk zcod none d zc_X1_isAtRim 16 [] [] (S, I, L)
 else
 if kK S l0 = 1 then
 (if ¬ (I l0 4) = (nI 2) then
 evk zcod none d zc_X1_isAtRim 20 [] [] (S, I, L)
 else
 evk zcod none d zc_X1_isAtRim 16 [] [] (S, I, L)) else none) else none :=
  (blk_ok zcod none d zc_X1_isAtRim [(1, .getfield 27, 4, [1, 4, 0, 348, 0], none), (4, .iconst 1, 5, [], none), (5, .if_icmp .eq 11, 8, [16], none), (8, .aload_n 0, 9, [], none), (9, .getfield 27, 12, [1, 4, 0, 348, 0], none), (12, .iconst 2, 13, [], none), (13, .if_icmp .ne 7, 16, [20], none)] (0, .aload_n 0, 1, [], none) (by decide +kernel) _ _ _).trans rfl
theorem B_X1_isAtRim_16 (d : Nat) (S : mS) (I : mI) (L : mJ)  :
  evk zcod none d zc_X1_isAtRim 16 [] [] (S, I, L) =
  evk zcod none d zc_X1_isAtRim 21 [] [.int (nI 1)] (S, I, L) :=
  (blk_ok zcod none d zc_X1_isAtRim [(17, .goto 4, 20, [21], none)] (16, .iconst 1, 17, [], some []) (by decide +kernel) _ _ _).trans rfl
theorem B_X1_isAtRim_20 (d : Nat) (S : mS) (I : mI) (L : mJ)  :
  evk zcod none d zc_X1_isAtRim 20 [] [] (S, I, L) =
  evk zcod none d zc_X1_isAtRim 21 [] [.int (nI 0)] (S, I, L) :=
  (blk_ok zcod none d zc_X1_isAtRim [] (20, .iconst 0, 21, [], some []) (by decide +kernel) _ _ _).trans rfl
theorem B_X1_isAtRim_21 (d : Nat) (S : mS) (I : mI) (L : mJ) (s0 : Int32) :
  evk zcod none d zc_X1_isAtRim 21 [] [.int s0] (S, I, L) =
  if s0 = nI 0 ∨ s0 = nI 1 then some (some (.int s0), (S, I, L)) else none :=
  (blk_ok zcod none d zc_X1_isAtRim [] (21, .ireturn, 22, [1], some []) (by decide +kernel) _ _ _).trans rfl
theorem E_X1_fly (d : Nat) (M : zM) (l0 : Nat) (l1 : Int32) (l2 : Int32) (l3 : Int32) (l4 : Int32) : evM zcod (d + 1) 89 [.ref l0, .int l1, .int l2, .int l3, .int l4] M = evk zcod none d zc_X1_fly 0 [(0, .ref l0), (1, .int l1), (2, .int l2), (3, .int l3), (4, .int l4)] [] M := evM_eq zcod d 89 _ M (Nat.le_of_ble_eq_true rfl)
theorem B_X1_fly_0 (d : Nat) (S : mS) (I : mI) (L : mJ) (l0 : Nat) (l1 : Int32) (l2 : Int32) (l3 : Int32) (l4 : Int32) :
  evk zcod none d zc_X1_fly 0 [(0, .ref l0), (1, .int l1), (2, .int l2), (3, .int l3), (4, .int l4)] [] (S, I, L) =
  if kK S l0 = 1 then
 (if kK S (kR S l0 1) = 8 then
 (if kK S (kR S (kR S l0 1) 0) = 9 then
 (bI (evM zcod d 5 [.ref (kR S (kR S l0 1) 0), .int l1, .int (nI 1)] (S, I, L)) fun x1 M1 =>
 if M1.1.1 = S.1 then
 (if kK M1.1 l0 = 1 then
 (if kK M1.1 (kR M1.1 l0 1) = 8 then
 (if kK M1.1 (kR M1.1 (kR M1.1 l0 1) 1) = 9 then
 (bI (evM zcod d 5 [.ref (kR M1.1 (kR M1.1 l0 1) 1), .int l2, .int (nI 0)] M1) fun x2 M2 =>
 if M2.1.1 = M1.1.1 then
 (if kK M2.1 l0 = 1 then
 (if kK M2.1 (kR M2.1 l0 1) = 8 then
 (if kK M2.1 (kR M2.1 (kR M2.1 l0 1) 0) = 9 then
 (bI (evM zcod d 5 [.ref (kR M2.1 (kR M2.1 l0 1) 0), .int l1, .int (nI 0)] M2) fun x3 M3 =>
 if M3.1.1 = M2.1.1 then
 (if kK M3.1 l0 = 1 then
 (if kK M3.1 (kR M3.1 l0 1) = 8 then
 (if kK M3.1 l0 = 1 then
 (bV (evM zcod d 90 [.ref l0, .int x2, .int x1, .int l3, .int x3, .int ((M3.2.1 (kR M3.1 l0 1) 3) + l4), .int (nI 48)] M3) fun M4 =>
 if M4.1.1 = M3.1.1 then
 (evk zcod none d zc_X1_fly 57 [(0, .ref l0), (1, .int l1), (5, .int x1)] [] M4) else none) else none) else none) else none) else none) else none) else none) else none) else none) else none) else none) else none) else none) else none) else none) else none :=
  (blk_ok zcod none d zc_X1_fly [(1, .getfield 15, 4, [1, 1, 2, 345, 0], none), (4, .getfield 39, 7, [8, 0, 2, 352, 1], none), (7, .iload_n 1, 8, [], none), (8, .iconst 1, 9, [], none), (9, .invokevirtual 45, 12, [5, 2, 1, 9, 353, 55, 56, 11], none), (12, .istore 5, 14, [], none), (14, .aload_n 0, 15, [], none), (15, .aload_n 0, 16, [], none), (16, .getfield 15, 19, [1, 1, 2, 345, 0], none), (19, .getfield 51, 22, [8, 1, 2, 354, 1], none), (22, .iload_n 2, 23, [], none), (23, .iconst 0, 24, [], none), (24, .invokevirtual 45, 27, [5, 2, 1, 9, 353, 55, 56, 11], none), (27, .iload 5, 29, [], none), (29, .iload_n 3, 30, [], none), (30, .aload_n 0, 31, [], none), (31, .getfield 15, 34, [1, 1, 2, 345, 0], none), (34, .getfield 39, 37, [8, 0, 2, 352, 1], none), (37, .iload_n 1, 38, [], none), (38, .iconst 0, 39, [], none), (39, .invokevirtual 45, 42, [5, 2, 1, 9, 353, 55, 56, 11], none), (42, .aload_n 0, 43, [], none), (43, .getfield 15, 46, [1, 1, 2, 345, 0], none), (46, .getfield 54, 49, [8, 3, 0, 355, 1], none), (49, .iload 4, 51, [], none), (51, .iadd, 52, [], none), (52, .bipush 48, 54, [], none), (54, .invokevirtual 57, 57, [90, 6, 0, 1, 356, 357, 358, 359], none)] (0, .aload_n 0, 1, [], none) (by decide +kernel) _ _ _).trans rfl
theorem B_X1_fly_57 (d : Nat) (S : mS) (I : mI) (L : mJ) (l0 : Nat) (l1 : Int32) (l5 : Int32) :
  evk zcod none d zc_X1_fly 57 [(0, .ref l0), (1, .int l1), (5, .int l5)] [] (S, I, L) =
  if kK S l0 = 1 then
 (if ¬ (I l0 4) = (nI 1) then
 evk zcod none d zc_X1_fly 90 [] [.ref l0] (S, I, L)
 else
 if kK S l0 = 1 then
 (if kK S l0 = 1 then
 (if kK S (kR S l0 1) = 8 then
 (if kK S (kR S (kR S l0 1) 0) = 9 then
 (bI (evM zcod d 5 [.ref (kR S (kR S l0 1) 0), .int l1, .int (nI 2)] (S, I, L)) fun x1 M1 =>
 if M1.1.1 = S.1 then
 (if kK M1.1 (kR S l0 2) = 7 then
 (bI (evM zcod d 73 [.ref (kR S l0 2), .int x1, .int l5] M1) fun x2 M2 =>
 if M2.1.1 = M1.1.1 then
 (evk zcod none d zc_X1_fly 91 [] [.int x2, .ref l0] M2) else none) else none) else none) else none) else none) else none) else none) else none :=
  (blk_ok zcod none d zc_X1_fly [(58, .aload_n 0, 59, [], none), (59, .getfield 27, 62, [1, 4, 0, 348, 0], none), (62, .iconst 1, 63, [], none), (63, .if_icmp .ne 27, 66, [90], none), (66, .aload_n 0, 67, [], none), (67, .getfield 19, 70, [1, 2, 2, 346, 0], none), (70, .aload_n 0, 71, [], none), (71, .getfield 15, 74, [1, 1, 2, 345, 0], none), (74, .getfield 39, 77, [8, 0, 2, 352, 1], none), (77, .iload_n 1, 78, [], none), (78, .iconst 2, 79, [], none), (79, .invokevirtual 45, 82, [5, 2, 1, 9, 353, 55, 56, 11], none), (82, .iload 5, 84, [], none), (84, .invokevirtual 61, 87, [73, 2, 1, 7, 360, 341, 342, 261], none), (87, .goto 4, 90, [91], none)] (57, .aload_n 0, 58, [], some [0, 1, 5]) (by decide +kernel) _ _ _).trans rfl
theorem B_X1_fly_90 (d : Nat) (S : mS) (I : mI) (L : mJ) (s0 : Nat) :
  evk zcod none d zc_X1_fly 90 [] [.ref s0] (S, I, L) =
  evk zcod none d zc_X1_fly 91 [] [.int (nI 0), .ref s0] (S, I, L) :=
  (blk_ok zcod none d zc_X1_fly [] (90, .iconst 0, 91, [], some []) (by decide +kernel) _ _ _).trans rfl
theorem B_X1_fly_91 (d : Nat) (S : mS) (I : mI) (L : mJ) (s0 : Nat) (s1 : Int32) :
  evk zcod none d zc_X1_fly 91 [] [.int s1, .ref s0] (S, I, L) =
  if kK S s0 = 1 then
 (some (none, (S, (uI I s0 7 s1), L))) else none :=
  (blk_ok zcod none d zc_X1_fly [(94, .return_, 95, [], none)] (91, .putfield 36, 94, [1, 7, 0, 351, 0, 0], some []) (by decide +kernel) _ _ _).trans rfl
theorem E_X1_go (d : Nat) (M : zM) (l0 : Nat) (l1 : Int32) (l2 : Int32) (l3 : Int32) (l4 : Int32) (l5 : Int32) (l6 : Int32) : evM zcod (d + 1) 90 [.ref l0, .int l1, .int l2, .int l3, .int l4, .int l5, .int l6] M = evk zcod none d zc_X1_go 0 [(0, .ref l0), (1, .int l1), (2, .int l2), (3, .int l3), (4, .int l4), (5, .int l5), (6, .int l6)] [] M := evM_eq zcod d 90 _ M (Nat.le_of_ble_eq_true rfl)
theorem B_X1_go_0 (d : Nat) (S : mS) (I : mI) (L : mJ) (l0 : Nat) (l1 : Int32) (l2 : Int32) (l3 : Int32) (l4 : Int32) (l5 : Int32) (l6 : Int32) :
  evk zcod none d zc_X1_go 0 [(0, .ref l0), (1, .int l1), (2, .int l2), (3, .int l3), (4, .int l4), (5, .int l5), (6, .int l6)] [] (S, I, L) =
  if kK S l0 = 1 then
 (if kK S (kR S l0 1) = 8 then
 (bI (evM zcod d 24 [.ref (kR S l0 1)] (S, I, L)) fun x1 M1 =>
 if M1.1.1 = S.1 then
 (if kK M1.1 l0 = 1 then
 (if kK M1.1 l0 = 1 then
 (if kK M1.1 l0 = 1 then
 (evk zcod none d zc_X1_go 28 [(0, .ref l0), (1, .int l1), (2, .int l2), (3, .int l3), (4, .int l4), (5, .int l5), (6, .int l6), (7, .int x1), (8, .int (nI 0))] [] (M1.1, (uI (uI (uI M1.2.1 l0 3 (nI 0)) l0 4 (nI 0)) l0 5 (-2 : Int32)), M1.2.2)) else none) else none) else none) else none) else none) else none :=
  (blk_ok zcod none d zc_X1_go [(1, .getfield 15, 4, [1, 1, 2, 345, 0], none), (4, .invokevirtual 66, 7, [24, 0, 1, 8, 361, 305, 306, 60], none), (7, .istore 7, 9, [], none), (9, .iconst 0, 10, [], none), (10, .istore 8, 12, [], none), (12, .aload_n 0, 13, [], none), (13, .iconst 0, 14, [], none), (14, .putfield 23, 17, [1, 3, 0, 347, 0, 0], none), (17, .aload_n 0, 18, [], none), (18, .iconst 0, 19, [], none), (19, .putfield 27, 22, [1, 4, 0, 348, 0, 0], none), (22, .aload_n 0, 23, [], none), (23, .bipush (-2), 25, [], none), (25, .putfield 30, 28, [1, 5, 0, 349, 0, 0], none)] (0, .aload_n 0, 1, [], none) (by decide +kernel) _ _ _).trans rfl
theorem B_X1_go_28 (d : Nat) (S : mS) (I : mI) (L : mJ) (l0 : Nat) (l1 : Int32) (l2 : Int32) (l3 : Int32) (l4 : Int32) (l5 : Int32) (l6 : Int32) (l7 : Int32) (l8 : Int32) :
  evk zcod none d zc_X1_go 28 [(0, .ref l0), (1, .int l1), (2, .int l2), (3, .int l3), (4, .int l4), (5, .int l5), (6, .int l6), (7, .int l7), (8, .int l8)] [] (S, I, L) =
  if kK S l0 = 1 then
 (evk zcod none d zc_X1_go 37 [(0, .ref l0), (1, .int l1), (2, .int l2), (3, .int l3), (5, .int l5), (6, .int l6), (7, .int l7), (8, .int l8), (9, .int (nI 0))] [] (S, (uI I l0 6 l4), L)) else none :=
  (blk_ok zcod none d zc_X1_go [(29, .iload 4, 31, [], none), (31, .putfield 33, 34, [1, 6, 0, 350, 0, 0], none), (34, .iconst 0, 35, [], none), (35, .istore 9, 37, [], none)] (28, .aload_n 0, 29, [], some [0, 1, 2, 3, 4, 5, 6, 7, 8]) (by decide +kernel) _ _ _).trans rfl
theorem B_X1_go_124 (d : Nat) (S : mS) (I : mI) (L : mJ) (l0 : Nat) (l1 : Int32) (l2 : Int32) (l3 : Int32) (l5 : Int32) (l6 : Int32) (l7 : Int32) (l8 : Int32) (l9 : Int32) :
  evk zcod none d zc_X1_go 124 [(0, .ref l0), (1, .int l1), (2, .int l2), (3, .int l3), (5, .int l5), (6, .int l6), (7, .int l7), (8, .int l8), (9, .int l9)] [] (S, I, L) =
  if kK S l0 = 1 then
 (bV (evM zcod d 91 [.ref l0, .int l8, .int (l9 + (nI 1))] (S, I, L)) fun M1 =>
 if M1.1.1 = S.1 then
 (evk zcod none d zc_X1_go 37 [(0, .ref l0), (1, .int l1), (2, .int l2), (3, .int l3), (5, .int l5), (6, .int l6), (7, .int l7), (8, .int l8), (9, .int (l9 + (nI 1)))] [] M1) else none) else none :=
  (blk_ok zcod none d zc_X1_go [(125, .iload 8, 127, [], none), (127, .iload 9, 129, [], none), (129, .iconst 1, 130, [], none), (130, .iadd, 131, [], none), (131, .invokevirtual 85, 134, [91, 2, 0, 1, 366, 367, 368, 359], none), (134, .iinc 9 1, 137, [], none), (137, .goto (-100), 140, [37], none)] (124, .aload_n 0, 125, [], some [0, 1, 2, 3, 5, 6, 7, 8, 9]) (by decide +kernel) _ _ _).trans rfl
theorem B_X1_go_140 (d : Nat) (S : mS) (I : mI) (L : mJ)  :
  evk zcod none d zc_X1_go 140 [] [] (S, I, L) =
  some (none, (S, I, L)) :=
  (blk_ok zcod none d zc_X1_go [] (140, .return_, 141, [], some []) (by decide +kernel) _ _ _).trans rfl
theorem E_X1_endAt (d : Nat) (M : zM) (l0 : Nat) (l1 : Int32) (l2 : Int32) : evM zcod (d + 1) 91 [.ref l0, .int l1, .int l2] M = evk zcod none d zc_X1_endAt 0 [(0, .ref l0), (1, .int l1), (2, .int l2)] [] M := evM_eq zcod d 91 _ M (Nat.le_of_ble_eq_true rfl)
theorem B_X1_endAt_0 (d : Nat) (S : mS) (I : mI) (L : mJ) (l0 : Nat) (l1 : Int32) (l2 : Int32) :
  evk zcod none d zc_X1_endAt 0 [(0, .ref l0), (1, .int l1), (2, .int l2)] [] (S, I, L) =
  if kK S l0 = 1 then
 (if kK S (kR S l0 0) = 5 then
 (if l1 < (I (kR S l0 0) 2) then
 evk zcod none d zc_X1_endAt 53 [(0, .ref l0), (1, .int l1), (2, .int l2)] [] (S, I, L)
 else
 if kK S l0 = 1 then
 (if kK S l0 = 1 then
 (if kK S (kR S l0 1) = 8 then
 (bI (evM zcod d 30 [.ref (kR S l0 1), .int (I l0 6), .int (nI 0)] (S, I, L)) fun x1 M1 =>
 if M1.1.1 = S.1 then
 (if kK M1.1 l0 = 1 then
 (if kK M1.1 l0 = 1 then
 (if ¬ ((uI M1.2.1 l0 5 x1) l0 5) = (-2 : Int32) then
 evk zcod none d zc_X1_endAt 41 [(0, .ref l0), (2, .int l2)] [.ref l0] (M1.1, (uI M1.2.1 l0 5 x1), M1.2.2)
 else
 evk zcod none d zc_X1_endAt 42 [(0, .ref l0), (2, .int l2)] [.int (nI 2), .ref l0] (M1.1, (uI M1.2.1 l0 5 x1), M1.2.2)) else none) else none) else none) else none) else none) else none) else none) else none :=
  (blk_ok zcod none d zc_X1_endAt [(1, .aload_n 0, 2, [], none), (2, .getfield 9, 5, [1, 0, 2, 344, 0], none), (5, .getfield 89, 8, [5, 2, 0, 369, 1], none), (8, .if_icmp .lt 45, 11, [53], none), (11, .aload_n 0, 12, [], none), (12, .aload_n 0, 13, [], none), (13, .getfield 15, 16, [1, 1, 2, 345, 0], none), (16, .aload_n 0, 17, [], none), (17, .getfield 33, 20, [1, 6, 0, 350, 0], none), (20, .iconst 0, 21, [], none), (21, .invokevirtual 94, 24, [30, 2, 1, 8, 370, 336, 337, 60], none), (24, .putfield 30, 27, [1, 5, 0, 349, 0, 0], none), (27, .aload_n 0, 28, [], none), (28, .aload_n 0, 29, [], none), (29, .getfield 30, 32, [1, 5, 0, 349, 0], none), (32, .bipush (-2), 34, [], none), (34, .if_icmp .ne 7, 37, [41], none), (37, .iconst 2, 38, [], none), (38, .goto 4, 41, [42], none)] (0, .iload_n 1, 1, [], none) (by decide +kernel) _ _ _).trans rfl
theorem B_X1_endAt_41 (d : Nat) (S : mS) (I : mI) (L : mJ) (l0 : Nat) (l2 : Int32) (s0 : Nat) :
  evk zcod none d zc_X1_endAt 41 [(0, .ref l0), (2, .int l2)] [.ref s0] (S, I, L) =
  evk zcod none d zc_X1_endAt 42 [(0, .ref l0), (2, .int l2)] [.int (nI 1), .ref s0] (S, I, L) :=
  (blk_ok zcod none d zc_X1_endAt [] (41, .iconst 1, 42, [], some [0, 2]) (by decide +kernel) _ _ _).trans rfl
theorem B_X1_endAt_42 (d : Nat) (S : mS) (I : mI) (L : mJ) (l0 : Nat) (l2 : Int32) (s0 : Nat) (s1 : Int32) :
  evk zcod none d zc_X1_endAt 42 [(0, .ref l0), (2, .int l2)] [.int s1, .ref s0] (S, I, L) =
  if kK S s0 = 1 then
 (if kK S l0 = 1 then
 (evk zcod none d zc_X1_endAt 67 [] [] (S, (uI (uI I s0 4 s1) l0 3 l2), L)) else none) else none :=
  (blk_ok zcod none d zc_X1_endAt [(45, .aload_n 0, 46, [], none), (46, .iload_n 2, 47, [], none), (47, .putfield 23, 50, [1, 3, 0, 347, 0, 0], none), (50, .goto 17, 53, [67], none)] (42, .putfield 27, 45, [1, 4, 0, 348, 0, 0], some [0, 2]) (by decide +kernel) _ _ _).trans rfl
theorem B_X1_endAt_53 (d : Nat) (S : mS) (I : mI) (L : mJ) (l0 : Nat) (l1 : Int32) (l2 : Int32) :
  evk zcod none d zc_X1_endAt 53 [(0, .ref l0), (1, .int l1), (2, .int l2)] [] (S, I, L) =
  if (nI 0) < l1 then
 evk zcod none d zc_X1_endAt 67 [] [] (S, I, L)
 else
 if kK S l0 = 1 then
 (if kK S l0 = 1 then
 (evk zcod none d zc_X1_endAt 67 [] [] (S, (uI (uI I l0 4 (nI 3)) l0 3 l2), L)) else none) else none :=
  (blk_ok zcod none d zc_X1_endAt [(54, .ifCond .gt 13, 57, [67], none), (57, .aload_n 0, 58, [], none), (58, .iconst 3, 59, [], none), (59, .putfield 27, 62, [1, 4, 0, 348, 0, 0], none), (62, .aload_n 0, 63, [], none), (63, .iload_n 2, 64, [], none), (64, .putfield 23, 67, [1, 3, 0, 347, 0, 0], none)] (53, .iload_n 1, 54, [], some [0, 1, 2]) (by decide +kernel) _ _ _).trans rfl
theorem B_X1_endAt_67 (d : Nat) (S : mS) (I : mI) (L : mJ)  :
  evk zcod none d zc_X1_endAt 67 [] [] (S, I, L) =
  some (none, (S, I, L)) :=
  (blk_ok zcod none d zc_X1_endAt [] (67, .return_, 68, [], some []) (by decide +kernel) _ _ _).trans rfl
theorem E_X2_weigh (d : Nat) (M : zM) (l0 : Nat) : evM zcod (d + 1) 93 [.ref l0] M = evk zcod none d zc_X2_weigh 0 [(0, .ref l0)] [] M := evM_eq zcod d 93 _ M (Nat.le_of_ble_eq_true rfl)
theorem B_X2_weigh_0 (d : Nat) (S : mS) (I : mI) (L : mJ) (l0 : Nat) :
  evk zcod none d zc_X2_weigh 0 [(0, .ref l0)] [] (S, I, L) =
  evk zcod none d zc_X2_weigh 2 [(0, .ref l0), (1, .int (nI 0))] [] (S, I, L) :=
  (blk_ok zcod none d zc_X2_weigh [(1, .istore_n 1, 2, [], none)] (0, .iconst 0, 1, [], none) (by decide +kernel) _ _ _).trans rfl
theorem B_X2_weigh_2 (d : Nat) (S : mS) (I : mI) (L : mJ) (l0 : Nat) (l1 : Int32) :
  evk zcod none d zc_X2_weigh 2 [(0, .ref l0), (1, .int l1)] [] (S, I, L) =
  if (nI 7) ≤ l1 then
 evk zcod none d zc_X2_weigh 58 [(0, .ref l0)] [] (S, I, L)
 else
 evk zcod none d zc_X2_weigh 10 [(0, .ref l0), (1, .int l1), (2, .int (nI 0))] [] (S, I, L) :=
  (blk_ok zcod none d zc_X2_weigh [(3, .bipush 7, 5, [], none), (5, .if_icmp .ge 53, 8, [58], none), (8, .iconst 0, 9, [], none), (9, .istore_n 2, 10, [], none)] (2, .iload_n 1, 3, [], some [0, 1]) (by decide +kernel) _ _ _).trans rfl
theorem B_X2_weigh_10 (d : Nat) (S : mS) (I : mI) (L : mJ) (l0 : Nat) (l1 : Int32) (l2 : Int32) :
  evk zcod none d zc_X2_weigh 10 [(0, .ref l0), (1, .int l1), (2, .int l2)] [] (S, I, L) =
  if (nI 5) ≤ l2 then
 evk zcod none d zc_X2_weigh 52 [(0, .ref l0), (1, .int l1)] [] (S, I, L)
 else
 if kK S l0 = 2 then
 (if kK S (kR S l0 3) = 25 ∧ zin l1 (kN S (kR S l0 3)) then
 (if kK S l0 = 2 then
 (if kK S (kR S l0 0) = 8 then
 (bI (evM zcod d 27 [.ref (kR S l0 0), .int l1, .int l2] (S, I, L)) fun x1 M1 =>
 if M1.1.1 = S.1 then
 (if x1 = (nI 0) then
 evk zcod none d zc_X2_weigh 43 [(0, .ref l0), (1, .int l1), (2, .int l2)] [.int l2, .ref (kR S (kR S l0 3) (zix l1))] M1
 else
 if kK M1.1 l0 = 2 then
 (bI (evM zcod d 94 [.ref l0, .int l1, .int l2] M1) fun x2 M2 =>
 if M2.1.1 = M1.1.1 then
 (evk zcod none d zc_X2_weigh 45 [(0, .ref l0), (1, .int l1), (2, .int l2)] [.int x2, .int l2, .ref (kR S (kR S l0 3) (zix l1))] M2) else none) else none) else none) else none) else none) else none) else none :=
  (blk_ok zcod none d zc_X2_weigh [(11, .iconst 5, 12, [], none), (12, .if_icmp .ge 40, 15, [52], none), (15, .aload_n 0, 16, [], none), (16, .getfield 25, 19, [2, 3, 2, 377, 0], none), (19, .iload_n 1, 20, [], none), (20, .aaload, 21, [25], none), (21, .iload_n 2, 22, [], none), (22, .aload_n 0, 23, [], none), (23, .getfield 9, 26, [2, 0, 2, 372, 0], none), (26, .iload_n 1, 27, [], none), (27, .iload_n 2, 28, [], none), (28, .invokevirtual 35, 31, [27, 2, 1, 8, 380, 381, 382, 60], none), (31, .ifCond .eq 12, 34, [43], none), (34, .aload_n 0, 35, [], none), (35, .iload_n 1, 36, [], none), (36, .iload_n 2, 37, [], none), (37, .invokevirtual 41, 40, [94, 2, 1, 2, 383, 384, 385, 386], none), (40, .goto 5, 43, [45], none)] (10, .iload_n 2, 11, [], some [0, 1, 2]) (by decide +kernel) _ _ _).trans rfl
theorem B_X2_weigh_43 (d : Nat) (S : mS) (I : mI) (L : mJ) (l0 : Nat) (l1 : Int32) (l2 : Int32) (s0 : Nat) (s1 : Int32) :
  evk zcod none d zc_X2_weigh 43 [(0, .ref l0), (1, .int l1), (2, .int l2)] [.int s1, .ref s0] (S, I, L) =
  evk zcod none d zc_X2_weigh 45 [(0, .ref l0), (1, .int l1), (2, .int l2)] [.int (Int32.ofNat 4293967296), .int s1, .ref s0] (S, I, L) :=
  (blk_ok zcod none d zc_X2_weigh [] (43, .ldc 45, 45, [0, 4293967296, 387], some [0, 1, 2]) (by decide +kernel) _ _ _).trans rfl
theorem B_X2_weigh_45 (d : Nat) (S : mS) (I : mI) (L : mJ) (l0 : Nat) (l1 : Int32) (l2 : Int32) (s0 : Nat) (s1 : Int32) (s2 : Int32) :
  evk zcod none d zc_X2_weigh 45 [(0, .ref l0), (1, .int l1), (2, .int l2)] [.int s2, .int s1, .ref s0] (S, I, L) =
  if kK S s0 = 20 ∧ zin s1 (kN S s0) then
 (evk zcod none d zc_X2_weigh 10 [(0, .ref l0), (1, .int l1), (2, .int (l2 + (nI 1)))] [] (S, (uI I s0 (zix s1) s2), L)) else none :=
  (blk_ok zcod none d zc_X2_weigh [(46, .iinc 2 1, 49, [], none), (49, .goto (-39), 52, [10], none)] (45, .iastore, 46, [20], some [0, 1, 2]) (by decide +kernel) _ _ _).trans rfl
theorem B_X2_weigh_52 (d : Nat) (S : mS) (I : mI) (L : mJ) (l0 : Nat) (l1 : Int32) :
  evk zcod none d zc_X2_weigh 52 [(0, .ref l0), (1, .int l1)] [] (S, I, L) =
  evk zcod none d zc_X2_weigh 2 [(0, .ref l0), (1, .int (l1 + (nI 1)))] [] (S, I, L) :=
  (blk_ok zcod none d zc_X2_weigh [(55, .goto (-53), 58, [2], none)] (52, .iinc 1 1, 55, [], some [0, 1]) (by decide +kernel) _ _ _).trans rfl
theorem B_X2_weigh_58 (d : Nat) (S : mS) (I : mI) (L : mJ) (l0 : Nat) :
  evk zcod none d zc_X2_weigh 58 [(0, .ref l0)] [] (S, I, L) =
  evk zcod none d zc_X2_weigh 60 [(0, .ref l0), (1, .int (nI 0))] [] (S, I, L) :=
  (blk_ok zcod none d zc_X2_weigh [(59, .istore_n 1, 60, [], none)] (58, .iconst 0, 59, [], some [0]) (by decide +kernel) _ _ _).trans rfl
theorem B_X2_weigh_60 (d : Nat) (S : mS) (I : mI) (L : mJ) (l0 : Nat) (l1 : Int32) :
  evk zcod none d zc_X2_weigh 60 [(0, .ref l0), (1, .int l1)] [] (S, I, L) =
  if (nI 32) ≤ l1 then
 evk zcod none d zc_X2_weigh 82 [(0, .ref l0)] [] (S, I, L)
 else
 if kK S l0 = 2 then
 (if kK S (kR S l0 4) = 25 ∧ zin (nI 7) (kN S (kR S l0 4)) then
 (if kK S (kR S (kR S l0 4) (zix (nI 7))) = 20 ∧ zin l1 (kN S (kR S (kR S l0 4) (zix (nI 7)))) then
 (evk zcod none d zc_X2_weigh 60 [(0, .ref l0), (1, .int (l1 + (nI 1)))] [] (S, (uI I (kR S (kR S l0 4) (zix (nI 7))) (zix l1) (nI 0)), L)) else none) else none) else none :=
  (blk_ok zcod none d zc_X2_weigh [(61, .bipush 32, 63, [], none), (63, .if_icmp .ge 19, 66, [82], none), (66, .aload_n 0, 67, [], none), (67, .getfield 28, 70, [2, 4, 2, 378, 0], none), (70, .bipush 7, 72, [], none), (72, .aaload, 73, [25], none), (73, .iload_n 1, 74, [], none), (74, .iconst 0, 75, [], none), (75, .iastore, 76, [20], none), (76, .iinc 1 1, 79, [], none), (79, .goto (-19), 82, [60], none)] (60, .iload_n 1, 61, [], some [0, 1]) (by decide +kernel) _ _ _).trans rfl
theorem B_X2_weigh_82 (d : Nat) (S : mS) (I : mI) (L : mJ) (l0 : Nat) :
  evk zcod none d zc_X2_weigh 82 [(0, .ref l0)] [] (S, I, L) =
  evk zcod none d zc_X2_weigh 85 [(0, .ref l0), (1, .int (nI 6))] [] (S, I, L) :=
  (blk_ok zcod none d zc_X2_weigh [(84, .istore_n 1, 85, [], none)] (82, .bipush 6, 84, [], some [0]) (by decide +kernel) _ _ _).trans rfl
theorem B_X2_weigh_85 (d : Nat) (S : mS) (I : mI) (L : mJ) (l0 : Nat) (l1 : Int32) :
  evk zcod none d zc_X2_weigh 85 [(0, .ref l0), (1, .int l1)] [] (S, I, L) =
  if l1 < (nI 0) then
 evk zcod none d zc_X2_weigh 123 [] [] (S, I, L)
 else
 evk zcod none d zc_X2_weigh 91 [(0, .ref l0), (1, .int l1), (2, .int (nI 0))] [] (S, I, L) :=
  (blk_ok zcod none d zc_X2_weigh [(86, .ifCond .lt 37, 89, [123], none), (89, .iconst 0, 90, [], none), (90, .istore_n 2, 91, [], none)] (85, .iload_n 1, 86, [], some [0, 1]) (by decide +kernel) _ _ _).trans rfl
theorem B_X2_weigh_91 (d : Nat) (S : mS) (I : mI) (L : mJ) (l0 : Nat) (l1 : Int32) (l2 : Int32) :
  evk zcod none d zc_X2_weigh 91 [(0, .ref l0), (1, .int l1), (2, .int l2)] [] (S, I, L) =
  if (nI 32) ≤ l2 then
 evk zcod none d zc_X2_weigh 117 [(0, .ref l0), (1, .int l1)] [] (S, I, L)
 else
 if kK S l0 = 2 then
 (if kK S (kR S l0 4) = 25 ∧ zin l1 (kN S (kR S l0 4)) then
 (if kK S l0 = 2 then
 (bI (evM zcod d 95 [.ref l0, .int l1, .int l2] (S, I, L)) fun x1 M1 =>
 if M1.1.1 = S.1 then
 (if kK M1.1 (kR S (kR S l0 4) (zix l1)) = 20 ∧ zin l2 (kN M1.1 (kR S (kR S l0 4) (zix l1))) then
 (evk zcod none d zc_X2_weigh 91 [(0, .ref l0), (1, .int l1), (2, .int (l2 + (nI 1)))] [] (M1.1, (uI M1.2.1 (kR S (kR S l0 4) (zix l1)) (zix l2) x1), M1.2.2)) else none) else none) else none) else none) else none :=
  (blk_ok zcod none d zc_X2_weigh [(92, .bipush 32, 94, [], none), (94, .if_icmp .ge 23, 97, [117], none), (97, .aload_n 0, 98, [], none), (98, .getfield 28, 101, [2, 4, 2, 378, 0], none), (101, .iload_n 1, 102, [], none), (102, .aaload, 103, [25], none), (103, .iload_n 2, 104, [], none), (104, .aload_n 0, 105, [], none), (105, .iload_n 1, 106, [], none), (106, .iload_n 2, 107, [], none), (107, .invokevirtual 46, 110, [95, 2, 1, 2, 388, 389, 390, 386], none), (110, .iastore, 111, [20], none), (111, .iinc 2 1, 114, [], none), (114, .goto (-23), 117, [91], none)] (91, .iload_n 2, 92, [], some [0, 1, 2]) (by decide +kernel) _ _ _).trans rfl
theorem B_X2_weigh_123 (d : Nat) (S : mS) (I : mI) (L : mJ)  :
  evk zcod none d zc_X2_weigh 123 [] [] (S, I, L) =
  some (none, (S, I, L)) :=
  (blk_ok zcod none d zc_X2_weigh [] (123, .return_, 124, [], some []) (by decide +kernel) _ _ _).trans rfl
theorem E_X2_gainOf (d : Nat) (M : zM) (l0 : Nat) (l1 : Int32) (l2 : Int32) : evM zcod (d + 1) 94 [.ref l0, .int l1, .int l2] M = evk zcod none d zc_X2_gainOf 0 [(0, .ref l0), (1, .int l1), (2, .int l2)] [] M := evM_eq zcod d 94 _ M (Nat.le_of_ble_eq_true rfl)
theorem B_X2_gainOf_0 (d : Nat) (S : mS) (I : mI) (L : mJ) (l0 : Nat) (l1 : Int32) (l2 : Int32) :
  evk zcod none d zc_X2_gainOf 0 [(0, .ref l0), (1, .int l1), (2, .int l2)] [] (S, I, L) =
  if kK S l0 = 2 then
 (if kK S l0 = 2 then
 (if kK S (kR S l0 0) = 8 then
 (if kK S (kR S (kR S l0 0) 1) = 9 then
 (bI (evM zcod d 5 [.ref (kR S (kR S l0 0) 1), .int l2, .int (nI 3)] (S, I, L)) fun x1 M1 =>
 if M1.1.1 = S.1 then
 (if kK M1.1 (kR S l0 2) = 1 then
 (bV (evM zcod d 89 [.ref (kR S l0 2), .int l1, .int l2, .int x1, .int (nI 0)] M1) fun M2 =>
 if M2.1.1 = M1.1.1 then
 (if kK M2.1 l0 = 2 then
 (if kK M2.1 (kR M2.1 l0 2) = 1 then
 (if (M2.2.1 (kR M2.1 l0 2) 4) = (nI 1) then
 evk zcod none d zc_X2_gainOf 36 [(0, .ref l0), (1, .int l1), (2, .int l2)] [] M2
 else
 some (some (.int (Int32.ofNat 4293967296)), M2)) else none) else none) else none) else none) else none) else none) else none) else none) else none :=
  (blk_ok zcod none d zc_X2_gainOf [(1, .getfield 19, 4, [2, 2, 2, 374, 0], none), (4, .iload_n 1, 5, [], none), (5, .iload_n 2, 6, [], none), (6, .aload_n 0, 7, [], none), (7, .getfield 9, 10, [2, 0, 2, 372, 0], none), (10, .getfield 49, 13, [8, 1, 2, 391, 1], none), (13, .iload_n 2, 14, [], none), (14, .iconst 3, 15, [], none), (15, .invokevirtual 53, 18, [5, 2, 1, 9, 392, 55, 56, 11], none), (18, .iconst 0, 19, [], none), (19, .invokevirtual 58, 22, [89, 4, 0, 1, 393, 394, 395, 359], none), (22, .aload_n 0, 23, [], none), (23, .getfield 19, 26, [2, 2, 2, 374, 0], none), (26, .getfield 64, 29, [1, 4, 0, 396, 1], none), (29, .iconst 1, 30, [], none), (30, .if_icmp .eq 6, 33, [36], none), (33, .ldc 45, 35, [0, 4293967296, 387], none), (35, .ireturn, 36, [0], none)] (0, .aload_n 0, 1, [], none) (by decide +kernel) _ _ _).trans rfl
theorem B_X2_gainOf_36 (d : Nat) (S : mS) (I : mI) (L : mJ) (l0 : Nat) (l1 : Int32) (l2 : Int32) :
  evk zcod none d zc_X2_gainOf 36 [(0, .ref l0), (1, .int l1), (2, .int l2)] [] (S, I, L) =
  if kK S l0 = 2 then
 (if kK S l0 = 2 then
 (if kK S (kR S l0 0) = 8 then
 (if kK S l0 = 2 then
 (if kK S (kR S l0 0) = 8 then
 (bI (evM zcod d 23 [.ref (kR S l0 0)] (S, I, L)) fun x1 M1 =>
 if M1.1.1 = S.1 then
 (if kK M1.1 l0 = 2 then
 (if kK M1.1 (kR M1.1 l0 0) = 8 then
 (bI (evM zcod d 24 [.ref (kR M1.1 l0 0)] M1) fun x2 M2 =>
 if M2.1.1 = M1.1.1 then
 (if kK M2.1 (kR S l0 1) = 7 then
 (bV (evM zcod d 69 [.ref (kR S l0 1), .int (I (kR S l0 0) 3), .int x1, .int x2] M2) fun M3 =>
 if M3.1.1 = M2.1.1 then
 (if kK M3.1 l0 = 2 then
 (if kK M3.1 (kR M3.1 l0 2) = 1 then
 (if kK M3.1 l0 = 2 then
 (if kK M3.1 l0 = 2 then
 (if kK M3.1 (kR M3.1 l0 0) = 8 then
 (if kK M3.1 (kR M3.1 (kR M3.1 l0 0) 1) = 9 then
 (bI (evM zcod d 5 [.ref (kR M3.1 (kR M3.1 l0 0) 1), .int l2, .int (nI 0)] M3) fun x4 M4 =>
 if M4.1.1 = M3.1.1 then
 (if kK M4.1 l0 = 2 then
 (if kK M4.1 (kR M4.1 l0 0) = 8 then
 (if kK M4.1 (kR M4.1 (kR M4.1 l0 0) 0) = 9 then
 (bI (evM zcod d 5 [.ref (kR M4.1 (kR M4.1 l0 0) 0), .int l1, .int (nI 1)] M4) fun x5 M5 =>
 if M5.1.1 = M4.1.1 then
 (if kK M5.1 (kR M3.1 l0 1) = 7 then
 (bI (evM zcod d 72 [.ref (kR M3.1 l0 1), .int x4, .int x5] M5) fun x6 M6 =>
 if M6.1.1 = M5.1.1 then
 (some (some (.int ((M3.2.1 (kR M3.1 l0 2) 7) - x6)), M6)) else none) else none) else none) else none) else none) else none) else none) else none) else none) else none) else none) else none) else none) else none) else none) else none) else none) else none) else none) else none) else none) else none) else none) else none :=
  (blk_ok zcod none d zc_X2_gainOf [(37, .getfield 15, 40, [2, 1, 2, 373, 0], none), (40, .aload_n 0, 41, [], none), (41, .getfield 9, 44, [2, 0, 2, 372, 0], none), (44, .getfield 68, 47, [8, 3, 0, 397, 1], none), (47, .aload_n 0, 48, [], none), (48, .getfield 9, 51, [2, 0, 2, 372, 0], none), (51, .invokevirtual 71, 54, [23, 0, 1, 8, 398, 294, 295, 60], none), (54, .aload_n 0, 55, [], none), (55, .getfield 9, 58, [2, 0, 2, 372, 0], none), (58, .invokevirtual 75, 61, [24, 0, 1, 8, 399, 305, 306, 60], none), (61, .invokevirtual 78, 64, [69, 3, 0, 7, 400, 308, 309, 261], none), (64, .aload_n 0, 65, [], none), (65, .getfield 19, 68, [2, 2, 2, 374, 0], none), (68, .getfield 84, 71, [1, 7, 0, 401, 1], none), (71, .aload_n 0, 72, [], none), (72, .getfield 15, 75, [2, 1, 2, 373, 0], none), (75, .aload_n 0, 76, [], none), (76, .getfield 9, 79, [2, 0, 2, 372, 0], none), (79, .getfield 49, 82, [8, 1, 2, 391, 1], none), (82, .iload_n 2, 83, [], none), (83, .iconst 0, 84, [], none), (84, .invokevirtual 53, 87, [5, 2, 1, 9, 392, 55, 56, 11], none), (87, .aload_n 0, 88, [], none), (88, .getfield 9, 91, [2, 0, 2, 372, 0], none), (91, .getfield 87, 94, [8, 0, 2, 402, 1], none), (94, .iload_n 1, 95, [], none), (95, .iconst 1, 96, [], none), (96, .invokevirtual 53, 99, [5, 2, 1, 9, 392, 55, 56, 11], none), (99, .invokevirtual 90, 102, [72, 2, 1, 7, 403, 404, 405, 261], none), (102, .isub, 103, [], none), (103, .ireturn, 104, [0], none)] (36, .aload_n 0, 37, [], some [0, 1, 2]) (by decide +kernel) _ _ _).trans rfl
theorem E_X2_bestFrom (d : Nat) (M : zM) (l0 : Nat) (l1 : Int32) (l2 : Int32) : evM zcod (d + 1) 95 [.ref l0, .int l1, .int l2] M = evk zcod none d zc_X2_bestFrom 0 [(0, .ref l0), (1, .int l1), (2, .int l2)] [] M := evM_eq zcod d 95 _ M (Nat.le_of_ble_eq_true rfl)
theorem B_X2_bestFrom_0 (d : Nat) (S : mS) (I : mI) (L : mJ) (l0 : Nat) (l1 : Int32) (l2 : Int32) :
  evk zcod none d zc_X2_bestFrom 0 [(0, .ref l0), (1, .int l1), (2, .int l2)] [] (S, I, L) =
  if kK S l0 = 2 then
 (if kK S (kR S l0 4) = 25 ∧ zin (l1 + (nI 1)) (kN S (kR S l0 4)) then
 (if kK S (kR S (kR S l0 4) (zix (l1 + (nI 1)))) = 20 ∧ zin l2 (kN S (kR S (kR S l0 4) (zix (l1 + (nI 1))))) then
 (evk zcod none d zc_X2_bestFrom 14 [(0, .ref l0), (1, .int l1), (2, .int l2), (3, .int (I (kR S (kR S l0 4) (zix (l1 + (nI 1)))) (zix l2))), (4, .int (nI 0))] [] (S, I, L)) else none) else none) else none :=
  (blk_ok zcod none d zc_X2_bestFrom [(1, .getfield 28, 4, [2, 4, 2, 378, 0], none), (4, .iload_n 1, 5, [], none), (5, .iconst 1, 6, [], none), (6, .iadd, 7, [], none), (7, .aaload, 8, [25], none), (8, .iload_n 2, 9, [], none), (9, .iaload, 10, [20], none), (10, .istore_n 3, 11, [], none), (11, .iconst 0, 12, [], none), (12, .istore 4, 14, [], none)] (0, .aload_n 0, 1, [], none) (by decide +kernel) _ _ _).trans rfl
theorem B_X2_bestFrom_14 (d : Nat) (S : mS) (I : mI) (L : mJ) (l0 : Nat) (l1 : Int32) (l2 : Int32) (l3 : Int32) (l4 : Int32) :
  evk zcod none d zc_X2_bestFrom 14 [(0, .ref l0), (1, .int l1), (2, .int l2), (3, .int l3), (4, .int l4)] [] (S, I, L) =
  if (nI 5) ≤ l4 then
 evk zcod none d zc_X2_bestFrom 39 [(3, .int l3)] [] (S, I, L)
 else
 if kK S l0 = 2 then
 (bI (evM zcod d 96 [.ref l0, .int l1, .int l4, .int l2] (S, I, L)) fun x1 M1 =>
 if M1.1.1 = S.1 then
 (bI (evM zcod d 274 [.int l3, .int x1] M1) fun x2 M2 =>
 if M2.1.1 = M1.1.1 then
 (evk zcod none d zc_X2_bestFrom 14 [(0, .ref l0), (1, .int l1), (2, .int l2), (3, .int x2), (4, .int (l4 + (nI 1)))] [] M2) else none) else none) else none :=
  (blk_ok zcod none d zc_X2_bestFrom [(16, .iconst 5, 17, [], none), (17, .if_icmp .ge 22, 20, [39], none), (20, .iload_n 3, 21, [], none), (21, .aload_n 0, 22, [], none), (22, .iload_n 1, 23, [], none), (23, .iload 4, 25, [], none), (25, .iload_n 2, 26, [], none), (26, .invokevirtual 93, 29, [96, 3, 1, 2, 406, 407, 408, 386], none), (29, .invokestatic 97, 32, [274, 2, 1, 0, 409, 410, 17], none), (32, .istore_n 3, 33, [], none), (33, .iinc 4 1, 36, [], none), (36, .goto (-22), 39, [14], none)] (14, .iload 4, 16, [], some [0, 1, 2, 3, 4]) (by decide +kernel) _ _ _).trans rfl
theorem B_X2_bestFrom_39 (d : Nat) (S : mS) (I : mI) (L : mJ) (l3 : Int32) :
  evk zcod none d zc_X2_bestFrom 39 [(3, .int l3)] [] (S, I, L) =
  some (some (.int l3), (S, I, L)) :=
  (blk_ok zcod none d zc_X2_bestFrom [(40, .ireturn, 41, [0], none)] (39, .iload_n 3, 40, [], some [3]) (by decide +kernel) _ _ _).trans rfl
theorem E_X2_sumBy (d : Nat) (M : zM) (l0 : Nat) (l1 : Int32) (l2 : Int32) (l3 : Int32) : evM zcod (d + 1) 96 [.ref l0, .int l1, .int l2, .int l3] M = evk zcod none d zc_X2_sumBy 0 [(0, .ref l0), (1, .int l1), (2, .int l2), (3, .int l3)] [] M := evM_eq zcod d 96 _ M (Nat.le_of_ble_eq_true rfl)
theorem B_X2_sumBy_0 (d : Nat) (S : mS) (I : mI) (L : mJ) (l0 : Nat) (l1 : Int32) (l2 : Int32) (l3 : Int32) :
  evk zcod none d zc_X2_sumBy 0 [(0, .ref l0), (1, .int l1), (2, .int l2), (3, .int l3)] [] (S, I, L) =
  if ¬ ((l3 >>> (l2 &&& nI 31)) &&& (nI 1)) = (nI 0) then
 evk zcod none d zc_X2_sumBy 21 [] [] (S, I, L)
 else
 if kK S l0 = 2 then
 (if kK S (kR S l0 3) = 25 ∧ zin l1 (kN S (kR S l0 3)) then
 (if kK S (kR S (kR S l0 3) (zix l1)) = 20 ∧ zin l2 (kN S (kR S (kR S l0 3) (zix l1))) then
 (if ¬ (I (kR S (kR S l0 3) (zix l1)) (zix l2)) = (Int32.ofNat 4293967296) then
 evk zcod none d zc_X2_sumBy 24 [(0, .ref l0), (1, .int l1), (2, .int l2), (3, .int l3)] [] (S, I, L)
 else
 evk zcod none d zc_X2_sumBy 21 [] [] (S, I, L)) else none) else none) else none :=
  (blk_ok zcod none d zc_X2_sumBy [(1, .iload_n 2, 2, [], none), (2, .ishr, 3, [], none), (3, .iconst 1, 4, [], none), (4, .iand, 5, [], none), (5, .ifCond .ne 16, 8, [21], none), (8, .aload_n 0, 9, [], none), (9, .getfield 25, 12, [2, 3, 2, 377, 0], none), (12, .iload_n 1, 13, [], none), (13, .aaload, 14, [25], none), (14, .iload_n 2, 15, [], none), (15, .iaload, 16, [20], none), (16, .ldc 45, 18, [0, 4293967296, 387], none), (18, .if_icmp .ne 6, 21, [24], none)] (0, .iload_n 3, 1, [], none) (by decide +kernel) _ _ _).trans rfl
theorem B_X2_sumBy_21 (d : Nat) (S : mS) (I : mI) (L : mJ)  :
  evk zcod none d zc_X2_sumBy 21 [] [] (S, I, L) =
  some (some (.int (Int32.ofNat 4293967296)), (S, I, L)) :=
  (blk_ok zcod none d zc_X2_sumBy [(23, .ireturn, 24, [0], none)] (21, .ldc 45, 23, [0, 4293967296, 387], some []) (by decide +kernel) _ _ _).trans rfl
theorem B_X2_sumBy_24 (d : Nat) (S : mS) (I : mI) (L : mJ) (l0 : Nat) (l1 : Int32) (l2 : Int32) (l3 : Int32) :
  evk zcod none d zc_X2_sumBy 24 [(0, .ref l0), (1, .int l1), (2, .int l2), (3, .int l3)] [] (S, I, L) =
  if kK S l0 = 2 then
 (if kK S (kR S l0 3) = 25 ∧ zin l1 (kN S (kR S l0 3)) then
 (if kK S (kR S (kR S l0 3) (zix l1)) = 20 ∧ zin l2 (kN S (kR S (kR S l0 3) (zix l1))) then
 (if kK S l0 = 2 then
 (if kK S (kR S l0 4) = 25 ∧ zin (l1 + (nI 1)) (kN S (kR S l0 4)) then
 (if kK S (kR S (kR S l0 4) (zix (l1 + (nI 1)))) = 20 ∧ zin (l3 ||| ((nI 1) <<< (l2 &&& nI 31))) (kN S (kR S (kR S l0 4) (zix (l1 + (nI 1))))) then
 (some (some (.int ((I (kR S (kR S l0 3) (zix l1)) (zix l2)) + (I (kR S (kR S l0 4) (zix (l1 + (nI 1)))) (zix (l3 ||| ((nI 1) <<< (l2 &&& nI 31))))))), (S, I, L))) else none) else none) else none) else none) else none) else none :=
  (blk_ok zcod none d zc_X2_sumBy [(25, .getfield 25, 28, [2, 3, 2, 377, 0], none), (28, .iload_n 1, 29, [], none), (29, .aaload, 30, [25], none), (30, .iload_n 2, 31, [], none), (31, .iaload, 32, [20], none), (32, .aload_n 0, 33, [], none), (33, .getfield 28, 36, [2, 4, 2, 378, 0], none), (36, .iload_n 1, 37, [], none), (37, .iconst 1, 38, [], none), (38, .iadd, 39, [], none), (39, .aaload, 40, [25], none), (40, .iload_n 3, 41, [], none), (41, .iconst 1, 42, [], none), (42, .iload_n 2, 43, [], none), (43, .ishl, 44, [], none), (44, .ior, 45, [], none), (45, .iaload, 46, [20], none), (46, .iadd, 47, [], none), (47, .ireturn, 48, [0], none)] (24, .aload_n 0, 25, [], some [0, 1, 2, 3]) (by decide +kernel) _ _ _).trans rfl
theorem E_X2_most (d : Nat) (M : zM) (l0 : Nat) : evM zcod (d + 1) 97 [.ref l0] M = evk zcod none d zc_X2_most 0 [(0, .ref l0)] [] M := evM_eq zcod d 97 _ M (Nat.le_of_ble_eq_true rfl)
theorem B_X2_most_0 (d : Nat) (S : mS) (I : mI) (L : mJ) (l0 : Nat) :
  evk zcod none d zc_X2_most 0 [(0, .ref l0)] [] (S, I, L) =
  if kK S l0 = 2 then
 (if kK S (kR S l0 4) = 25 ∧ zin (nI 0) (kN S (kR S l0 4)) then
 (if kK S (kR S (kR S l0 4) (zix (nI 0))) = 20 ∧ zin (nI 0) (kN S (kR S (kR S l0 4) (zix (nI 0)))) then
 (some (some (.int (I (kR S (kR S l0 4) (zix (nI 0))) (zix (nI 0)))), (S, I, L))) else none) else none) else none :=
  (blk_ok zcod none d zc_X2_most [(1, .getfield 28, 4, [2, 4, 2, 378, 0], none), (4, .iconst 0, 5, [], none), (5, .aaload, 6, [25], none), (6, .iconst 0, 7, [], none), (7, .iaload, 8, [20], none), (8, .ireturn, 9, [0], none)] (0, .aload_n 0, 1, [], none) (by decide +kernel) _ _ _).trans rfl
theorem E_X2_silkOf (d : Nat) (M : zM) (l0 : Nat) (l1 : Int32) : evM zcod (d + 1) 98 [.ref l0, .int l1] M = evk zcod none d zc_X2_silkOf 0 [(0, .ref l0), (1, .int l1)] [] M := evM_eq zcod d 98 _ M (Nat.le_of_ble_eq_true rfl)
theorem B_X2_silkOf_0 (d : Nat) (S : mS) (I : mI) (L : mJ) (l0 : Nat) (l1 : Int32) :
  evk zcod none d zc_X2_silkOf 0 [(0, .ref l0), (1, .int l1)] [] (S, I, L) =
  evk zcod none d zc_X2_silkOf 8 [(0, .ref l0), (1, .int l1), (2, .int (nI 0)), (3, .int (-2 : Int32)), (4, .int (nI 0))] [] (S, I, L) :=
  (blk_ok zcod none d zc_X2_silkOf [(1, .istore_n 2, 2, [], none), (2, .bipush (-2), 4, [], none), (4, .istore_n 3, 5, [], none), (5, .iconst 0, 6, [], none), (6, .istore 4, 8, [], none)] (0, .iconst 0, 1, [], none) (by decide +kernel) _ _ _).trans rfl
theorem B_X2_silkOf_8 (d : Nat) (S : mS) (I : mI) (L : mJ) (l0 : Nat) (l1 : Int32) (l2 : Int32) (l3 : Int32) (l4 : Int32) :
  evk zcod none d zc_X2_silkOf 8 [(0, .ref l0), (1, .int l1), (2, .int l2), (3, .int l3), (4, .int l4)] [] (S, I, L) =
  if l1 < l4 then
 evk zcod none d zc_X2_silkOf 45 [(3, .int l3)] [] (S, I, L)
 else
 if (nI 7) ≤ l4 then
 evk zcod none d zc_X2_silkOf 45 [(3, .int l3)] [] (S, I, L)
 else
 if kK S l0 = 2 then
 (bI (evM zcod d 99 [.ref l0, .int l4, .int l2] (S, I, L)) fun x1 M1 =>
 if M1.1.1 = S.1 then
 (if x1 < (nI 0) then
 evk zcod none d zc_X2_silkOf 39 [(0, .ref l0), (1, .int l1), (2, .int l2), (3, .int x1), (4, .int l4)] [] M1
 else
 evk zcod none d zc_X2_silkOf 39 [(0, .ref l0), (1, .int l1), (2, .int (l2 ||| ((nI 1) <<< (x1 &&& nI 31)))), (3, .int x1), (4, .int l4)] [] M1) else none) else none :=
  (blk_ok zcod none d zc_X2_silkOf [(10, .iload_n 1, 11, [], none), (11, .if_icmp .gt 34, 14, [45], none), (14, .iload 4, 16, [], none), (16, .bipush 7, 18, [], none), (18, .if_icmp .ge 27, 21, [45], none), (21, .aload_n 0, 22, [], none), (22, .iload 4, 24, [], none), (24, .iload_n 2, 25, [], none), (25, .invokevirtual 102, 28, [99, 2, 1, 2, 411, 412, 413, 386], none), (28, .istore_n 3, 29, [], none), (29, .iload_n 3, 30, [], none), (30, .ifCond .lt 9, 33, [39], none), (33, .iload_n 2, 34, [], none), (34, .iconst 1, 35, [], none), (35, .iload_n 3, 36, [], none), (36, .ishl, 37, [], none), (37, .ior, 38, [], none), (38, .istore_n 2, 39, [], none)] (8, .iload 4, 10, [], some [0, 1, 2, 3, 4]) (by decide +kernel) _ _ _).trans rfl
theorem B_X2_silkOf_39 (d : Nat) (S : mS) (I : mI) (L : mJ) (l0 : Nat) (l1 : Int32) (l2 : Int32) (l3 : Int32) (l4 : Int32) :
  evk zcod none d zc_X2_silkOf 39 [(0, .ref l0), (1, .int l1), (2, .int l2), (3, .int l3), (4, .int l4)] [] (S, I, L) =
  evk zcod none d zc_X2_silkOf 8 [(0, .ref l0), (1, .int l1), (2, .int l2), (3, .int l3), (4, .int (l4 + (nI 1)))] [] (S, I, L) :=
  (blk_ok zcod none d zc_X2_silkOf [(42, .goto (-34), 45, [8], none)] (39, .iinc 4 1, 42, [], some [0, 1, 2, 3, 4]) (by decide +kernel) _ _ _).trans rfl
theorem B_X2_silkOf_45 (d : Nat) (S : mS) (I : mI) (L : mJ) (l3 : Int32) :
  evk zcod none d zc_X2_silkOf 45 [(3, .int l3)] [] (S, I, L) =
  some (some (.int l3), (S, I, L)) :=
  (blk_ok zcod none d zc_X2_silkOf [(46, .ireturn, 47, [0], none)] (45, .iload_n 3, 46, [], some [3]) (by decide +kernel) _ _ _).trans rfl
theorem E_X2_firstBest (d : Nat) (M : zM) (l0 : Nat) (l1 : Int32) (l2 : Int32) : evM zcod (d + 1) 99 [.ref l0, .int l1, .int l2] M = evk zcod none d zc_X2_firstBest 0 [(0, .ref l0), (1, .int l1), (2, .int l2)] [] M := evM_eq zcod d 99 _ M (Nat.le_of_ble_eq_true rfl)
theorem B_X2_firstBest_0 (d : Nat) (S : mS) (I : mI) (L : mJ) (l0 : Nat) (l1 : Int32) (l2 : Int32) :
  evk zcod none d zc_X2_firstBest 0 [(0, .ref l0), (1, .int l1), (2, .int l2)] [] (S, I, L) =
  evk zcod none d zc_X2_firstBest 2 [(0, .ref l0), (1, .int l1), (2, .int l2), (3, .int (nI 0))] [] (S, I, L) :=
  (blk_ok zcod none d zc_X2_firstBest [(1, .istore_n 3, 2, [], none)] (0, .iconst 0, 1, [], none) (by decide +kernel) _ _ _).trans rfl
theorem B_X2_firstBest_2 (d : Nat) (S : mS) (I : mI) (L : mJ) (l0 : Nat) (l1 : Int32) (l2 : Int32) (l3 : Int32) :
  evk zcod none d zc_X2_firstBest 2 [(0, .ref l0), (1, .int l1), (2, .int l2), (3, .int l3)] [] (S, I, L) =
  if (nI 5) ≤ l3 then
 evk zcod none d zc_X2_firstBest 33 [] [] (S, I, L)
 else
 if kK S l0 = 2 then
 (bI (evM zcod d 96 [.ref l0, .int l1, .int l3, .int l2] (S, I, L)) fun x1 M1 =>
 if M1.1.1 = S.1 then
 (if kK M1.1 l0 = 2 then
 (if kK M1.1 (kR M1.1 l0 4) = 25 ∧ zin l1 (kN M1.1 (kR M1.1 l0 4)) then
 (if kK M1.1 (kR M1.1 (kR M1.1 l0 4) (zix l1)) = 20 ∧ zin l2 (kN M1.1 (kR M1.1 (kR M1.1 l0 4) (zix l1))) then
 (if ¬ x1 = (M1.2.1 (kR M1.1 (kR M1.1 l0 4) (zix l1)) (zix l2)) then
 evk zcod none d zc_X2_firstBest 27 [(0, .ref l0), (1, .int l1), (2, .int l2), (3, .int l3)] [] M1
 else
 some (some (.int l3), M1)) else none) else none) else none) else none) else none :=
  (blk_ok zcod none d zc_X2_firstBest [(3, .iconst 5, 4, [], none), (4, .if_icmp .ge 29, 7, [33], none), (7, .aload_n 0, 8, [], none), (8, .iload_n 1, 9, [], none), (9, .iload_n 3, 10, [], none), (10, .iload_n 2, 11, [], none), (11, .invokevirtual 93, 14, [96, 3, 1, 2, 406, 407, 408, 386], none), (14, .aload_n 0, 15, [], none), (15, .getfield 28, 18, [2, 4, 2, 378, 0], none), (18, .iload_n 1, 19, [], none), (19, .aaload, 20, [25], none), (20, .iload_n 2, 21, [], none), (21, .iaload, 22, [20], none), (22, .if_icmp .ne 5, 25, [27], none), (25, .iload_n 3, 26, [], none), (26, .ireturn, 27, [0], none)] (2, .iload_n 3, 3, [], some [0, 1, 2, 3]) (by decide +kernel) _ _ _).trans rfl
theorem B_X2_firstBest_27 (d : Nat) (S : mS) (I : mI) (L : mJ) (l0 : Nat) (l1 : Int32) (l2 : Int32) (l3 : Int32) :
  evk zcod none d zc_X2_firstBest 27 [(0, .ref l0), (1, .int l1), (2, .int l2), (3, .int l3)] [] (S, I, L) =
  evk zcod none d zc_X2_firstBest 2 [(0, .ref l0), (1, .int l1), (2, .int l2), (3, .int (l3 + (nI 1)))] [] (S, I, L) :=
  (blk_ok zcod none d zc_X2_firstBest [(30, .goto (-28), 33, [2], none)] (27, .iinc 3 1, 30, [], some [0, 1, 2, 3]) (by decide +kernel) _ _ _).trans rfl
theorem B_X2_firstBest_33 (d : Nat) (S : mS) (I : mI) (L : mJ)  :
  evk zcod none d zc_X2_firstBest 33 [] [] (S, I, L) =
  some (some (.int (-2 : Int32)), (S, I, L)) :=
  (blk_ok zcod none d zc_X2_firstBest [(35, .ireturn, 36, [0], none)] (33, .bipush (-2), 35, [], some []) (by decide +kernel) _ _ _).trans rfl
theorem E_X2_findHooks (d : Nat) (M : zM) (l0 : Nat) : evM zcod (d + 1) 100 [.ref l0] M = evk zcod none d zc_X2_findHooks 0 [(0, .ref l0)] [] M := evM_eq zcod d 100 _ M (Nat.le_of_ble_eq_true rfl)
theorem B_X2_findHooks_0 (d : Nat) (S : mS) (I : mI) (L : mJ) (l0 : Nat) :
  evk zcod none d zc_X2_findHooks 0 [(0, .ref l0)] [] (S, I, L) =
  evk zcod none d zc_X2_findHooks 2 [(0, .ref l0), (1, .int (nI 0))] [] (S, I, L) :=
  (blk_ok zcod none d zc_X2_findHooks [(1, .istore_n 1, 2, [], none)] (0, .iconst 0, 1, [], none) (by decide +kernel) _ _ _).trans rfl
theorem B_X2_findHooks_2 (d : Nat) (S : mS) (I : mI) (L : mJ) (l0 : Nat) (l1 : Int32) :
  evk zcod none d zc_X2_findHooks 2 [(0, .ref l0), (1, .int l1)] [] (S, I, L) =
  if (nI 7) ≤ l1 then
 evk zcod none d zc_X2_findHooks 61 [] [] (S, I, L)
 else
 if kK S l0 = 2 then
 (if kK S (kR S l0 5) = 20 ∧ zin l1 (kN S (kR S l0 5)) then
 (evk zcod none d zc_X2_findHooks 17 [(0, .ref l0), (1, .int l1), (2, .int (nI 0))] [] (S, (uI I (kR S l0 5) (zix l1) (nI 0)), L)) else none) else none :=
  (blk_ok zcod none d zc_X2_findHooks [(3, .bipush 7, 5, [], none), (5, .if_icmp .ge 56, 8, [61], none), (8, .aload_n 0, 9, [], none), (9, .getfield 31, 12, [2, 5, 2, 379, 0], none), (12, .iload_n 1, 13, [], none), (13, .iconst 0, 14, [], none), (14, .iastore, 15, [20], none), (15, .iconst 0, 16, [], none), (16, .istore_n 2, 17, [], none)] (2, .iload_n 1, 3, [], some [0, 1]) (by decide +kernel) _ _ _).trans rfl
theorem B_X2_findHooks_17 (d : Nat) (S : mS) (I : mI) (L : mJ) (l0 : Nat) (l1 : Int32) (l2 : Int32) :
  evk zcod none d zc_X2_findHooks 17 [(0, .ref l0), (1, .int l1), (2, .int l2)] [] (S, I, L) =
  if (nI 5) ≤ l2 then
 evk zcod none d zc_X2_findHooks 55 [(0, .ref l0), (1, .int l1)] [] (S, I, L)
 else
 if kK S l0 = 2 then
 (if kK S (kR S l0 0) = 8 then
 (bI (evM zcod d 27 [.ref (kR S l0 0), .int l1, .int l2] (S, I, L)) fun x1 M1 =>
 if M1.1.1 = S.1 then
 (if x1 = (nI 0) then
 evk zcod none d zc_X2_findHooks 49 [(0, .ref l0), (1, .int l1), (2, .int l2)] [] M1
 else
 if kK M1.1 l0 = 2 then
 (if kK M1.1 (kR M1.1 l0 5) = 20 ∧ zin l1 (kN M1.1 (kR M1.1 l0 5)) then
 (if kK M1.1 l0 = 2 then
 (bI (evM zcod d 101 [.ref l0, .int l1, .int l2] M1) fun x2 M2 =>
 if M2.1.1 = M1.1.1 then
 (if kK M2.1 (kR M1.1 l0 5) = 20 ∧ zin l1 (kN M2.1 (kR M1.1 l0 5)) then
 (evk zcod none d zc_X2_findHooks 49 [(0, .ref l0), (1, .int l1), (2, .int l2)] [] (M2.1, (uI M2.2.1 (kR M1.1 l0 5) (zix l1) ((M1.2.1 (kR M1.1 l0 5) (zix l1)) ||| x2)), M2.2.2)) else none) else none) else none) else none) else none) else none) else none) else none :=
  (blk_ok zcod none d zc_X2_findHooks [(18, .iconst 5, 19, [], none), (19, .if_icmp .ge 36, 22, [55], none), (22, .aload_n 0, 23, [], none), (23, .getfield 9, 26, [2, 0, 2, 372, 0], none), (26, .iload_n 1, 27, [], none), (27, .iload_n 2, 28, [], none), (28, .invokevirtual 35, 31, [27, 2, 1, 8, 380, 381, 382, 60], none), (31, .ifCond .eq 18, 34, [49], none), (34, .aload_n 0, 35, [], none), (35, .getfield 31, 38, [2, 5, 2, 379, 0], none), (38, .iload_n 1, 39, [], none), (39, .dup2, 40, [], none), (40, .iaload, 41, [20], none), (41, .aload_n 0, 42, [], none), (42, .iload_n 1, 43, [], none), (43, .iload_n 2, 44, [], none), (44, .invokevirtual 105, 47, [101, 2, 1, 2, 414, 415, 416, 386], none), (47, .ior, 48, [], none), (48, .iastore, 49, [20], none)] (17, .iload_n 2, 18, [], some [0, 1, 2]) (by decide +kernel) _ _ _).trans rfl
theorem B_X2_findHooks_49 (d : Nat) (S : mS) (I : mI) (L : mJ) (l0 : Nat) (l1 : Int32) (l2 : Int32) :
  evk zcod none d zc_X2_findHooks 49 [(0, .ref l0), (1, .int l1), (2, .int l2)] [] (S, I, L) =
  evk zcod none d zc_X2_findHooks 17 [(0, .ref l0), (1, .int l1), (2, .int (l2 + (nI 1)))] [] (S, I, L) :=
  (blk_ok zcod none d zc_X2_findHooks [(52, .goto (-35), 55, [17], none)] (49, .iinc 2 1, 52, [], some [0, 1, 2]) (by decide +kernel) _ _ _).trans rfl
theorem B_X2_findHooks_55 (d : Nat) (S : mS) (I : mI) (L : mJ) (l0 : Nat) (l1 : Int32) :
  evk zcod none d zc_X2_findHooks 55 [(0, .ref l0), (1, .int l1)] [] (S, I, L) =
  evk zcod none d zc_X2_findHooks 2 [(0, .ref l0), (1, .int (l1 + (nI 1)))] [] (S, I, L) :=
  (blk_ok zcod none d zc_X2_findHooks [(58, .goto (-56), 61, [2], none)] (55, .iinc 1 1, 58, [], some [0, 1]) (by decide +kernel) _ _ _).trans rfl
theorem B_X2_findHooks_61 (d : Nat) (S : mS) (I : mI) (L : mJ)  :
  evk zcod none d zc_X2_findHooks 61 [] [] (S, I, L) =
  some (none, (S, I, L)) :=
  (blk_ok zcod none d zc_X2_findHooks [] (61, .return_, 62, [], some []) (by decide +kernel) _ _ _).trans rfl
theorem E_X2_hooksFor (d : Nat) (M : zM) (l0 : Nat) (l1 : Int32) (l2 : Int32) : evM zcod (d + 1) 101 [.ref l0, .int l1, .int l2] M = evk zcod none d zc_X2_hooksFor 0 [(0, .ref l0), (1, .int l1), (2, .int l2)] [] M := evM_eq zcod d 101 _ M (Nat.le_of_ble_eq_true rfl)
theorem B_X2_hooksFor_0 (d : Nat) (S : mS) (I : mI) (L : mJ) (l0 : Nat) (l1 : Int32) (l2 : Int32) :
  evk zcod none d zc_X2_hooksFor 0 [(0, .ref l0), (1, .int l1), (2, .int l2)] [] (S, I, L) =
  if kK S l0 = 2 then
 (if kK S l0 = 2 then
 (if kK S (kR S l0 0) = 8 then
 (if kK S (kR S (kR S l0 0) 1) = 9 then
 (bI (evM zcod d 5 [.ref (kR S (kR S l0 0) 1), .int l2, .int (nI 3)] (S, I, L)) fun x1 M1 =>
 if M1.1.1 = S.1 then
 (if kK M1.1 (kR S l0 2) = 1 then
 (bV (evM zcod d 89 [.ref (kR S l0 2), .int l1, .int l2, .int x1, .int (nI 0)] M1) fun M2 =>
 if M2.1.1 = M1.1.1 then
 (if kK M2.1 l0 = 2 then
 (if kK M2.1 (kR M2.1 l0 2) = 1 then
 (bI (evM zcod d 88 [.ref (kR M2.1 l0 2)] M2) fun x3 M3 =>
 if M3.1.1 = M2.1.1 then
 (if x3 = (nI 0) then
 evk zcod none d zc_X2_hooksFor 49 [] [] M3
 else
 if kK M3.1 l0 = 2 then
 (if kK M3.1 l0 = 2 then
 (if kK M3.1 (kR M3.1 l0 2) = 1 then
 (if kK M3.1 (kR M3.1 l0 0) = 8 then
 (bI (evM zcod d 31 [.ref (kR M3.1 l0 0), .int (M3.2.1 (kR M3.1 l0 2) 6)] M3) fun x4 M4 =>
 if M4.1.1 = M3.1.1 then
 (evk zcod none d zc_X2_hooksFor 50 [] [.int x4] M4) else none) else none) else none) else none) else none) else none) else none) else none) else none) else none) else none) else none) else none) else none) else none :=
  (blk_ok zcod none d zc_X2_hooksFor [(1, .getfield 19, 4, [2, 2, 2, 374, 0], none), (4, .iload_n 1, 5, [], none), (5, .iload_n 2, 6, [], none), (6, .aload_n 0, 7, [], none), (7, .getfield 9, 10, [2, 0, 2, 372, 0], none), (10, .getfield 49, 13, [8, 1, 2, 391, 1], none), (13, .iload_n 2, 14, [], none), (14, .iconst 3, 15, [], none), (15, .invokevirtual 53, 18, [5, 2, 1, 9, 392, 55, 56, 11], none), (18, .iconst 0, 19, [], none), (19, .invokevirtual 58, 22, [89, 4, 0, 1, 393, 394, 395, 359], none), (22, .aload_n 0, 23, [], none), (23, .getfield 19, 26, [2, 2, 2, 374, 0], none), (26, .invokevirtual 108, 29, [88, 0, 1, 1, 417, 418, 419, 359], none), (29, .ifCond .eq 20, 32, [49], none), (32, .aload_n 0, 33, [], none), (33, .getfield 9, 36, [2, 0, 2, 372, 0], none), (36, .aload_n 0, 37, [], none), (37, .getfield 19, 40, [2, 2, 2, 374, 0], none), (40, .getfield 112, 43, [1, 6, 0, 420, 1], none), (43, .invokevirtual 115, 46, [31, 1, 1, 8, 421, 422, 423, 60], none), (46, .goto 4, 49, [50], none)] (0, .aload_n 0, 1, [], none) (by decide +kernel) _ _ _).trans rfl
theorem B_X2_hooksFor_49 (d : Nat) (S : mS) (I : mI) (L : mJ)  :
  evk zcod none d zc_X2_hooksFor 49 [] [] (S, I, L) =
  evk zcod none d zc_X2_hooksFor 50 [] [.int (nI 0)] (S, I, L) :=
  (blk_ok zcod none d zc_X2_hooksFor [] (49, .iconst 0, 50, [], some []) (by decide +kernel) _ _ _).trans rfl
theorem B_X2_hooksFor_50 (d : Nat) (S : mS) (I : mI) (L : mJ) (s0 : Int32) :
  evk zcod none d zc_X2_hooksFor 50 [] [.int s0] (S, I, L) =
  some (some (.int s0), (S, I, L)) :=
  (blk_ok zcod none d zc_X2_hooksFor [] (50, .ireturn, 51, [0], some []) (by decide +kernel) _ _ _).trans rfl
theorem E_X2_isServedBy (d : Nat) (M : zM) (l0 : Nat) (l1 : Int32) : evM zcod (d + 1) 102 [.ref l0, .int l1] M = evk zcod none d zc_X2_isServedBy 0 [(0, .ref l0), (1, .int l1)] [] M := evM_eq zcod d 102 _ M (Nat.le_of_ble_eq_true rfl)
theorem B_X2_isServedBy_0 (d : Nat) (S : mS) (I : mI) (L : mJ) (l0 : Nat) (l1 : Int32) :
  evk zcod none d zc_X2_isServedBy 0 [(0, .ref l0), (1, .int l1)] [] (S, I, L) =
  evk zcod none d zc_X2_isServedBy 2 [(0, .ref l0), (1, .int l1), (2, .int (nI 0))] [] (S, I, L) :=
  (blk_ok zcod none d zc_X2_isServedBy [(1, .istore_n 2, 2, [], none)] (0, .iconst 0, 1, [], none) (by decide +kernel) _ _ _).trans rfl
theorem B_X2_isServedBy_2 (d : Nat) (S : mS) (I : mI) (L : mJ) (l0 : Nat) (l1 : Int32) (l2 : Int32) :
  evk zcod none d zc_X2_isServedBy 2 [(0, .ref l0), (1, .int l1), (2, .int l2)] [] (S, I, L) =
  if (nI 7) ≤ l2 then
 evk zcod none d zc_X2_isServedBy 36 [] [] (S, I, L)
 else
 if kK S l0 = 2 then
 (if kK S (kR S l0 5) = 20 ∧ zin l2 (kN S (kR S l0 5)) then
 (if (I (kR S l0 5) (zix l2)) = (nI 0) then
 evk zcod none d zc_X2_isServedBy 30 [(0, .ref l0), (1, .int l1), (2, .int l2)] [] (S, I, L)
 else
 if kK S l0 = 2 then
 (if kK S (kR S l0 5) = 20 ∧ zin l2 (kN S (kR S l0 5)) then
 (if ¬ ((I (kR S l0 5) (zix l2)) &&& l1) = (nI 0) then
 evk zcod none d zc_X2_isServedBy 30 [(0, .ref l0), (1, .int l1), (2, .int l2)] [] (S, I, L)
 else
 some (some (.int (nI 0)), (S, I, L))) else none) else none) else none) else none :=
  (blk_ok zcod none d zc_X2_isServedBy [(3, .bipush 7, 5, [], none), (5, .if_icmp .ge 31, 8, [36], none), (8, .aload_n 0, 9, [], none), (9, .getfield 31, 12, [2, 5, 2, 379, 0], none), (12, .iload_n 2, 13, [], none), (13, .iaload, 14, [20], none), (14, .ifCond .eq 16, 17, [30], none), (17, .aload_n 0, 18, [], none), (18, .getfield 31, 21, [2, 5, 2, 379, 0], none), (21, .iload_n 2, 22, [], none), (22, .iaload, 23, [20], none), (23, .iload_n 1, 24, [], none), (24, .iand, 25, [], none), (25, .ifCond .ne 5, 28, [30], none), (28, .iconst 0, 29, [], none), (29, .ireturn, 30, [1], none)] (2, .iload_n 2, 3, [], some [0, 1, 2]) (by decide +kernel) _ _ _).trans rfl
theorem B_X2_isServedBy_30 (d : Nat) (S : mS) (I : mI) (L : mJ) (l0 : Nat) (l1 : Int32) (l2 : Int32) :
  evk zcod none d zc_X2_isServedBy 30 [(0, .ref l0), (1, .int l1), (2, .int l2)] [] (S, I, L) =
  evk zcod none d zc_X2_isServedBy 2 [(0, .ref l0), (1, .int l1), (2, .int (l2 + (nI 1)))] [] (S, I, L) :=
  (blk_ok zcod none d zc_X2_isServedBy [(33, .goto (-31), 36, [2], none)] (30, .iinc 2 1, 33, [], some [0, 1, 2]) (by decide +kernel) _ _ _).trans rfl
theorem B_X2_isServedBy_36 (d : Nat) (S : mS) (I : mI) (L : mJ)  :
  evk zcod none d zc_X2_isServedBy 36 [] [] (S, I, L) =
  some (some (.int (nI 1)), (S, I, L)) :=
  (blk_ok zcod none d zc_X2_isServedBy [(37, .ireturn, 38, [1], none)] (36, .iconst 1, 37, [], some []) (by decide +kernel) _ _ _).trans rfl
theorem E_X4_clear (d : Nat) (M : zM) (l0 : Nat) : evM zcod (d + 1) 104 [.ref l0] M = evk zcod none d zc_X4_clear 0 [(0, .ref l0)] [] M := evM_eq zcod d 104 _ M (Nat.le_of_ble_eq_true rfl)
theorem B_X4_clear_0 (d : Nat) (S : mS) (I : mI) (L : mJ) (l0 : Nat) :
  evk zcod none d zc_X4_clear 0 [(0, .ref l0)] [] (S, I, L) =
  if kK S l0 = 4 then
 (if kK S l0 = 4 then
 (some (none, (S, (uI (uI I l0 2 (nI 0)) l0 4 (nI 0)), L))) else none) else none :=
  (blk_ok zcod none d zc_X4_clear [(1, .iconst 0, 2, [], none), (2, .putfield 25, 5, [4, 2, 0, 431, 0, 0], none), (5, .aload_n 0, 6, [], none), (6, .iconst 0, 7, [], none), (7, .putfield 28, 10, [4, 4, 0, 432, 0, 0], none), (10, .return_, 11, [], none)] (0, .aload_n 0, 1, [], none) (by decide +kernel) _ _ _).trans rfl
theorem E_X4_depth (d : Nat) (M : zM) (l0 : Nat) : evM zcod (d + 1) 105 [.ref l0] M = evk zcod none d zc_X4_depth 0 [(0, .ref l0)] [] M := evM_eq zcod d 105 _ M (Nat.le_of_ble_eq_true rfl)
theorem B_X4_depth_0 (d : Nat) (S : mS) (I : mI) (L : mJ) (l0 : Nat) :
  evk zcod none d zc_X4_depth 0 [(0, .ref l0)] [] (S, I, L) =
  if kK S l0 = 4 then
 (some (some (.int (I l0 2)), (S, I, L))) else none :=
  (blk_ok zcod none d zc_X4_depth [(1, .getfield 25, 4, [4, 2, 0, 431, 0], none), (4, .ireturn, 5, [0], none)] (0, .aload_n 0, 1, [], none) (by decide +kernel) _ _ _).trans rfl
theorem E_X4_held (d : Nat) (M : zM) (l0 : Nat) : evM zcod (d + 1) 106 [.ref l0] M = evk zcod none d zc_X4_held 0 [(0, .ref l0)] [] M := evM_eq zcod d 106 _ M (Nat.le_of_ble_eq_true rfl)
theorem B_X4_held_0 (d : Nat) (S : mS) (I : mI) (L : mJ) (l0 : Nat) :
  evk zcod none d zc_X4_held 0 [(0, .ref l0)] [] (S, I, L) =
  if kK S l0 = 4 then
 (bI (evM zcod d 277 [.int (I l0 4)] (S, I, L)) fun x1 M1 =>
 if M1.1.1 = S.1 then
 (some (some (.int x1), M1)) else none) else none :=
  (blk_ok zcod none d zc_X4_held [(1, .getfield 28, 4, [4, 4, 0, 432, 0], none), (4, .invokestatic 31, 7, [277, 1, 1, 0, 433, 62, 63], none), (7, .ireturn, 8, [0], none)] (0, .aload_n 0, 1, [], none) (by decide +kernel) _ _ _).trans rfl
theorem E_X4_keep (d : Nat) (M : zM) (l0 : Nat) (l1 : Nat) : evM zcod (d + 1) 107 [.ref l0, .ref l1] M = evk zcod none d zc_X4_keep 0 [(0, .ref l0), (1, .ref l1)] [] M := evM_eq zcod d 107 _ M (Nat.le_of_ble_eq_true rfl)
theorem B_X4_keep_0 (d : Nat) (S : mS) (I : mI) (L : mJ) (l0 : Nat) (l1 : Nat) :
  evk zcod none d zc_X4_keep 0 [(0, .ref l0), (1, .ref l1)] [] (S, I, L) =
  if kK S l0 = 4 then
 (if (I l0 1) < (nI 0) then
 evk zcod none d zc_X4_keep 19 [] [] (S, I, L)
 else
 if kK S l0 = 4 then
 (if kK S l0 = 4 then
 (if kK S (kR S l0 0) = 24 then
 (if (I l0 1) < (nI (kN S (kR S l0 0))) then
 evk zcod none d zc_X4_keep 20 [(0, .ref l0), (1, .ref l1)] [] (S, I, L)
 else
 evk zcod none d zc_X4_keep 19 [] [] (S, I, L)) else none) else none) else none) else none :=
  (blk_ok zcod none d zc_X4_keep [(1, .getfield 21, 4, [4, 1, 0, 430, 0], none), (4, .ifCond .lt 15, 7, [19], none), (7, .aload_n 0, 8, [], none), (8, .getfield 21, 11, [4, 1, 0, 430, 0], none), (11, .aload_n 0, 12, [], none), (12, .getfield 11, 15, [4, 0, 2, 427, 0], none), (15, .arraylength, 16, [24], none), (16, .if_icmp .lt 4, 19, [20], none)] (0, .aload_n 0, 1, [], none) (by decide +kernel) _ _ _).trans rfl
theorem B_X4_keep_19 (d : Nat) (S : mS) (I : mI) (L : mJ)  :
  evk zcod none d zc_X4_keep 19 [] [] (S, I, L) =
  some (none, (S, I, L)) :=
  (blk_ok zcod none d zc_X4_keep [] (19, .return_, 20, [], some []) (by decide +kernel) _ _ _).trans rfl
theorem B_X4_keep_20 (d : Nat) (S : mS) (I : mI) (L : mJ) (l0 : Nat) (l1 : Nat) :
  evk zcod none d zc_X4_keep 20 [(0, .ref l0), (1, .ref l1)] [] (S, I, L) =
  if kK S l0 = 4 then
 (if kK S l0 = 4 then
 (if kK S (kR S l0 0) = 24 ∧ zin (I l0 1) (kN S (kR S l0 0)) then
 (if kK S (kR S (kR S l0 0) (zix (I l0 1))) = 8 then
 (bV (evM zcod d 21 [.ref (kR S (kR S l0 0) (zix (I l0 1))), .ref l1] (S, I, L)) fun M1 =>
 if M1.1.1 = S.1 then
 (if kK M1.1 l0 = 4 then
 (if kK M1.1 l0 = 4 then
 (if kK M1.1 (kR M1.1 l0 0) = 24 then
 (if (nI (kN M1.1 (kR M1.1 l0 0))) ≤ ((M1.2.1 l0 1) + (nI 1)) then
 evk zcod none d zc_X4_keep 57 [(0, .ref l0)] [.ref l0] M1
 else
 if kK M1.1 l0 = 4 then
 (evk zcod none d zc_X4_keep 58 [(0, .ref l0)] [.int ((M1.2.1 l0 1) + (nI 1)), .ref l0] M1) else none) else none) else none) else none) else none) else none) else none) else none) else none :=
  (blk_ok zcod none d zc_X4_keep [(21, .getfield 11, 24, [4, 0, 2, 427, 0], none), (24, .aload_n 0, 25, [], none), (25, .getfield 21, 28, [4, 1, 0, 430, 0], none), (28, .aaload, 29, [24], none), (29, .aload_n 1, 30, [], none), (30, .invokevirtual 37, 33, [21, 1, 0, 8, 434, 101, 102, 60], none), (33, .aload_n 0, 34, [], none), (34, .aload_n 0, 35, [], none), (35, .getfield 21, 38, [4, 1, 0, 430, 0], none), (38, .iconst 1, 39, [], none), (39, .iadd, 40, [], none), (40, .aload_n 0, 41, [], none), (41, .getfield 11, 44, [4, 0, 2, 427, 0], none), (44, .arraylength, 45, [24], none), (45, .if_icmp .ge 12, 48, [57], none), (48, .aload_n 0, 49, [], none), (49, .getfield 21, 52, [4, 1, 0, 430, 0], none), (52, .iconst 1, 53, [], none), (53, .iadd, 54, [], none), (54, .goto 4, 57, [58], none)] (20, .aload_n 0, 21, [], some [0, 1]) (by decide +kernel) _ _ _).trans rfl
theorem B_X4_keep_57 (d : Nat) (S : mS) (I : mI) (L : mJ) (l0 : Nat) (s0 : Nat) :
  evk zcod none d zc_X4_keep 57 [(0, .ref l0)] [.ref s0] (S, I, L) =
  evk zcod none d zc_X4_keep 58 [(0, .ref l0)] [.int (nI 0), .ref s0] (S, I, L) :=
  (blk_ok zcod none d zc_X4_keep [] (57, .iconst 0, 58, [], some [0]) (by decide +kernel) _ _ _).trans rfl
theorem B_X4_keep_58 (d : Nat) (S : mS) (I : mI) (L : mJ) (l0 : Nat) (s0 : Nat) (s1 : Int32) :
  evk zcod none d zc_X4_keep 58 [(0, .ref l0)] [.int s1, .ref s0] (S, I, L) =
  if kK S s0 = 4 then
 (if kK S l0 = 4 then
 (bI (evM zcod d 275 [.int (((uI I s0 1 s1) l0 2) + (nI 1)), .int (nI 40)] (S, (uI I s0 1 s1), L)) fun x1 M1 =>
 if M1.1.1 = S.1 then
 (if kK M1.1 l0 = 4 then
 (some (none, (M1.1, (uI M1.2.1 l0 2 x1), M1.2.2))) else none) else none) else none) else none :=
  (blk_ok zcod none d zc_X4_keep [(61, .aload_n 0, 62, [], none), (62, .aload_n 0, 63, [], none), (63, .getfield 25, 66, [4, 2, 0, 431, 0], none), (66, .iconst 1, 67, [], none), (67, .iadd, 68, [], none), (68, .bipush 40, 70, [], none), (70, .invokestatic 41, 73, [275, 2, 1, 0, 435, 16, 17], none), (73, .putfield 25, 76, [4, 2, 0, 431, 0, 0], none), (76, .return_, 77, [], none)] (58, .putfield 21, 61, [4, 1, 0, 430, 0, 0], some [0]) (by decide +kernel) _ _ _).trans rfl
theorem E_X4_undoInto (d : Nat) (M : zM) (l0 : Nat) (l1 : Nat) : evM zcod (d + 1) 108 [.ref l0, .ref l1] M = evk zcod none d zc_X4_undoInto 0 [(0, .ref l0), (1, .ref l1)] [] M := evM_eq zcod d 108 _ M (Nat.le_of_ble_eq_true rfl)
theorem B_X4_undoInto_0 (d : Nat) (S : mS) (I : mI) (L : mJ) (l0 : Nat) (l1 : Nat) :
  evk zcod none d zc_X4_undoInto 0 [(0, .ref l0), (1, .ref l1)] [] (S, I, L) =
  if kK S l0 = 4 then
 (if (I l0 1) ≤ (nI 0) then
 evk zcod none d zc_X4_undoInto 16 [(0, .ref l0), (1, .ref l1)] [] (S, I, L)
 else
 if kK S l0 = 4 then
 (evk zcod none d zc_X4_undoInto 23 [(0, .ref l0), (1, .ref l1)] [.int ((I l0 1) - (nI 1))] (S, I, L)) else none) else none :=
  (blk_ok zcod none d zc_X4_undoInto [(1, .getfield 21, 4, [4, 1, 0, 430, 0], none), (4, .ifCond .le 12, 7, [16], none), (7, .aload_n 0, 8, [], none), (8, .getfield 21, 11, [4, 1, 0, 430, 0], none), (11, .iconst 1, 12, [], none), (12, .isub, 13, [], none), (13, .goto 10, 16, [23], none)] (0, .aload_n 0, 1, [], none) (by decide +kernel) _ _ _).trans rfl
theorem B_X4_undoInto_16 (d : Nat) (S : mS) (I : mI) (L : mJ) (l0 : Nat) (l1 : Nat) :
  evk zcod none d zc_X4_undoInto 16 [(0, .ref l0), (1, .ref l1)] [] (S, I, L) =
  if kK S l0 = 4 then
 (if kK S (kR S l0 0) = 24 then
 (evk zcod none d zc_X4_undoInto 23 [(0, .ref l0), (1, .ref l1)] [.int ((nI (kN S (kR S l0 0))) - (nI 1))] (S, I, L)) else none) else none :=
  (blk_ok zcod none d zc_X4_undoInto [(17, .getfield 11, 20, [4, 0, 2, 427, 0], none), (20, .arraylength, 21, [24], none), (21, .iconst 1, 22, [], none), (22, .isub, 23, [], none)] (16, .aload_n 0, 17, [], some [0, 1]) (by decide +kernel) _ _ _).trans rfl
theorem B_X4_undoInto_23 (d : Nat) (S : mS) (I : mI) (L : mJ) (l0 : Nat) (l1 : Nat) (s0 : Int32) :
  evk zcod none d zc_X4_undoInto 23 [(0, .ref l0), (1, .ref l1)] [.int s0] (S, I, L) =
  if kK S l0 = 4 then
 (if (I l0 2) = (nI 0) then
 evk zcod none d zc_X4_undoInto 40 [] [] (S, I, L)
 else
 if kK S l0 = 4 then
 (if kK S (kR S l0 0) = 24 then
 (if s0 < (nI (kN S (kR S l0 0))) then
 evk zcod none d zc_X4_undoInto 42 [(0, .ref l0), (1, .ref l1), (2, .int s0)] [] (S, I, L)
 else
 evk zcod none d zc_X4_undoInto 40 [] [] (S, I, L)) else none) else none) else none :=
  (blk_ok zcod none d zc_X4_undoInto [(24, .aload_n 0, 25, [], none), (25, .getfield 25, 28, [4, 2, 0, 431, 0], none), (28, .ifCond .eq 12, 31, [40], none), (31, .iload_n 2, 32, [], none), (32, .aload_n 0, 33, [], none), (33, .getfield 11, 36, [4, 0, 2, 427, 0], none), (36, .arraylength, 37, [24], none), (37, .if_icmp .lt 5, 40, [42], none)] (23, .istore_n 2, 24, [], some [0, 1]) (by decide +kernel) _ _ _).trans rfl
theorem B_X4_undoInto_40 (d : Nat) (S : mS) (I : mI) (L : mJ)  :
  evk zcod none d zc_X4_undoInto 40 [] [] (S, I, L) =
  some (some (.int (nI 0)), (S, I, L)) :=
  (blk_ok zcod none d zc_X4_undoInto [(41, .ireturn, 42, [1], none)] (40, .iconst 0, 41, [], some []) (by decide +kernel) _ _ _).trans rfl
theorem B_X4_undoInto_42 (d : Nat) (S : mS) (I : mI) (L : mJ) (l0 : Nat) (l1 : Nat) (l2 : Int32) :
  evk zcod none d zc_X4_undoInto 42 [(0, .ref l0), (1, .ref l1), (2, .int l2)] [] (S, I, L) =
  if kK S l0 = 4 then
 (if kK S l0 = 4 then
 (if kK S l0 = 4 then
 (if kK S l0 = 4 then
 (if kK S (kR S l0 0) = 24 ∧ zin l2 (kN S (kR S l0 0)) then
 (if kK S l1 = 8 then
 (bV (evM zcod d 21 [.ref l1, .ref (kR S (kR S l0 0) (zix l2))] (S, (uI (uI I l0 1 l2) l0 2 (((uI I l0 1 l2) l0 2) - (nI 1))), L)) fun M1 =>
 if M1.1.1 = S.1 then
 (some (some (.int (nI 1)), M1)) else none) else none) else none) else none) else none) else none) else none :=
  (blk_ok zcod none d zc_X4_undoInto [(43, .iload_n 2, 44, [], none), (44, .putfield 21, 47, [4, 1, 0, 430, 0, 0], none), (47, .aload_n 0, 48, [], none), (48, .dup, 49, [], none), (49, .getfield 25, 52, [4, 2, 0, 431, 0], none), (52, .iconst 1, 53, [], none), (53, .isub, 54, [], none), (54, .putfield 25, 57, [4, 2, 0, 431, 0, 0], none), (57, .aload_n 1, 58, [], none), (58, .aload_n 0, 59, [], none), (59, .getfield 11, 62, [4, 0, 2, 427, 0], none), (62, .iload_n 2, 63, [], none), (63, .aaload, 64, [24], none), (64, .invokevirtual 37, 67, [21, 1, 0, 8, 434, 101, 102, 60], none), (67, .iconst 1, 68, [], none), (68, .ireturn, 69, [1], none)] (42, .aload_n 0, 43, [], some [0, 1, 2]) (by decide +kernel) _ _ _).trans rfl
theorem E_X4_isSlot (d : Nat) (M : zM) (l0 : Nat) (l1 : Int32) : evM zcod (d + 1) 109 [.ref l0, .int l1] M = evk zcod none d zc_X4_isSlot 0 [(0, .ref l0), (1, .int l1)] [] M := evM_eq zcod d 109 _ M (Nat.le_of_ble_eq_true rfl)
theorem B_X4_isSlot_0 (d : Nat) (S : mS) (I : mI) (L : mJ) (l0 : Nat) (l1 : Int32) :
  evk zcod none d zc_X4_isSlot 0 [(0, .ref l0), (1, .int l1)] [] (S, I, L) =
  if l1 < (nI 0) then
 evk zcod none d zc_X4_isSlot 17 [] [] (S, I, L)
 else
 if kK S l0 = 4 then
 (if kK S (kR S l0 3) = 24 then
 (if (nI (kN S (kR S l0 3))) ≤ l1 then
 evk zcod none d zc_X4_isSlot 17 [] [] (S, I, L)
 else
 evk zcod none d zc_X4_isSlot 18 [] [.int (nI 1)] (S, I, L)) else none) else none :=
  (blk_ok zcod none d zc_X4_isSlot [(1, .ifCond .lt 16, 4, [17], none), (4, .iload_n 1, 5, [], none), (5, .aload_n 0, 6, [], none), (6, .getfield 18, 9, [4, 3, 2, 429, 0], none), (9, .arraylength, 10, [24], none), (10, .if_icmp .ge 7, 13, [17], none), (13, .iconst 1, 14, [], none), (14, .goto 4, 17, [18], none)] (0, .iload_n 1, 1, [], none) (by decide +kernel) _ _ _).trans rfl
theorem B_X4_isSlot_17 (d : Nat) (S : mS) (I : mI) (L : mJ)  :
  evk zcod none d zc_X4_isSlot 17 [] [] (S, I, L) =
  evk zcod none d zc_X4_isSlot 18 [] [.int (nI 0)] (S, I, L) :=
  (blk_ok zcod none d zc_X4_isSlot [] (17, .iconst 0, 18, [], some []) (by decide +kernel) _ _ _).trans rfl
theorem B_X4_isSlot_18 (d : Nat) (S : mS) (I : mI) (L : mJ) (s0 : Int32) :
  evk zcod none d zc_X4_isSlot 18 [] [.int s0] (S, I, L) =
  if s0 = nI 0 ∨ s0 = nI 1 then some (some (.int s0), (S, I, L)) else none :=
  (blk_ok zcod none d zc_X4_isSlot [] (18, .ireturn, 19, [1], some []) (by decide +kernel) _ _ _).trans rfl
theorem E_X4_holdIn (d : Nat) (M : zM) (l0 : Nat) (l1 : Int32) (l2 : Nat) : evM zcod (d + 1) 110 [.ref l0, .int l1, .ref l2] M = evk zcod none d zc_X4_holdIn 0 [(0, .ref l0), (1, .int l1), (2, .ref l2)] [] M := evM_eq zcod d 110 _ M (Nat.le_of_ble_eq_true rfl)
theorem B_X4_holdIn_0 (d : Nat) (S : mS) (I : mI) (L : mJ) (l0 : Nat) (l1 : Int32) (l2 : Nat) :
  evk zcod none d zc_X4_holdIn 0 [(0, .ref l0), (1, .int l1), (2, .ref l2)] [] (S, I, L) =
  if kK S l0 = 4 then
 (bI (evM zcod d 109 [.ref l0, .int l1] (S, I, L)) fun x1 M1 =>
 if M1.1.1 = S.1 then
 (if ¬ x1 = (nI 0) then
 evk zcod none d zc_X4_holdIn 10 [(0, .ref l0), (1, .int l1), (2, .ref l2)] [] M1
 else
 some (some (.int (nI 0)), M1)) else none) else none :=
  (blk_ok zcod none d zc_X4_holdIn [(1, .iload_n 1, 2, [], none), (2, .invokevirtual 47, 5, [109, 1, 1, 4, 436, 437, 438, 439], none), (5, .ifCond .ne 5, 8, [10], none), (8, .iconst 0, 9, [], none), (9, .ireturn, 10, [1], none)] (0, .aload_n 0, 1, [], none) (by decide +kernel) _ _ _).trans rfl
theorem B_X4_holdIn_10 (d : Nat) (S : mS) (I : mI) (L : mJ) (l0 : Nat) (l1 : Int32) (l2 : Nat) :
  evk zcod none d zc_X4_holdIn 10 [(0, .ref l0), (1, .int l1), (2, .ref l2)] [] (S, I, L) =
  if kK S l0 = 4 then
 (if kK S (kR S l0 3) = 24 ∧ zin l1 (kN S (kR S l0 3)) then
 (if kK S (kR S (kR S l0 3) (zix l1)) = 8 then
 (bV (evM zcod d 21 [.ref (kR S (kR S l0 3) (zix l1)), .ref l2] (S, I, L)) fun M1 =>
 if M1.1.1 = S.1 then
 (if kK M1.1 l0 = 4 then
 (if kK M1.1 l0 = 4 then
 (some (some (.int (nI 1)), (M1.1, (uI M1.2.1 l0 4 ((M1.2.1 l0 4) ||| ((nI 1) <<< (l1 &&& nI 31)))), M1.2.2))) else none) else none) else none) else none) else none) else none :=
  (blk_ok zcod none d zc_X4_holdIn [(11, .getfield 18, 14, [4, 3, 2, 429, 0], none), (14, .iload_n 1, 15, [], none), (15, .aaload, 16, [24], none), (16, .aload_n 2, 17, [], none), (17, .invokevirtual 37, 20, [21, 1, 0, 8, 434, 101, 102, 60], none), (20, .aload_n 0, 21, [], none), (21, .dup, 22, [], none), (22, .getfield 28, 25, [4, 4, 0, 432, 0], none), (25, .iconst 1, 26, [], none), (26, .iload_n 1, 27, [], none), (27, .ishl, 28, [], none), (28, .ior, 29, [], none), (29, .putfield 28, 32, [4, 4, 0, 432, 0, 0], none), (32, .iconst 1, 33, [], none), (33, .ireturn, 34, [1], none)] (10, .aload_n 0, 11, [], some [0, 1, 2]) (by decide +kernel) _ _ _).trans rfl
theorem E_X4_restoreFrom (d : Nat) (M : zM) (l0 : Nat) (l1 : Int32) (l2 : Nat) : evM zcod (d + 1) 111 [.ref l0, .int l1, .ref l2] M = evk zcod none d zc_X4_restoreFrom 0 [(0, .ref l0), (1, .int l1), (2, .ref l2)] [] M := evM_eq zcod d 111 _ M (Nat.le_of_ble_eq_true rfl)
theorem B_X4_restoreFrom_0 (d : Nat) (S : mS) (I : mI) (L : mJ) (l0 : Nat) (l1 : Int32) (l2 : Nat) :
  evk zcod none d zc_X4_restoreFrom 0 [(0, .ref l0), (1, .int l1), (2, .ref l2)] [] (S, I, L) =
  if kK S l0 = 4 then
 (bI (evM zcod d 109 [.ref l0, .int l1] (S, I, L)) fun x1 M1 =>
 if M1.1.1 = S.1 then
 (if x1 = (nI 0) then
 evk zcod none d zc_X4_restoreFrom 19 [] [] M1
 else
 if kK M1.1 l0 = 4 then
 (if ¬ (((M1.2.1 l0 4) >>> (l1 &&& nI 31)) &&& (nI 1)) = (nI 0) then
 evk zcod none d zc_X4_restoreFrom 21 [(0, .ref l0), (1, .int l1), (2, .ref l2)] [] M1
 else
 evk zcod none d zc_X4_restoreFrom 19 [] [] M1) else none) else none) else none :=
  (blk_ok zcod none d zc_X4_restoreFrom [(1, .iload_n 1, 2, [], none), (2, .invokevirtual 47, 5, [109, 1, 1, 4, 436, 437, 438, 439], none), (5, .ifCond .eq 14, 8, [19], none), (8, .aload_n 0, 9, [], none), (9, .getfield 28, 12, [4, 4, 0, 432, 0], none), (12, .iload_n 1, 13, [], none), (13, .ishr, 14, [], none), (14, .iconst 1, 15, [], none), (15, .iand, 16, [], none), (16, .ifCond .ne 5, 19, [21], none)] (0, .aload_n 0, 1, [], none) (by decide +kernel) _ _ _).trans rfl
theorem B_X4_restoreFrom_19 (d : Nat) (S : mS) (I : mI) (L : mJ)  :
  evk zcod none d zc_X4_restoreFrom 19 [] [] (S, I, L) =
  some (some (.int (nI 0)), (S, I, L)) :=
  (blk_ok zcod none d zc_X4_restoreFrom [(20, .ireturn, 21, [1], none)] (19, .iconst 0, 20, [], some []) (by decide +kernel) _ _ _).trans rfl
theorem B_X4_restoreFrom_21 (d : Nat) (S : mS) (I : mI) (L : mJ) (l0 : Nat) (l1 : Int32) (l2 : Nat) :
  evk zcod none d zc_X4_restoreFrom 21 [(0, .ref l0), (1, .int l1), (2, .ref l2)] [] (S, I, L) =
  if kK S l0 = 4 then
 (if kK S (kR S l0 3) = 24 ∧ zin l1 (kN S (kR S l0 3)) then
 (if kK S l2 = 8 then
 (bV (evM zcod d 21 [.ref l2, .ref (kR S (kR S l0 3) (zix l1))] (S, I, L)) fun M1 =>
 if M1.1.1 = S.1 then
 (if kK M1.1 l0 = 4 then
 (some (some (.int (nI 1)), (M1.1, (uI M1.2.1 l0 2 (nI 0)), M1.2.2))) else none) else none) else none) else none) else none :=
  (blk_ok zcod none d zc_X4_restoreFrom [(22, .aload_n 0, 23, [], none), (23, .getfield 18, 26, [4, 3, 2, 429, 0], none), (26, .iload_n 1, 27, [], none), (27, .aaload, 28, [24], none), (28, .invokevirtual 37, 31, [21, 1, 0, 8, 434, 101, 102, 60], none), (31, .aload_n 0, 32, [], none), (32, .iconst 0, 33, [], none), (33, .putfield 25, 36, [4, 2, 0, 431, 0, 0], none), (36, .iconst 1, 37, [], none), (37, .ireturn, 38, [1], none)] (21, .aload_n 2, 22, [], some [0, 1, 2]) (by decide +kernel) _ _ _).trans rfl

