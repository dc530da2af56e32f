/-! block equations over (S, I, L): 59g.blkg -/
theorem E_X12_copies (d : Nat) (M : zM) (l0 : Nat) : evM zcod (d + 1) 200 [.ref l0] M = evk zcod none d zc_X12_copies 0 [(0, .ref l0)] [] M := evM_eq zcod d 200 _ M (Nat.le_of_ble_eq_true rfl)
set_option maxRecDepth 20000 in
set_option maxHeartbeats 4000000 in
theorem B_X12_copies_0 (d : Nat) (S : mS) (I : mI) (L : mJ) (l0 : Nat) :
  evk zcod none d zc_X12_copies 0 [(0, .ref l0)] [] (S, I, L) =
  evk zcod none d zc_X12_copies 2 [(0, .ref l0), (1, .int (nI 0))] [] (S, I, L) :=
  (blk_ok zcod none d zc_X12_copies [(1, .istore_n 1, 2, [], none)] (0, .iconst 0, 1, [], none) (by decide +kernel) _ _ _).trans rfl
set_option maxRecDepth 20000 in
set_option maxHeartbeats 4000000 in
theorem B_X12_copies_2 (d : Nat) (S : mS) (I : mI) (L : mJ) (l0 : Nat) (l1 : Int32) :
  evk zcod none d zc_X12_copies 2 [(0, .ref l0), (1, .int l1)] [] (S, I, L) =
  if (nI 58) ≤ l1 then
 evk zcod none d zc_X12_copies 26 [(0, .ref l0)] [] (S, I, L)
 else
 if kK S l0 = 12 then
 (if kK S l0 = 12 then
 (if kK S (kR S l0 52) = 20 ∧ zin l1 (kN S (kR S l0 52)) then
 (if kK S (kR S l0 53) = 20 ∧ zin l1 (kN S (kR S l0 53)) then
 (evk zcod none d zc_X12_copies 2 [(0, .ref l0), (1, .int (l1 + (nI 1)))] [] (S, (uI I (kR S l0 53) (zix l1) (I (kR S l0 52) (zix l1))), L)) else none) else none) else none) else none :=
  (blk_ok zcod none d zc_X12_copies [(3, .bipush 58, 5, [], none), (5, .if_icmp .ge 21, 8, [26], none), (8, .aload_n 0, 9, [], none), (9, .getfield 125, 12, [12, 53, 2, 642, 0], none), (12, .iload_n 1, 13, [], none), (13, .aload_n 0, 14, [], none), (14, .getfield 122, 17, [12, 52, 2, 641, 0], none), (17, .iload_n 1, 18, [], none), (18, .iaload, 19, [20], none), (19, .iastore, 20, [20], none), (20, .iinc 1 1, 23, [], none), (23, .goto (-21), 26, [2], none)] (2, .iload_n 1, 3, [], some [0, 1]) (by decide +kernel) _ _ _).trans rfl
set_option maxRecDepth 20000 in
set_option maxHeartbeats 4000000 in
theorem B_X12_copies_26 (d : Nat) (S : mS) (I : mI) (L : mJ) (l0 : Nat) :
  evk zcod none d zc_X12_copies 26 [(0, .ref l0)] [] (S, I, L) =
  if kK S l0 = 12 then
 (if kK S l0 = 12 then
 (if kK S (kR S l0 35) = 20 ∧ zin (I l0 18) (kN S (kR S l0 35)) then
 (if kK S l0 = 12 then
 (some (none, (S, (uI I l0 54 (I (kR S l0 35) (zix (I l0 18)))), L))) else none) else none) else none) else none :=
  (blk_ok zcod none d zc_X12_copies [(27, .aload_n 0, 28, [], none), (28, .getfield 82, 31, [12, 35, 2, 627, 0], none), (31, .aload_n 0, 32, [], none), (32, .getfield 257, 35, [12, 18, 0, 711, 0], none), (35, .iaload, 36, [20], none), (36, .putfield 344, 39, [12, 54, 0, 773, 0, 0], none), (39, .return_, 40, [], none)] (26, .aload_n 0, 27, [], some [0]) (by decide +kernel) _ _ _).trans rfl
theorem E_X12_mixed (d : Nat) (M : zM) (l0 : Int32) (l1 : Int32) : evM zcod (d + 1) 201 [.int l0, .int l1] M = evk zcod none d zc_X12_mixed 0 [(0, .int l0), (1, .int l1)] [] M := evM_eq zcod d 201 _ M (Nat.le_of_ble_eq_true rfl)
set_option maxRecDepth 20000 in
set_option maxHeartbeats 4000000 in
theorem B_X12_mixed_0 (d : Nat) (S : mS) (I : mI) (L : mJ) (l0 : Int32) (l1 : Int32) :
  evk zcod none d zc_X12_mixed 0 [(0, .int l0), (1, .int l1)] [] (S, I, L) =
  some (some (.int ((((l0 ^^^ l1) * (nI 1103515245)) + (nI 12345)) ^^^ ((((l0 ^^^ l1) * (nI 1103515245)) + (nI 12345)).toUInt32 >>> ((nI 15).toUInt32 &&& 31)).toInt32)), (S, I, L)) :=
  (blk_ok zcod none d zc_X12_mixed [(1, .iload_n 1, 2, [], none), (2, .ixor, 3, [], none), (3, .ldc_w 347, 6, [0, 1103515245, 774], none), (6, .imul, 7, [], none), (7, .sipush 12345, 10, [], none), (10, .iadd, 11, [], none), (11, .istore_n 2, 12, [], none), (12, .iload_n 2, 13, [], none), (13, .iload_n 2, 14, [], none), (14, .bipush 15, 16, [], none), (16, .iushr, 17, [], none), (17, .ixor, 18, [], none), (18, .ireturn, 19, [0], none)] (0, .iload_n 0, 1, [], none) (by decide +kernel) _ _ _).trans rfl
theorem E_X12_isGust (d : Nat) (M : zM) (l0 : Nat) : evM zcod (d + 1) 202 [.ref l0] M = evk zcod none d zc_X12_isGust 0 [(0, .ref l0)] [] M := evM_eq zcod d 202 _ M (Nat.le_of_ble_eq_true rfl)
set_option maxRecDepth 20000 in
set_option maxHeartbeats 4000000 in
theorem B_X12_isGust_0 (d : Nat) (S : mS) (I : mI) (L : mJ) (l0 : Nat) :
  evk zcod none d zc_X12_isGust 0 [(0, .ref l0)] [] (S, I, L) =
  if kK S l0 = 12 then
 (bI (evM zcod d 201 [.int (I l0 54), .int (nI 113)] (S, I, L)) fun x1 M1 =>
 if M1.1.1 = S.1 then
 (if kK M1.1 l0 = 12 then
 (if kK M1.1 (kR M1.1 l0 53) = 20 ∧ zin (nI 55) (kN M1.1 (kR M1.1 l0 53)) then
 (bI (evM zcod d 201 [.int x1, .int ((nI 4) * (M1.2.1 (kR M1.1 l0 53) (zix (nI 55))))] M1) fun x2 M2 =>
 if M2.1.1 = M1.1.1 then
 (if (nI 100) = nI 0 then none else
 if kK M2.1 l0 = 12 then
 (if kK M2.1 l0 = 12 then
 (if kK M2.1 (kR M2.1 l0 34) = 20 ∧ zin (M2.2.1 l0 18) (kN M2.1 (kR M2.1 l0 34)) then
 (if (M2.2.1 (kR M2.1 l0 34) (zix (M2.2.1 l0 18))) ≤ (zrem ((x2.toUInt32 >>> ((nI 1).toUInt32 &&& 31)).toInt32) (nI 100)) then
 evk zcod none d zc_X12_isGust 42 [] [] M2
 else
 evk zcod none d zc_X12_isGust 43 [] [.int (nI 1)] M2) else none) else none) else none) else none) else none) else none) else none) else none :=
  (blk_ok zcod none d zc_X12_isGust [(1, .getfield 344, 4, [12, 54, 0, 773, 0], none), (4, .bipush 113, 6, [], none), (6, .invokestatic 348, 9, [201, 2, 1, 0, 775, 776, 662], none), (9, .iconst 4, 10, [], none), (10, .aload_n 0, 11, [], none), (11, .getfield 125, 14, [12, 53, 2, 642, 0], none), (14, .bipush 55, 16, [], none), (16, .iaload, 17, [20], none), (17, .imul, 18, [], none), (18, .invokestatic 348, 21, [201, 2, 1, 0, 775, 776, 662], none), (21, .iconst 1, 22, [], none), (22, .iushr, 23, [], none), (23, .bipush 100, 25, [], none), (25, .irem, 26, [], none), (26, .aload_n 0, 27, [], none), (27, .getfield 79, 30, [12, 34, 2, 626, 0], none), (30, .aload_n 0, 31, [], none), (31, .getfield 257, 34, [12, 18, 0, 711, 0], none), (34, .iaload, 35, [20], none), (35, .if_icmp .ge 7, 38, [42], none), (38, .iconst 1, 39, [], none), (39, .goto 4, 42, [43], none)] (0, .aload_n 0, 1, [], none) (by decide +kernel) _ _ _).trans rfl
set_option maxRecDepth 20000 in
set_option maxHeartbeats 4000000 in
theorem B_X12_isGust_42 (d : Nat) (S : mS) (I : mI) (L : mJ)  :
  evk zcod none d zc_X12_isGust 42 [] [] (S, I, L) =
  evk zcod none d zc_X12_isGust 43 [] [.int (nI 0)] (S, I, L) :=
  (blk_ok zcod none d zc_X12_isGust [] (42, .iconst 0, 43, [], some []) (by decide +kernel) _ _ _).trans rfl
set_option maxRecDepth 20000 in
set_option maxHeartbeats 4000000 in
theorem B_X12_isGust_43 (d : Nat) (S : mS) (I : mI) (L : mJ) (s0 : Int32) :
  evk zcod none d zc_X12_isGust 43 [] [.int s0] (S, I, L) =
  if s0 = nI 0 ∨ s0 = nI 1 then some (some (.int s0), (S, I, L)) else none :=
  (blk_ok zcod none d zc_X12_isGust [] (43, .ireturn, 44, [1], some []) (by decide +kernel) _ _ _).trans rfl
theorem E_X12_loadsSo (d : Nat) (M : zM) (l0 : Nat) (l1 : Int32) : evM zcod (d + 1) 203 [.ref l0, .int l1] M = evk zcod none d zc_X12_loadsSo 0 [(0, .ref l0), (1, .int l1)] [] M := evM_eq zcod d 203 _ M (Nat.le_of_ble_eq_true rfl)
set_option maxRecDepth 20000 in
set_option maxHeartbeats 4000000 in
theorem B_X12_loadsSo_0 (d : Nat) (S : mS) (I : mI) (L : mJ) (l0 : Nat) (l1 : Int32) :
  evk zcod none d zc_X12_loadsSo 0 [(0, .ref l0), (1, .int l1)] [] (S, I, L) =
  evk zcod none d zc_X12_loadsSo 4 [(0, .ref l0), (1, .int l1), (2, .int (nI 0)), (3, .int (nI 0))] [] (S, I, L) :=
  (blk_ok zcod none d zc_X12_loadsSo [(1, .istore_n 2, 2, [], none), (2, .iconst 0, 3, [], none), (3, .istore_n 3, 4, [], none)] (0, .iconst 0, 1, [], none) (by decide +kernel) _ _ _).trans rfl
set_option maxRecDepth 20000 in
set_option maxHeartbeats 4000000 in
theorem B_X12_loadsSo_4 (d : Nat) (S : mS) (I : mI) (L : mJ) (l0 : Nat) (l1 : Int32) (l2 : Int32) (l3 : Int32) :
  evk zcod none d zc_X12_loadsSo 4 [(0, .ref l0), (1, .int l1), (2, .int l2), (3, .int l3)] [] (S, I, L) =
  if kK S l0 = 12 then
 (if kK S l0 = 12 then
 (if kK S (kR S l0 22) = 20 ∧ zin (I l0 18) (kN S (kR S l0 22)) then
 (if (I (kR S l0 22) (zix (I l0 18))) ≤ l3 then
 evk zcod none d zc_X12_loadsSo 42 [(2, .int l2)] [] (S, I, L)
 else
 if kK S l0 = 12 then
 (if kK S (kR S l0 53) = 20 ∧ zin ((nI 7) + l3) (kN S (kR S l0 53)) then
 (if ¬ (I (kR S l0 53) (zix ((nI 7) + l3))) = l1 then
 evk zcod none d zc_X12_loadsSo 36 [(0, .ref l0), (1, .int l1), (2, .int l2), (3, .int l3)] [] (S, I, L)
 else
 evk zcod none d zc_X12_loadsSo 36 [(0, .ref l0), (1, .int l1), (2, .int (l2 ||| ((nI 1) <<< (l3 &&& nI 31)))), (3, .int l3)] [] (S, I, L)) else none) else none) else none) else none) else none :=
  (blk_ok zcod none d zc_X12_loadsSo [(5, .aload_n 0, 6, [], none), (6, .getfield 43, 9, [12, 22, 2, 614, 0], none), (9, .aload_n 0, 10, [], none), (10, .getfield 257, 13, [12, 18, 0, 711, 0], none), (13, .iaload, 14, [20], none), (14, .if_icmp .ge 28, 17, [42], none), (17, .aload_n 0, 18, [], none), (18, .getfield 125, 21, [12, 53, 2, 642, 0], none), (21, .bipush 7, 23, [], none), (23, .iload_n 3, 24, [], none), (24, .iadd, 25, [], none), (25, .iaload, 26, [20], none), (26, .iload_n 1, 27, [], none), (27, .if_icmp .ne 9, 30, [36], none), (30, .iload_n 2, 31, [], none), (31, .iconst 1, 32, [], none), (32, .iload_n 3, 33, [], none), (33, .ishl, 34, [], none), (34, .ior, 35, [], none), (35, .istore_n 2, 36, [], none)] (4, .iload_n 3, 5, [], some [0, 1, 2, 3]) (by decide +kernel) _ _ _).trans rfl
set_option maxRecDepth 20000 in
set_option maxHeartbeats 4000000 in
theorem B_X12_loadsSo_36 (d : Nat) (S : mS) (I : mI) (L : mJ) (l0 : Nat) (l1 : Int32) (l2 : Int32) (l3 : Int32) :
  evk zcod none d zc_X12_loadsSo 36 [(0, .ref l0), (1, .int l1), (2, .int l2), (3, .int l3)] [] (S, I, L) =
  evk zcod none d zc_X12_loadsSo 4 [(0, .ref l0), (1, .int l1), (2, .int l2), (3, .int (l3 + (nI 1)))] [] (S, I, L) :=
  (blk_ok zcod none d zc_X12_loadsSo [(39, .goto (-35), 42, [4], none)] (36, .iinc 3 1, 39, [], some [0, 1, 2, 3]) (by decide +kernel) _ _ _).trans rfl
set_option maxRecDepth 20000 in
set_option maxHeartbeats 4000000 in
theorem B_X12_loadsSo_42 (d : Nat) (S : mS) (I : mI) (L : mJ) (l2 : Int32) :
  evk zcod none d zc_X12_loadsSo 42 [(2, .int l2)] [] (S, I, L) =
  some (some (.int l2), (S, I, L)) :=
  (blk_ok zcod none d zc_X12_loadsSo [(43, .ireturn, 44, [0], none)] (42, .iload_n 2, 43, [], some [2]) (by decide +kernel) _ _ _).trans rfl
theorem E_X12_upNow (d : Nat) (M : zM) (l0 : Nat) : evM zcod (d + 1) 204 [.ref l0] M = evk zcod none d zc_X12_upNow 0 [(0, .ref l0)] [] M := evM_eq zcod d 204 _ M (Nat.le_of_ble_eq_true rfl)
set_option maxRecDepth 20000 in
set_option maxHeartbeats 4000000 in
theorem B_X12_upNow_0 (d : Nat) (S : mS) (I : mI) (L : mJ) (l0 : Nat) :
  evk zcod none d zc_X12_upNow 0 [(0, .ref l0)] [] (S, I, L) =
  if kK S l0 = 12 then
 (bI (evM zcod d 203 [.ref l0, .int (nI 1)] (S, I, L)) fun x1 M1 =>
 if M1.1.1 = S.1 then
 (bI (evM zcod d 193 [.int x1] M1) fun x2 M2 =>
 if M2.1.1 = M1.1.1 then
 (some (some (.int x2), M2)) else none) else none) else none :=
  (blk_ok zcod none d zc_X12_upNow [(1, .iconst 1, 2, [], none), (2, .invokevirtual 351, 5, [203, 1, 1, 12, 777, 778, 779, 662], none), (5, .invokestatic 354, 8, [193, 1, 1, 0, 780, 781, 662], none), (8, .ireturn, 9, [0], none)] (0, .aload_n 0, 1, [], none) (by decide +kernel) _ _ _).trans rfl
theorem E_X12_looks (d : Nat) (M : zM) (l0 : Nat) (l1 : Int32) (l2 : Int32) : evM zcod (d + 1) 205 [.ref l0, .int l1, .int l2] M = evk zcod none d zc_X12_looks 0 [(0, .ref l0), (1, .int l1), (2, .int l2)] [] M := evM_eq zcod d 205 _ M (Nat.le_of_ble_eq_true rfl)
set_option maxRecDepth 20000 in
set_option maxHeartbeats 4000000 in
theorem B_X12_looks_0 (d : Nat) (S : mS) (I : mI) (L : mJ) (l0 : Nat) (l1 : Int32) (l2 : Int32) :
  evk zcod none d zc_X12_looks 0 [(0, .ref l0), (1, .int l1), (2, .int l2)] [] (S, I, L) =
  evk zcod none d zc_X12_looks 2 [(0, .ref l0), (1, .int l1), (2, .int l2), (3, .int (nI 0))] [] (S, I, L) :=
  (blk_ok zcod none d zc_X12_looks [(1, .istore_n 3, 2, [], none)] (0, .iconst 0, 1, [], none) (by decide +kernel) _ _ _).trans rfl
set_option maxRecDepth 20000 in
set_option maxHeartbeats 4000000 in
theorem B_X12_looks_2 (d : Nat) (S : mS) (I : mI) (L : mJ) (l0 : Nat) (l1 : Int32) (l2 : Int32) (l3 : Int32) :
  evk zcod none d zc_X12_looks 2 [(0, .ref l0), (1, .int l1), (2, .int l2), (3, .int l3)] [] (S, I, L) =
  if (nI 9) ≤ l3 then
 evk zcod none d zc_X12_looks 21 [(0, .ref l0), (1, .int l1), (2, .int l2)] [] (S, I, L)
 else
 if kK S l0 = 12 then
 (if kK S (kR S l0 49) = 20 ∧ zin l3 (kN S (kR S l0 49)) then
 (evk zcod none d zc_X12_looks 2 [(0, .ref l0), (1, .int l1), (2, .int l2), (3, .int (l3 + (nI 1)))] [] (S, (uI I (kR S l0 49) (zix l3) (nI 0)), L)) else none) else none :=
  (blk_ok zcod none d zc_X12_looks [(3, .bipush 9, 5, [], none), (5, .if_icmp .ge 16, 8, [21], none), (8, .aload_n 0, 9, [], none), (9, .getfield 116, 12, [12, 49, 2, 639, 0], none), (12, .iload_n 3, 13, [], none), (13, .iconst 0, 14, [], none), (14, .iastore, 15, [20], none), (15, .iinc 3 1, 18, [], none), (18, .goto (-16), 21, [2], none)] (2, .iload_n 3, 3, [], some [0, 1, 2, 3]) (by decide +kernel) _ _ _).trans rfl
set_option maxRecDepth 20000 in
set_option maxHeartbeats 4000000 in
theorem B_X12_looks_21 (d : Nat) (S : mS) (I : mI) (L : mJ) (l0 : Nat) (l1 : Int32) (l2 : Int32) :
  evk zcod none d zc_X12_looks 21 [(0, .ref l0), (1, .int l1), (2, .int l2)] [] (S, I, L) =
  if kK S l0 = 12 then
 (if (nI 24) = nI 0 then none else
 if kK S (kR S l0 49) = 20 ∧ zin (nI 0) (kN S (kR S l0 49)) then
 (if kK S l0 = 12 then
 (if (nI 24) = nI 0 then none else
 if kK S (kR S l0 49) = 20 ∧ zin (nI 1) (kN S (kR S l0 49)) then
 (if kK S l0 = 12 then
 (if kK S (kR S l0 49) = 20 ∧ zin (nI 7) (kN S (kR S l0 49)) then
 (if kK S l0 = 12 then
 (if kK S l0 = 12 then
 (bI (evM zcod d 203 [.ref l0, .int (nI 2)] (S, (uI (uI (uI I (kR S l0 49) (zix (nI 0)) (zrem l1 (nI 24))) (kR S l0 49) (zix (nI 1)) (l1 / (nI 24))) (kR S l0 49) (zix (nI 7)) l2), L)) fun x1 M1 =>
 if M1.1.1 = S.1 then
 (bI (evM zcod d 193 [.int x1] M1) fun x2 M2 =>
 if M2.1.1 = M1.1.1 then
 (if kK M2.1 (kR S l0 49) = 20 ∧ zin (nI 8) (kN M2.1 (kR S l0 49)) then
 (evk zcod none d zc_X12_looks 64 [] [] (M2.1, (uI M2.2.1 (kR S l0 49) (zix (nI 8)) x2), M2.2.2)) else none) else none) else none) else none) else none) else none) else none) else none) else none) else none) else none :=
  (blk_ok zcod none d zc_X12_looks [(22, .getfield 116, 25, [12, 49, 2, 639, 0], none), (25, .iconst 0, 26, [], none), (26, .iload_n 1, 27, [], none), (27, .bipush 24, 29, [], none), (29, .irem, 30, [], none), (30, .iastore, 31, [20], none), (31, .aload_n 0, 32, [], none), (32, .getfield 116, 35, [12, 49, 2, 639, 0], none), (35, .iconst 1, 36, [], none), (36, .iload_n 1, 37, [], none), (37, .bipush 24, 39, [], none), (39, .idiv, 40, [], none), (40, .iastore, 41, [20], none), (41, .aload_n 0, 42, [], none), (42, .getfield 116, 45, [12, 49, 2, 639, 0], none), (45, .bipush 7, 47, [], none), (47, .iload_n 2, 48, [], none), (48, .iastore, 49, [20], none), (49, .aload_n 0, 50, [], none), (50, .getfield 116, 53, [12, 49, 2, 639, 0], none), (53, .bipush 8, 55, [], none), (55, .aload_n 0, 56, [], none), (56, .iconst 2, 57, [], none), (57, .invokevirtual 351, 60, [203, 1, 1, 12, 777, 778, 779, 662], none), (60, .invokestatic 354, 63, [193, 1, 1, 0, 780, 781, 662], none), (63, .iastore, 64, [20], none)] (21, .aload_n 0, 22, [], some [0, 1, 2]) (by decide +kernel) _ _ _).trans rfl
set_option maxRecDepth 20000 in
set_option maxHeartbeats 4000000 in
theorem B_X12_looks_64 (d : Nat) (S : mS) (I : mI) (L : mJ)  :
  evk zcod none d zc_X12_looks 64 [] [] (S, I, L) =
  some (none, (S, I, L)) :=
  (blk_ok zcod none d zc_X12_looks [] (64, .return_, 65, [], some []) (by decide +kernel) _ _ _).trans rfl
theorem E_X12_lawTells (d : Nat) (M : zM) (l0 : Nat) (l1 : Int32) (l2 : Int32) : evM zcod (d + 1) 206 [.ref l0, .int l1, .int l2] M = evk zcod none d zc_X12_lawTells 0 [(0, .ref l0), (1, .int l1), (2, .int l2)] [] M := evM_eq zcod d 206 _ M (Nat.le_of_ble_eq_true rfl)
set_option maxRecDepth 20000 in
set_option maxHeartbeats 4000000 in
theorem B_X12_lawTells_0 (d : Nat) (S : mS) (I : mI) (L : mJ) (l0 : Nat) (l1 : Int32) (l2 : Int32) :
  evk zcod none d zc_X12_lawTells 0 [(0, .ref l0), (1, .int l1), (2, .int l2)] [] (S, I, L) =
  if kK S l0 = 12 then
 (if kK S l0 = 12 then
 (if kK S (kR S l0 36) = 20 ∧ zin (((nI 4) * (I l0 18)) + l1) (kN S (kR S l0 36)) then
 (if kK S l0 = 12 then
 (if kK S (kR S l0 37) = 20 ∧ zin (((nI 4) * (I l0 18)) + l1) (kN S (kR S l0 37)) then
 (if ¬ (I (kR S l0 36) (zix (((nI 4) * (I l0 18)) + l1))) = (I (kR S l0 37) (zix (((nI 4) * (I l0 18)) + l1))) then
 evk zcod none d zc_X12_lawTells 26 [(0, .ref l0), (3, .int (((nI 4) * (I l0 18)) + l1))] [] (S, I, L)
 else
 some (some (.int l2), (S, I, L))) else none) else none) else none) else none) else none :=
  (blk_ok zcod none d zc_X12_lawTells [(1, .aload_n 0, 2, [], none), (2, .getfield 257, 5, [12, 18, 0, 711, 0], none), (5, .imul, 6, [], none), (6, .iload_n 1, 7, [], none), (7, .iadd, 8, [], none), (8, .istore_n 3, 9, [], none), (9, .aload_n 0, 10, [], none), (10, .getfield 85, 13, [12, 36, 2, 628, 0], none), (13, .iload_n 3, 14, [], none), (14, .iaload, 15, [20], none), (15, .aload_n 0, 16, [], none), (16, .getfield 88, 19, [12, 37, 2, 629, 0], none), (19, .iload_n 3, 20, [], none), (20, .iaload, 21, [20], none), (21, .if_icmp .ne 5, 24, [26], none), (24, .iload_n 2, 25, [], none), (25, .ireturn, 26, [0], none)] (0, .iconst 4, 1, [], none) (by decide +kernel) _ _ _).trans rfl
set_option maxRecDepth 20000 in
set_option maxHeartbeats 4000000 in
theorem B_X12_lawTells_26 (d : Nat) (S : mS) (I : mI) (L : mJ) (l0 : Nat) (l3 : Int32) :
  evk zcod none d zc_X12_lawTells 26 [(0, .ref l0), (3, .int l3)] [] (S, I, L) =
  if kK S l0 = 12 ∧ ((nI 0) = nI 0 ∨ (nI 0) = nI 1) then
 (if kK S l0 = 12 then
 (if kK S (kR S l0 36) = 20 ∧ zin l3 (kN S (kR S l0 36)) then
 (evk zcod none d zc_X12_lawTells 39 [(0, .ref l0), (3, .int l3), (4, .int ((uI I l0 51 (nI 0)) (kR S l0 36) (zix l3)))] [] (S, (uI I l0 51 (nI 0)), L)) else none) else none) else none :=
  (blk_ok zcod none d zc_X12_lawTells [(27, .iconst 0, 28, [], none), (28, .putfield 336, 31, [12, 51, 3, 770, 0, 0], none), (31, .aload_n 0, 32, [], none), (32, .getfield 85, 35, [12, 36, 2, 628, 0], none), (35, .iload_n 3, 36, [], none), (36, .iaload, 37, [20], none), (37, .istore 4, 39, [], none)] (26, .aload_n 0, 27, [], some [0, 3]) (by decide +kernel) _ _ _).trans rfl
set_option maxRecDepth 20000 in
set_option maxHeartbeats 4000000 in
theorem B_X12_lawTells_39 (d : Nat) (S : mS) (I : mI) (L : mJ) (l0 : Nat) (l3 : Int32) (l4 : Int32) :
  evk zcod none d zc_X12_lawTells 39 [(0, .ref l0), (3, .int l3), (4, .int l4)] [] (S, I, L) =
  if kK S l0 = 12 then
 (if kK S (kR S l0 37) = 20 ∧ zin l3 (kN S (kR S l0 37)) then
 (if (I (kR S l0 37) (zix l3)) ≤ l4 then
 evk zcod none d zc_X12_lawTells 159 [] [] (S, I, L)
 else
 if kK S l0 = 12 then
 (if kK S (kR S l0 39) = 22 ∧ zin l4 (kN S (kR S l0 39)) then
 (if (I (kR S l0 39) (zix l4)) = (nI 0) then
 evk zcod none d zc_X12_lawTells 119 [(0, .ref l0), (4, .int l4)] [] (S, I, L)
 else
 if kK S l0 = 12 then
 (if kK S (kR S l0 40) = 20 ∧ zin l4 (kN S (kR S l0 40)) then
 (if kK S l0 = 12 then
 (if kK S (kR S l0 41) = 20 ∧ zin l4 (kN S (kR S l0 41)) then
 (if kK S l0 = 12 then
 (bI (evM zcod d 190 [.ref l0, .int (I (kR S l0 40) (zix l4)), .int (I (kR S l0 41) (zix l4))] (S, I, L)) fun x1 M1 =>
 if M1.1.1 = S.1 then
 (if kK M1.1 l0 = 12 then
 (if kK M1.1 (kR M1.1 l0 41) = 20 ∧ zin l4 (kN M1.1 (kR M1.1 l0 41)) then
 (if kK M1.1 l0 = 12 then
 (if kK M1.1 (kR M1.1 l0 42) = 20 ∧ zin l4 (kN M1.1 (kR M1.1 l0 42)) then
 (if kK M1.1 l0 = 12 then
 (bI (evM zcod d 190 [.ref l0, .int (M1.2.1 (kR M1.1 l0 41) (zix l4)), .int (M1.2.1 (kR M1.1 l0 42) (zix l4))] M1) fun x2 M2 =>
 if M2.1.1 = M1.1.1 then
 (if kK M2.1 l0 = 12 then
 (if (M2.2.1 l0 51) = (nI 0) then
 evk zcod none d zc_X12_lawTells 109 [(0, .ref l0), (3, .int l3), (4, .int l4), (5, .int x1), (6, .int x2)] [] M2
 else
 some (some (.int (nI 0)), M2)) else none) else none) else none) else none) else none) else none) else none) else none) else none) else none) else none) else none) else none) else none) else none) else none) else none :=
  (blk_ok zcod none d zc_X12_lawTells [(41, .aload_n 0, 42, [], none), (42, .getfield 88, 45, [12, 37, 2, 629, 0], none), (45, .iload_n 3, 46, [], none), (46, .iaload, 47, [20], none), (47, .if_icmp .ge 112, 50, [159], none), (50, .aload_n 0, 51, [], none), (51, .getfield 91, 54, [12, 39, 2, 631, 0], none), (54, .iload 4, 56, [], none), (56, .baload, 57, [22], none), (57, .ifCond .eq 62, 60, [119], none), (60, .aload_n 0, 61, [], none), (61, .aload_n 0, 62, [], none), (62, .getfield 95, 65, [12, 40, 2, 632, 0], none), (65, .iload 4, 67, [], none), (67, .iaload, 68, [20], none), (68, .aload_n 0, 69, [], none), (69, .getfield 98, 72, [12, 41, 2, 633, 0], none), (72, .iload 4, 74, [], none), (74, .iaload, 75, [20], none), (75, .invokevirtual 357, 78, [190, 2, 1, 12, 782, 783, 784, 662], none), (78, .istore 5, 80, [], none), (80, .aload_n 0, 81, [], none), (81, .aload_n 0, 82, [], none), (82, .getfield 98, 85, [12, 41, 2, 633, 0], none), (85, .iload 4, 87, [], none), (87, .iaload, 88, [20], none), (88, .aload_n 0, 89, [], none), (89, .getfield 101, 92, [12, 42, 2, 634, 0], none), (92, .iload 4, 94, [], none), (94, .iaload, 95, [20], none), (95, .invokevirtual 357, 98, [190, 2, 1, 12, 782, 783, 784, 662], none), (98, .istore 6, 100, [], none), (100, .aload_n 0, 101, [], none), (101, .getfield 336, 104, [12, 51, 0, 770, 0], none), (104, .ifCond .eq 5, 107, [109], none), (107, .iconst 0, 108, [], none), (108, .ireturn, 109, [0], none)] (39, .iload 4, 41, [], some [0, 3, 4]) (by decide +kernel) _ _ _).trans rfl
set_option maxRecDepth 20000 in
set_option maxHeartbeats 4000000 in
theorem B_X12_lawTells_109 (d : Nat) (S : mS) (I : mI) (L : mJ) (l0 : Nat) (l3 : Int32) (l4 : Int32) (l5 : Int32) (l6 : Int32) :
  evk zcod none d zc_X12_lawTells 109 [(0, .ref l0), (3, .int l3), (4, .int l4), (5, .int l5), (6, .int l6)] [] (S, I, L) =
  if l5 < l6 then
 evk zcod none d zc_X12_lawTells 119 [(0, .ref l0), (4, .int l4)] [] (S, I, L)
 else
 evk zcod none d zc_X12_lawTells 153 [(0, .ref l0), (3, .int l3), (4, .int l4)] [] (S, I, L) :=
  (blk_ok zcod none d zc_X12_lawTells [(111, .iload 6, 113, [], none), (113, .if_icmp .lt 6, 116, [119], none), (116, .goto 37, 119, [153], none)] (109, .iload 5, 111, [], some [0, 3, 4, 5, 6]) (by decide +kernel) _ _ _).trans rfl
set_option maxRecDepth 20000 in
set_option maxHeartbeats 4000000 in
theorem B_X12_lawTells_119 (d : Nat) (S : mS) (I : mI) (L : mJ) (l0 : Nat) (l4 : Int32) :
  evk zcod none d zc_X12_lawTells 119 [(0, .ref l0), (4, .int l4)] [] (S, I, L) =
  if kK S l0 = 12 then
 (if kK S (kR S l0 42) = 20 ∧ zin l4 (kN S (kR S l0 42)) then
 (if kK S l0 = 12 then
 (if kK S (kR S l0 43) = 20 ∧ zin l4 (kN S (kR S l0 43)) then
 (if kK S l0 = 12 then
 (bI (evM zcod d 190 [.ref l0, .int (I (kR S l0 42) (zix l4)), .int (I (kR S l0 43) (zix l4))] (S, I, L)) fun x1 M1 =>
 if M1.1.1 = S.1 then
 (if kK M1.1 l0 = 12 then
 (if (M1.2.1 l0 51) = (nI 0) then
 evk zcod none d zc_X12_lawTells 150 [(5, .int x1)] [] M1
 else
 evk zcod none d zc_X12_lawTells 152 [] [.int (nI 0)] M1) else none) else none) else none) else none) else none) else none) else none :=
  (blk_ok zcod none d zc_X12_lawTells [(120, .aload_n 0, 121, [], none), (121, .getfield 101, 124, [12, 42, 2, 634, 0], none), (124, .iload 4, 126, [], none), (126, .iaload, 127, [20], none), (127, .aload_n 0, 128, [], none), (128, .getfield 104, 131, [12, 43, 2, 635, 0], none), (131, .iload 4, 133, [], none), (133, .iaload, 134, [20], none), (134, .invokevirtual 357, 137, [190, 2, 1, 12, 782, 783, 784, 662], none), (137, .istore 5, 139, [], none), (139, .aload_n 0, 140, [], none), (140, .getfield 336, 143, [12, 51, 0, 770, 0], none), (143, .ifCond .eq 7, 146, [150], none), (146, .iconst 0, 147, [], none), (147, .goto 5, 150, [152], none)] (119, .aload_n 0, 120, [], some [0, 4]) (by decide +kernel) _ _ _).trans rfl
set_option maxRecDepth 20000 in
set_option maxHeartbeats 4000000 in
theorem B_X12_lawTells_150 (d : Nat) (S : mS) (I : mI) (L : mJ) (l5 : Int32) :
  evk zcod none d zc_X12_lawTells 150 [(5, .int l5)] [] (S, I, L) =
  evk zcod none d zc_X12_lawTells 152 [] [.int l5] (S, I, L) :=
  (blk_ok zcod none d zc_X12_lawTells [] (150, .iload 5, 152, [], some [5]) (by decide +kernel) _ _ _).trans rfl
set_option maxRecDepth 20000 in
set_option maxHeartbeats 4000000 in
theorem B_X12_lawTells_152 (d : Nat) (S : mS) (I : mI) (L : mJ) (s0 : Int32) :
  evk zcod none d zc_X12_lawTells 152 [] [.int s0] (S, I, L) =
  some (some (.int s0), (S, I, L)) :=
  (blk_ok zcod none d zc_X12_lawTells [] (152, .ireturn, 153, [0], some []) (by decide +kernel) _ _ _).trans rfl
set_option maxRecDepth 20000 in
set_option maxHeartbeats 4000000 in
theorem B_X12_lawTells_153 (d : Nat) (S : mS) (I : mI) (L : mJ) (l0 : Nat) (l3 : Int32) (l4 : Int32) :
  evk zcod none d zc_X12_lawTells 153 [(0, .ref l0), (3, .int l3), (4, .int l4)] [] (S, I, L) =
  evk zcod none d zc_X12_lawTells 39 [(0, .ref l0), (3, .int l3), (4, .int (l4 + (nI 1)))] [] (S, I, L) :=
  (blk_ok zcod none d zc_X12_lawTells [(156, .goto (-117), 159, [39], none)] (153, .iinc 4 1, 156, [], some [0, 3, 4]) (by decide +kernel) _ _ _).trans rfl
set_option maxRecDepth 20000 in
set_option maxHeartbeats 4000000 in
theorem B_X12_lawTells_159 (d : Nat) (S : mS) (I : mI) (L : mJ)  :
  evk zcod none d zc_X12_lawTells 159 [] [] (S, I, L) =
  some (some (.int (nI 0)), (S, I, L)) :=
  (blk_ok zcod none d zc_X12_lawTells [(160, .ireturn, 161, [0], none)] (159, .iconst 0, 160, [], some []) (by decide +kernel) _ _ _).trans rfl
theorem E_X12_liftBy (d : Nat) (M : zM) (l0 : Nat) (l1 : Int32) (l2 : Int32) (l3 : Int32) (l4 : Int32) (l5 : Int32) (l6 : Int32) : evM zcod (d + 1) 207 [.ref l0, .int l1, .int l2, .int l3, .int l4, .int l5, .int l6] M = evk zcod none d zc_X12_liftBy 0 [(0, .ref l0), (1, .int l1), (2, .int l2), (3, .int l3), (4, .int l4), (5, .int l5), (6, .int l6)] [] M := evM_eq zcod d 207 _ M (Nat.le_of_ble_eq_true rfl)
set_option maxRecDepth 20000 in
set_option maxHeartbeats 4000000 in
theorem B_X12_liftBy_0 (d : Nat) (S : mS) (I : mI) (L : mJ) (l0 : Nat) (l1 : Int32) (l2 : Int32) (l3 : Int32) (l4 : Int32) (l5 : Int32) (l6 : Int32) :
  evk zcod none d zc_X12_liftBy 0 [(0, .ref l0), (1, .int l1), (2, .int l2), (3, .int l3), (4, .int l4), (5, .int l5), (6, .int l6)] [] (S, I, L) =
  if kK S l0 = 12 then
 (bV (evM zcod d 205 [.ref l0, .int l1, .int l2] (S, I, L)) fun M1 =>
 if M1.1.1 = S.1 then
 (if kK M1.1 l0 = 12 then
 (if kK M1.1 (kR M1.1 l0 49) = 20 ∧ zin (nI 2) (kN M1.1 (kR M1.1 l0 49)) then
 (if kK M1.1 l0 = 12 then
 (if kK M1.1 (kR M1.1 l0 49) = 20 ∧ zin (nI 3) (kN M1.1 (kR M1.1 l0 49)) then
 (if kK M1.1 l0 = 12 then
 (if kK M1.1 (kR M1.1 l0 49) = 20 ∧ zin (nI 4) (kN M1.1 (kR M1.1 l0 49)) then
 (evk zcod none d zc_X12_liftBy 29 [(0, .ref l0), (3, .int l3), (4, .int l4), (6, .int l6)] [] (M1.1, (uI (uI (uI M1.2.1 (kR M1.1 l0 49) (zix (nI 2)) l3) (kR M1.1 l0 49) (zix (nI 3)) l4) (kR M1.1 l0 49) (zix (nI 4)) l5), M1.2.2)) else none) else none) else none) else none) else none) else none) else none) else none :=
  (blk_ok zcod none d zc_X12_liftBy [(1, .iload_n 1, 2, [], none), (2, .iload_n 2, 3, [], none), (3, .invokevirtual 360, 6, [205, 2, 0, 12, 785, 786, 787, 662], none), (6, .aload_n 0, 7, [], none), (7, .getfield 116, 10, [12, 49, 2, 639, 0], none), (10, .iconst 2, 11, [], none), (11, .iload_n 3, 12, [], none), (12, .iastore, 13, [20], none), (13, .aload_n 0, 14, [], none), (14, .getfield 116, 17, [12, 49, 2, 639, 0], none), (17, .iconst 3, 18, [], none), (18, .iload 4, 20, [], none), (20, .iastore, 21, [20], none), (21, .aload_n 0, 22, [], none), (22, .getfield 116, 25, [12, 49, 2, 639, 0], none), (25, .iconst 4, 26, [], none), (26, .iload 5, 28, [], none), (28, .iastore, 29, [20], none)] (0, .aload_n 0, 1, [], none) (by decide +kernel) _ _ _).trans rfl
set_option maxRecDepth 20000 in
set_option maxHeartbeats 4000000 in
theorem R_X12_liftBy_29 (d : Nat) (S : mS) (I : mI) (L : mJ) (l0 : Nat) (l3 : Int32) (l4 : Int32) (l6 : Int32) :
  evk zcod none d zc_X12_liftBy 29 [(0, .ref l0), (3, .int l3), (4, .int l4), (6, .int l6)] [] (S, I, L) =
  if kK S l0 = 12 then
 (if kK S (kR S l0 49) = 20 ∧ zin (nI 5) (kN S (kR S l0 49)) then
 (if kK S l0 = 12 then
 (bI (evM zcod d 206 [.ref l0, .int (nI 0), .int (l3 - l4)] (S, (uI I (kR S l0 49) (zix (nI 5)) l6), L)) fun x1 M1 =>
 if M1.1.1 = S.1 then
 (bI (evM zcod d 192 [.int x1, .int ((Int8.ofInt (-9)).toInt32), .int (nI 9)] M1) fun x2 M2 =>
 if M2.1.1 = M1.1.1 then
 (some (some (.int x2), M2)) else none) else none) else none) else none) else none :=
  (blk_ok zcod none d zc_X12_liftBy [(30, .getfield 116, 33, [12, 49, 2, 639, 0], none), (33, .iconst 5, 34, [], none), (34, .iload 6, 36, [], none), (36, .iastore, 37, [20], none), (37, .aload_n 0, 38, [], none), (38, .iconst 0, 39, [], none), (39, .iload_n 3, 40, [], none), (40, .iload 4, 42, [], none), (42, .isub, 43, [], none), (43, .invokevirtual 363, 46, [206, 2, 1, 12, 788, 789, 790, 662], none), (46, .bipush (-9), 48, [], none), (48, .bipush 9, 50, [], none), (50, .invokestatic 366, 53, [192, 3, 1, 0, 791, 792, 662], none), (53, .ireturn, 54, [0], none)] (29, .aload_n 0, 30, [], some [0, 3, 4, 6]) (by decide +kernel) _ _ _).trans rfl
theorem B_X12_liftBy_29 (d : Nat) (S : mS) (I : mI) (L : mJ) (l0 : Nat) (l3 : Int32) (l4 : Int32) (l6 : Int32) :
  evk zcod none d zc_X12_liftBy 29 [(0, .ref l0), (3, .int l3), (4, .int l4), (6, .int l6)] [] (S, I, L) =
  if kK S l0 = 12 then
 (if kK S (kR S l0 49) = 20 ∧ zin (nI 5) (kN S (kR S l0 49)) then
 (if kK S l0 = 12 then
 (bI (evM zcod d 206 [.ref l0, .int (nI 0), .int (l3 - l4)] (S, (uI I (kR S l0 49) (zix (nI 5)) l6), L)) fun x1 M1 =>
 if M1.1.1 = S.1 then
 (bI (evM zcod d 192 [.int x1, .int (-9 : Int32), .int (nI 9)] M1) fun x2 M2 =>
 if M2.1.1 = M1.1.1 then
 (some (some (.int x2), M2)) else none) else none) else none) else none) else none := by
  simpa only [cvN] using R_X12_liftBy_29 d S I L l0 l3 l4 l6
theorem E_X12_windBy (d : Nat) (M : zM) (l0 : Nat) (l1 : Int32) (l2 : Int32) (l3 : Int32) (l4 : Int32) : evM zcod (d + 1) 208 [.ref l0, .int l1, .int l2, .int l3, .int l4] M = evk zcod none d zc_X12_windBy 0 [(0, .ref l0), (1, .int l1), (2, .int l2), (3, .int l3), (4, .int l4)] [] M := evM_eq zcod d 208 _ M (Nat.le_of_ble_eq_true rfl)
set_option maxRecDepth 20000 in
set_option maxHeartbeats 4000000 in
theorem R_X12_windBy_0 (d : Nat) (S : mS) (I : mI) (L : mJ) (l0 : Nat) (l1 : Int32) (l2 : Int32) (l3 : Int32) (l4 : Int32) :
  evk zcod none d zc_X12_windBy 0 [(0, .ref l0), (1, .int l1), (2, .int l2), (3, .int l3), (4, .int l4)] [] (S, I, L) =
  if kK S l0 = 12 then
 (bV (evM zcod d 205 [.ref l0, .int l1, .int l2] (S, I, L)) fun M1 =>
 if M1.1.1 = S.1 then
 (if kK M1.1 l0 = 12 then
 (if kK M1.1 (kR M1.1 l0 49) = 20 ∧ zin (nI 4) (kN M1.1 (kR M1.1 l0 49)) then
 (if kK M1.1 l0 = 12 then
 (if kK M1.1 (kR M1.1 l0 49) = 20 ∧ zin (nI 5) (kN M1.1 (kR M1.1 l0 49)) then
 (if kK M1.1 l0 = 12 then
 (bI (evM zcod d 206 [.ref l0, .int (nI 1), .int (nI 0)] (M1.1, (uI (uI M1.2.1 (kR M1.1 l0 49) (zix (nI 4)) l3) (kR M1.1 l0 49) (zix (nI 5)) l4), M1.2.2)) fun x2 M2 =>
 if M2.1.1 = M1.1.1 then
 (bI (evM zcod d 192 [.int x2, .int ((Int8.ofInt (-3)).toInt32), .int (nI 3)] M2) fun x3 M3 =>
 if M3.1.1 = M2.1.1 then
 (some (some (.int x3), M3)) else none) else none) else none) else none) else none) else none) else none) else none) else none :=
  (blk_ok zcod none d zc_X12_windBy [(1, .iload_n 1, 2, [], none), (2, .iload_n 2, 3, [], none), (3, .invokevirtual 360, 6, [205, 2, 0, 12, 785, 786, 787, 662], none), (6, .aload_n 0, 7, [], none), (7, .getfield 116, 10, [12, 49, 2, 639, 0], none), (10, .iconst 4, 11, [], none), (11, .iload_n 3, 12, [], none), (12, .iastore, 13, [20], none), (13, .aload_n 0, 14, [], none), (14, .getfield 116, 17, [12, 49, 2, 639, 0], none), (17, .iconst 5, 18, [], none), (18, .iload 4, 20, [], none), (20, .iastore, 21, [20], none), (21, .aload_n 0, 22, [], none), (22, .iconst 1, 23, [], none), (23, .iconst 0, 24, [], none), (24, .invokevirtual 363, 27, [206, 2, 1, 12, 788, 789, 790, 662], none), (27, .bipush (-3), 29, [], none), (29, .iconst 3, 30, [], none), (30, .invokestatic 366, 33, [192, 3, 1, 0, 791, 792, 662], none), (33, .ireturn, 34, [0], none)] (0, .aload_n 0, 1, [], none) (by decide +kernel) _ _ _).trans rfl
theorem B_X12_windBy_0 (d : Nat) (S : mS) (I : mI) (L : mJ) (l0 : Nat) (l1 : Int32) (l2 : Int32) (l3 : Int32) (l4 : Int32) :
  evk zcod none d zc_X12_windBy 0 [(0, .ref l0), (1, .int l1), (2, .int l2), (3, .int l3), (4, .int l4)] [] (S, I, L) =
  if kK S l0 = 12 then
 (bV (evM zcod d 205 [.ref l0, .int l1, .int l2] (S, I, L)) fun M1 =>
 if M1.1.1 = S.1 then
 (if kK M1.1 l0 = 12 then
 (if kK M1.1 (kR M1.1 l0 49) = 20 ∧ zin (nI 4) (kN M1.1 (kR M1.1 l0 49)) then
 (if kK M1.1 l0 = 12 then
 (if kK M1.1 (kR M1.1 l0 49) = 20 ∧ zin (nI 5) (kN M1.1 (kR M1.1 l0 49)) then
 (if kK M1.1 l0 = 12 then
 (bI (evM zcod d 206 [.ref l0, .int (nI 1), .int (nI 0)] (M1.1, (uI (uI M1.2.1 (kR M1.1 l0 49) (zix (nI 4)) l3) (kR M1.1 l0 49) (zix (nI 5)) l4), M1.2.2)) fun x2 M2 =>
 if M2.1.1 = M1.1.1 then
 (bI (evM zcod d 192 [.int x2, .int (-3 : Int32), .int (nI 3)] M2) fun x3 M3 =>
 if M3.1.1 = M2.1.1 then
 (some (some (.int x3), M3)) else none) else none) else none) else none) else none) else none) else none) else none) else none := by
  simpa only [cvN] using R_X12_windBy_0 d S I L l0 l1 l2 l3 l4
theorem E_X12_tiesBy (d : Nat) (M : zM) (l0 : Nat) (l1 : Int32) (l2 : Int32) (l3 : Int32) (l4 : Int32) : evM zcod (d + 1) 209 [.ref l0, .int l1, .int l2, .int l3, .int l4] M = evk zcod none d zc_X12_tiesBy 0 [(0, .ref l0), (1, .int l1), (2, .int l2), (3, .int l3), (4, .int l4)] [] M := evM_eq zcod d 209 _ M (Nat.le_of_ble_eq_true rfl)
set_option maxRecDepth 20000 in
set_option maxHeartbeats 4000000 in
theorem B_X12_tiesBy_0 (d : Nat) (S : mS) (I : mI) (L : mJ) (l0 : Nat) (l1 : Int32) (l2 : Int32) (l3 : Int32) (l4 : Int32) :
  evk zcod none d zc_X12_tiesBy 0 [(0, .ref l0), (1, .int l1), (2, .int l2), (3, .int l3), (4, .int l4)] [] (S, I, L) =
  if kK S l0 = 12 then
 (bV (evM zcod d 205 [.ref l0, .int l1, .int l2] (S, I, L)) fun M1 =>
 if M1.1.1 = S.1 then
 (if kK M1.1 l0 = 12 then
 (if kK M1.1 (kR M1.1 l0 49) = 20 ∧ zin (nI 2) (kN M1.1 (kR M1.1 l0 49)) then
 (if kK M1.1 l0 = 12 then
 (if kK M1.1 (kR M1.1 l0 49) = 20 ∧ zin (nI 3) (kN M1.1 (kR M1.1 l0 49)) then
 (if kK M1.1 l0 = 12 then
 (bI (evM zcod d 206 [.ref l0, .int (nI 2), .int l4] (M1.1, (uI (uI M1.2.1 (kR M1.1 l0 49) (zix (nI 2)) l3) (kR M1.1 l0 49) (zix (nI 3)) l4), M1.2.2)) fun x2 M2 =>
 if M2.1.1 = M1.1.1 then
 (bI (evM zcod d 192 [.int x2, .int (nI 0), .int (nI 99)] M2) fun x3 M3 =>
 if M3.1.1 = M2.1.1 then
 (some (some (.int x3), M3)) else none) else none) else none) else none) else none) else none) else none) else none) else none :=
  (blk_ok zcod none d zc_X12_tiesBy [(1, .iload_n 1, 2, [], none), (2, .iload_n 2, 3, [], none), (3, .invokevirtual 360, 6, [205, 2, 0, 12, 785, 786, 787, 662], none), (6, .aload_n 0, 7, [], none), (7, .getfield 116, 10, [12, 49, 2, 639, 0], none), (10, .iconst 2, 11, [], none), (11, .iload_n 3, 12, [], none), (12, .iastore, 13, [20], none), (13, .aload_n 0, 14, [], none), (14, .getfield 116, 17, [12, 49, 2, 639, 0], none), (17, .iconst 3, 18, [], none), (18, .iload 4, 20, [], none), (20, .iastore, 21, [20], none), (21, .aload_n 0, 22, [], none), (22, .iconst 2, 23, [], none), (23, .iload 4, 25, [], none), (25, .invokevirtual 363, 28, [206, 2, 1, 12, 788, 789, 790, 662], none), (28, .iconst 0, 29, [], none), (29, .bipush 99, 31, [], none), (31, .invokestatic 366, 34, [192, 3, 1, 0, 791, 792, 662], none), (34, .ireturn, 35, [0], none)] (0, .aload_n 0, 1, [], none) (by decide +kernel) _ _ _).trans rfl
theorem E_X12_paysBy (d : Nat) (M : zM) (l0 : Nat) (l1 : Int32) (l2 : Int32) (l3 : Int32) : evM zcod (d + 1) 210 [.ref l0, .int l1, .int l2, .int l3] M = evk zcod none d zc_X12_paysBy 0 [(0, .ref l0), (1, .int l1), (2, .int l2), (3, .int l3)] [] M := evM_eq zcod d 210 _ M (Nat.le_of_ble_eq_true rfl)
set_option maxRecDepth 20000 in
set_option maxHeartbeats 4000000 in
theorem B_X12_paysBy_0 (d : Nat) (S : mS) (I : mI) (L : mJ) (l0 : Nat) (l1 : Int32) (l2 : Int32) (l3 : Int32) :
  evk zcod none d zc_X12_paysBy 0 [(0, .ref l0), (1, .int l1), (2, .int l2), (3, .int l3)] [] (S, I, L) =
  if kK S l0 = 12 then
 (bV (evM zcod d 205 [.ref l0, .int l1, .int l2] (S, I, L)) fun M1 =>
 if M1.1.1 = S.1 then
 (if kK M1.1 l0 = 12 then
 (if kK M1.1 l0 = 12 then
 (if kK M1.1 l0 = 12 then
 (if kK M1.1 (kR M1.1 l0 24) = 20 ∧ zin (((nI 7) * (M1.2.1 l0 18)) + l3) (kN M1.1 (kR M1.1 l0 24)) then
 (if kK M1.1 (kR M1.1 l0 49) = 20 ∧ zin (nI 3) (kN M1.1 (kR M1.1 l0 49)) then
 (if kK M1.1 l0 = 12 then
 (if kK M1.1 l0 = 12 then
 (if kK M1.1 l0 = 12 then
 (if kK M1.1 (kR M1.1 l0 25) = 20 ∧ zin (((nI 7) * ((uI M1.2.1 (kR M1.1 l0 49) (zix (nI 3)) (M1.2.1 (kR M1.1 l0 24) (zix (((nI 7) * (M1.2.1 l0 18)) + l3)))) l0 18)) + l3) (kN M1.1 (kR M1.1 l0 25)) then
 (if kK M1.1 (kR M1.1 l0 49) = 20 ∧ zin (nI 6) (kN M1.1 (kR M1.1 l0 49)) then
 (if kK M1.1 l0 = 12 then
 (if kK M1.1 (kR M1.1 l0 49) = 20 ∧ zin (nI 6) (kN M1.1 (kR M1.1 l0 49)) then
 (if kK M1.1 l0 = 12 then
 (bI (evM zcod d 206 [.ref l0, .int (nI 3), .int ((uI (uI M1.2.1 (kR M1.1 l0 49) (zix (nI 3)) (M1.2.1 (kR M1.1 l0 24) (zix (((nI 7) * (M1.2.1 l0 18)) + l3)))) (kR M1.1 l0 49) (zix (nI 6)) ((uI M1.2.1 (kR M1.1 l0 49) (zix (nI 3)) (M1.2.1 (kR M1.1 l0 24) (zix (((nI 7) * (M1.2.1 l0 18)) + l3)))) (kR M1.1 l0 25) (zix (((nI 7) * ((uI M1.2.1 (kR M1.1 l0 49) (zix (nI 3)) (M1.2.1 (kR M1.1 l0 24) (zix (((nI 7) * (M1.2.1 l0 18)) + l3)))) l0 18)) + l3)))) (kR M1.1 l0 49) (zix (nI 6)))] (M1.1, (uI (uI M1.2.1 (kR M1.1 l0 49) (zix (nI 3)) (M1.2.1 (kR M1.1 l0 24) (zix (((nI 7) * (M1.2.1 l0 18)) + l3)))) (kR M1.1 l0 49) (zix (nI 6)) ((uI M1.2.1 (kR M1.1 l0 49) (zix (nI 3)) (M1.2.1 (kR M1.1 l0 24) (zix (((nI 7) * (M1.2.1 l0 18)) + l3)))) (kR M1.1 l0 25) (zix (((nI 7) * ((uI M1.2.1 (kR M1.1 l0 49) (zix (nI 3)) (M1.2.1 (kR M1.1 l0 24) (zix (((nI 7) * (M1.2.1 l0 18)) + l3)))) l0 18)) + l3)))), M1.2.2)) fun x2 M2 =>
 if M2.1.1 = M1.1.1 then
 (bI (evM zcod d 192 [.int x2, .int (nI 0), .int (nI 99)] M2) fun x3 M3 =>
 if M3.1.1 = M2.1.1 then
 (some (some (.int x3), M3)) else none) else none) else none) else none) else none) else none) else none) else none) else none) else none) else none) else none) else none) else none) else none) else none) else none :=
  (blk_ok zcod none d zc_X12_paysBy [(1, .iload_n 1, 2, [], none), (2, .iload_n 2, 3, [], none), (3, .invokevirtual 360, 6, [205, 2, 0, 12, 785, 786, 787, 662], none), (6, .aload_n 0, 7, [], none), (7, .getfield 116, 10, [12, 49, 2, 639, 0], none), (10, .iconst 3, 11, [], none), (11, .aload_n 0, 12, [], none), (12, .getfield 49, 15, [12, 24, 2, 616, 0], none), (15, .bipush 7, 17, [], none), (17, .aload_n 0, 18, [], none), (18, .getfield 257, 21, [12, 18, 0, 711, 0], none), (21, .imul, 22, [], none), (22, .iload_n 3, 23, [], none), (23, .iadd, 24, [], none), (24, .iaload, 25, [20], none), (25, .iastore, 26, [20], none), (26, .aload_n 0, 27, [], none), (27, .getfield 116, 30, [12, 49, 2, 639, 0], none), (30, .bipush 6, 32, [], none), (32, .aload_n 0, 33, [], none), (33, .getfield 52, 36, [12, 25, 2, 617, 0], none), (36, .bipush 7, 38, [], none), (38, .aload_n 0, 39, [], none), (39, .getfield 257, 42, [12, 18, 0, 711, 0], none), (42, .imul, 43, [], none), (43, .iload_n 3, 44, [], none), (44, .iadd, 45, [], none), (45, .iaload, 46, [20], none), (46, .iastore, 47, [20], none), (47, .aload_n 0, 48, [], none), (48, .iconst 3, 49, [], none), (49, .aload_n 0, 50, [], none), (50, .getfield 116, 53, [12, 49, 2, 639, 0], none), (53, .bipush 6, 55, [], none), (55, .iaload, 56, [20], none), (56, .invokevirtual 363, 59, [206, 2, 1, 12, 788, 789, 790, 662], none), (59, .iconst 0, 60, [], none), (60, .bipush 99, 62, [], none), (62, .invokestatic 366, 65, [192, 3, 1, 0, 791, 792, 662], none), (65, .ireturn, 66, [0], none)] (0, .aload_n 0, 1, [], none) (by decide +kernel) _ _ _).trans rfl
theorem E_X12_hookAt (d : Nat) (M : zM) (l0 : Nat) (l1 : Int32) : evM zcod (d + 1) 211 [.ref l0, .int l1] M = evk zcod none d zc_X12_hookAt 0 [(0, .ref l0), (1, .int l1)] [] M := evM_eq zcod d 211 _ M (Nat.le_of_ble_eq_true rfl)
set_option maxRecDepth 20000 in
set_option maxHeartbeats 4000000 in
theorem R_X12_hookAt_0 (d : Nat) (S : mS) (I : mI) (L : mJ) (l0 : Nat) (l1 : Int32) :
  evk zcod none d zc_X12_hookAt 0 [(0, .ref l0), (1, .int l1)] [] (S, I, L) =
  evk zcod none d zc_X12_hookAt 5 [(0, .ref l0), (1, .int l1), (2, .int ((Int8.ofInt (-2)).toInt32)), (3, .int (nI 0))] [] (S, I, L) :=
  (blk_ok zcod none d zc_X12_hookAt [(2, .istore_n 2, 3, [], none), (3, .iconst 0, 4, [], none), (4, .istore_n 3, 5, [], none)] (0, .bipush (-2), 2, [], none) (by decide +kernel) _ _ _).trans rfl
theorem B_X12_hookAt_0 (d : Nat) (S : mS) (I : mI) (L : mJ) (l0 : Nat) (l1 : Int32) :
  evk zcod none d zc_X12_hookAt 0 [(0, .ref l0), (1, .int l1)] [] (S, I, L) =
  evk zcod none d zc_X12_hookAt 5 [(0, .ref l0), (1, .int l1), (2, .int (-2 : Int32)), (3, .int (nI 0))] [] (S, I, L) := by
  simpa only [cvN] using R_X12_hookAt_0 d S I L l0 l1
set_option maxRecDepth 20000 in
set_option maxHeartbeats 4000000 in
theorem B_X12_hookAt_5 (d : Nat) (S : mS) (I : mI) (L : mJ) (l0 : Nat) (l1 : Int32) (l2 : Int32) (l3 : Int32) :
  evk zcod none d zc_X12_hookAt 5 [(0, .ref l0), (1, .int l1), (2, .int l2), (3, .int l3)] [] (S, I, L) =
  if kK S l0 = 12 then
 (if kK S l0 = 12 then
 (if kK S (kR S l0 29) = 20 ∧ zin (I l0 18) (kN S (kR S l0 29)) then
 (if (I (kR S l0 29) (zix (I l0 18))) ≤ l3 then
 evk zcod none d zc_X12_hookAt 106 [(2, .int l2)] [] (S, I, L)
 else
 if kK S l0 = 12 then
 (if kK S (kR S l0 53) = 20 ∧ zin ((nI 50) + l3) (kN S (kR S l0 53)) then
 (bI (evM zcod d 194 [.int (I (kR S l0 53) (zix ((nI 50) + l3))), .int l1] (S, I, L)) fun x1 M1 =>
 if M1.1.1 = S.1 then
 (if kK M1.1 l0 = 12 then
 (if kK M1.1 l0 = 12 then
 (if kK M1.1 (kR M1.1 l0 31) = 20 ∧ zin (((nI 5) * (M1.2.1 l0 18)) + l3) (kN M1.1 (kR M1.1 l0 31)) then
 (if (M1.2.1 (kR M1.1 l0 31) (zix (((nI 5) * (M1.2.1 l0 18)) + l3))) < x1 then
 evk zcod none d zc_X12_hookAt 100 [(0, .ref l0), (1, .int l1), (2, .int l2), (3, .int l3)] [] M1
 else
 if kK M1.1 l0 = 12 then
 (if kK M1.1 (kR M1.1 l0 55) = 20 ∧ zin l3 (kN M1.1 (kR M1.1 l0 55)) then
 (if kK M1.1 l0 = 12 then
 (if kK M1.1 l0 = 12 then
 (if kK M1.1 (kR M1.1 l0 32) = 20 ∧ zin (((nI 5) * (M1.2.1 l0 18)) + l3) (kN M1.1 (kR M1.1 l0 32)) then
 (if (M1.2.1 (kR M1.1 l0 55) (zix l3)) < (M1.2.1 (kR M1.1 l0 32) (zix (((nI 5) * (M1.2.1 l0 18)) + l3))) then
 evk zcod none d zc_X12_hookAt 76 [(0, .ref l0), (1, .int l1), (2, .int l2), (3, .int l3), (4, .int x1)] [] M1
 else
 evk zcod none d zc_X12_hookAt 100 [(0, .ref l0), (1, .int l1), (2, .int l2), (3, .int l3)] [] M1) else none) else none) else none) else none) else none) else none) else none) else none) else none) else none) else none) else none) else none) else none :=
  (blk_ok zcod none d zc_X12_hookAt [(6, .aload_n 0, 7, [], none), (7, .getfield 64, 10, [12, 29, 2, 621, 0], none), (10, .aload_n 0, 11, [], none), (11, .getfield 257, 14, [12, 18, 0, 711, 0], none), (14, .iaload, 15, [20], none), (15, .if_icmp .ge 91, 18, [106], none), (18, .aload_n 0, 19, [], none), (19, .getfield 125, 22, [12, 53, 2, 642, 0], none), (22, .bipush 50, 24, [], none), (24, .iload_n 3, 25, [], none), (25, .iadd, 26, [], none), (26, .iaload, 27, [20], none), (27, .iload_n 1, 28, [], none), (28, .invokestatic 369, 31, [194, 2, 1, 0, 793, 794, 662], none), (31, .istore 4, 33, [], none), (33, .iload 4, 35, [], none), (35, .aload_n 0, 36, [], none), (36, .getfield 70, 39, [12, 31, 2, 623, 0], none), (39, .iconst 5, 40, [], none), (40, .aload_n 0, 41, [], none), (41, .getfield 257, 44, [12, 18, 0, 711, 0], none), (44, .imul, 45, [], none), (45, .iload_n 3, 46, [], none), (46, .iadd, 47, [], none), (47, .iaload, 48, [20], none), (48, .if_icmp .gt 52, 51, [100], none), (51, .aload_n 0, 52, [], none), (52, .getfield 128, 55, [12, 55, 2, 643, 0], none), (55, .iload_n 3, 56, [], none), (56, .iaload, 57, [20], none), (57, .aload_n 0, 58, [], none), (58, .getfield 73, 61, [12, 32, 2, 624, 0], none), (61, .iconst 5, 62, [], none), (62, .aload_n 0, 63, [], none), (63, .getfield 257, 66, [12, 18, 0, 711, 0], none), (66, .imul, 67, [], none), (67, .iload_n 3, 68, [], none), (68, .iadd, 69, [], none), (69, .iaload, 70, [20], none), (70, .if_icmp .lt 6, 73, [76], none), (73, .goto 27, 76, [100], none)] (5, .iload_n 3, 6, [], some [0, 1, 2, 3]) (by decide +kernel) _ _ _).trans rfl
set_option maxRecDepth 20000 in
set_option maxHeartbeats 4000000 in
theorem B_X12_hookAt_76 (d : Nat) (S : mS) (I : mI) (L : mJ) (l0 : Nat) (l1 : Int32) (l2 : Int32) (l3 : Int32) (l4 : Int32) :
  evk zcod none d zc_X12_hookAt 76 [(0, .ref l0), (1, .int l1), (2, .int l2), (3, .int l3), (4, .int l4)] [] (S, I, L) =
  if l2 < (nI 0) then
 evk zcod none d zc_X12_hookAt 98 [(0, .ref l0), (1, .int l1), (3, .int l3)] [] (S, I, L)
 else
 if kK S l0 = 12 then
 (if kK S (kR S l0 53) = 20 ∧ zin ((nI 50) + l2) (kN S (kR S l0 53)) then
 (bI (evM zcod d 194 [.int (I (kR S l0 53) (zix ((nI 50) + l2))), .int l1] (S, I, L)) fun x1 M1 =>
 if M1.1.1 = S.1 then
 (if x1 ≤ l4 then
 evk zcod none d zc_X12_hookAt 100 [(0, .ref l0), (1, .int l1), (2, .int l2), (3, .int l3)] [] M1
 else
 evk zcod none d zc_X12_hookAt 98 [(0, .ref l0), (1, .int l1), (3, .int l3)] [] M1) else none) else none) else none :=
  (blk_ok zcod none d zc_X12_hookAt [(77, .ifCond .lt 21, 80, [98], none), (80, .iload 4, 82, [], none), (82, .aload_n 0, 83, [], none), (83, .getfield 125, 86, [12, 53, 2, 642, 0], none), (86, .bipush 50, 88, [], none), (88, .iload_n 2, 89, [], none), (89, .iadd, 90, [], none), (90, .iaload, 91, [20], none), (91, .iload_n 1, 92, [], none), (92, .invokestatic 369, 95, [194, 2, 1, 0, 793, 794, 662], none), (95, .if_icmp .ge 5, 98, [100], none)] (76, .iload_n 2, 77, [], some [0, 1, 2, 3, 4]) (by decide +kernel) _ _ _).trans rfl
set_option maxRecDepth 20000 in
set_option maxHeartbeats 4000000 in
theorem B_X12_hookAt_98 (d : Nat) (S : mS) (I : mI) (L : mJ) (l0 : Nat) (l1 : Int32) (l3 : Int32) :
  evk zcod none d zc_X12_hookAt 98 [(0, .ref l0), (1, .int l1), (3, .int l3)] [] (S, I, L) =
  evk zcod none d zc_X12_hookAt 100 [(0, .ref l0), (1, .int l1), (2, .int l3), (3, .int l3)] [] (S, I, L) :=
  (blk_ok zcod none d zc_X12_hookAt [(99, .istore_n 2, 100, [], none)] (98, .iload_n 3, 99, [], some [0, 1, 3]) (by decide +kernel) _ _ _).trans rfl
set_option maxRecDepth 20000 in
set_option maxHeartbeats 4000000 in
theorem B_X12_hookAt_100 (d : Nat) (S : mS) (I : mI) (L : mJ) (l0 : Nat) (l1 : Int32) (l2 : Int32) (l3 : Int32) :
  evk zcod none d zc_X12_hookAt 100 [(0, .ref l0), (1, .int l1), (2, .int l2), (3, .int l3)] [] (S, I, L) =
  evk zcod none d zc_X12_hookAt 5 [(0, .ref l0), (1, .int l1), (2, .int l2), (3, .int (l3 + (nI 1)))] [] (S, I, L) :=
  (blk_ok zcod none d zc_X12_hookAt [(103, .goto (-98), 106, [5], none)] (100, .iinc 3 1, 103, [], some [0, 1, 2, 3]) (by decide +kernel) _ _ _).trans rfl
set_option maxRecDepth 20000 in
set_option maxHeartbeats 4000000 in
theorem B_X12_hookAt_106 (d : Nat) (S : mS) (I : mI) (L : mJ) (l2 : Int32) :
  evk zcod none d zc_X12_hookAt 106 [(2, .int l2)] [] (S, I, L) =
  some (some (.int l2), (S, I, L)) :=
  (blk_ok zcod none d zc_X12_hookAt [(107, .ireturn, 108, [0], none)] (106, .iload_n 2, 107, [], some [2]) (by decide +kernel) _ _ _).trans rfl
theorem E_X12_handsFree (d : Nat) (M : zM) (l0 : Nat) : evM zcod (d + 1) 212 [.ref l0] M = evk zcod none d zc_X12_handsFree 0 [(0, .ref l0)] [] M := evM_eq zcod d 212 _ M (Nat.le_of_ble_eq_true rfl)
set_option maxRecDepth 20000 in
set_option maxHeartbeats 4000000 in
theorem B_X12_handsFree_0 (d : Nat) (S : mS) (I : mI) (L : mJ) (l0 : Nat) :
  evk zcod none d zc_X12_handsFree 0 [(0, .ref l0)] [] (S, I, L) =
  evk zcod none d zc_X12_handsFree 2 [(0, .ref l0), (1, .int (nI 0))] [] (S, I, L) :=
  (blk_ok zcod none d zc_X12_handsFree [(1, .istore_n 1, 2, [], none)] (0, .iconst 0, 1, [], none) (by decide +kernel) _ _ _).trans rfl
set_option maxRecDepth 20000 in
set_option maxHeartbeats 4000000 in
theorem B_X12_handsFree_2 (d : Nat) (S : mS) (I : mI) (L : mJ) (l0 : Nat) (l1 : Int32) :
  evk zcod none d zc_X12_handsFree 2 [(0, .ref l0), (1, .int l1)] [] (S, I, L) =
  if (nI 5) ≤ l1 then
 evk zcod none d zc_X12_handsFree 20 [] [] (S, I, L)
 else
 if kK S l0 = 12 then
 (if kK S (kR S l0 55) = 20 ∧ zin l1 (kN S (kR S l0 55)) then
 (evk zcod none d zc_X12_handsFree 2 [(0, .ref l0), (1, .int (l1 + (nI 1)))] [] (S, (uI I (kR S l0 55) (zix l1) (nI 0)), L)) else none) else none :=
  (blk_ok zcod none d zc_X12_handsFree [(3, .iconst 5, 4, [], none), (4, .if_icmp .ge 16, 7, [20], none), (7, .aload_n 0, 8, [], none), (8, .getfield 128, 11, [12, 55, 2, 643, 0], none), (11, .iload_n 1, 12, [], none), (12, .iconst 0, 13, [], none), (13, .iastore, 14, [20], none), (14, .iinc 1 1, 17, [], none), (17, .goto (-15), 20, [2], none)] (2, .iload_n 1, 3, [], some [0, 1]) (by decide +kernel) _ _ _).trans rfl
set_option maxRecDepth 20000 in
set_option maxHeartbeats 4000000 in
theorem B_X12_handsFree_20 (d : Nat) (S : mS) (I : mI) (L : mJ)  :
  evk zcod none d zc_X12_handsFree 20 [] [] (S, I, L) =
  some (none, (S, I, L)) :=
  (blk_ok zcod none d zc_X12_handsFree [] (20, .return_, 21, [], some []) (by decide +kernel) _ _ _).trans rfl
theorem E_X12_isDown (d : Nat) (M : zM) (l0 : Nat) (l1 : Int32) (l2 : Int32) : evM zcod (d + 1) 213 [.ref l0, .int l1, .int l2] M = evk zcod none d zc_X12_isDown 0 [(0, .ref l0), (1, .int l1), (2, .int l2)] [] M := evM_eq zcod d 213 _ M (Nat.le_of_ble_eq_true rfl)
set_option maxRecDepth 20000 in
set_option maxHeartbeats 4000000 in
theorem R_X12_isDown_0 (d : Nat) (S : mS) (I : mI) (L : mJ) (l0 : Nat) (l1 : Int32) (l2 : Int32) :
  evk zcod none d zc_X12_isDown 0 [(0, .ref l0), (1, .int l1), (2, .int l2)] [] (S, I, L) =
  if kK S l0 = 12 then
 (if kK S l0 = 12 then
 (if kK S (kR S l0 53) = 20 ∧ zin ((nI 21) + l1) (kN S (kR S l0 53)) then
 (if kK S (kR S l0 53) = 20 ∧ zin ((nI 35) + (I (kR S l0 53) (zix ((nI 21) + l1)))) (kN S (kR S l0 53)) then
 (if kK S l0 = 12 then
 (if kK S (kR S l0 53) = 20 ∧ zin ((nI 21) + l1) (kN S (kR S l0 53)) then
 (if kK S l0 = 12 then
 (if kK S (kR S l0 53) = 20 ∧ zin ((nI 14) + l1) (kN S (kR S l0 53)) then
 (if kK S l0 = 12 then
 (if kK S (kR S l0 53) = 20 ∧ zin ((nI 7) + l1) (kN S (kR S l0 53)) then
 (evk zcod none d zc_X12_isDown 50 [] [] (S, (uI (uI (uI (uI I (kR S l0 53) (zix ((nI 35) + (I (kR S l0 53) (zix ((nI 21) + l1))))) ((Int8.ofInt (-2)).toInt32)) (kR S l0 53) (zix ((nI 21) + l1)) ((Int8.ofInt (-2)).toInt32)) (kR S l0 53) (zix ((nI 14) + l1)) (nI 0)) (kR S l0 53) (zix ((nI 7) + l1)) l2), L)) else none) else none) else none) else none) else none) else none) else none) else none) else none) else none :=
  (blk_ok zcod none d zc_X12_isDown [(1, .getfield 125, 4, [12, 53, 2, 642, 0], none), (4, .bipush 35, 6, [], none), (6, .aload_n 0, 7, [], none), (7, .getfield 125, 10, [12, 53, 2, 642, 0], none), (10, .bipush 21, 12, [], none), (12, .iload_n 1, 13, [], none), (13, .iadd, 14, [], none), (14, .iaload, 15, [20], none), (15, .iadd, 16, [], none), (16, .bipush (-2), 18, [], none), (18, .iastore, 19, [20], none), (19, .aload_n 0, 20, [], none), (20, .getfield 125, 23, [12, 53, 2, 642, 0], none), (23, .bipush 21, 25, [], none), (25, .iload_n 1, 26, [], none), (26, .iadd, 27, [], none), (27, .bipush (-2), 29, [], none), (29, .iastore, 30, [20], none), (30, .aload_n 0, 31, [], none), (31, .getfield 125, 34, [12, 53, 2, 642, 0], none), (34, .bipush 14, 36, [], none), (36, .iload_n 1, 37, [], none), (37, .iadd, 38, [], none), (38, .iconst 0, 39, [], none), (39, .iastore, 40, [20], none), (40, .aload_n 0, 41, [], none), (41, .getfield 125, 44, [12, 53, 2, 642, 0], none), (44, .bipush 7, 46, [], none), (46, .iload_n 1, 47, [], none), (47, .iadd, 48, [], none), (48, .iload_n 2, 49, [], none), (49, .iastore, 50, [20], none)] (0, .aload_n 0, 1, [], none) (by decide +kernel) _ _ _).trans rfl
theorem B_X12_isDown_0 (d : Nat) (S : mS) (I : mI) (L : mJ) (l0 : Nat) (l1 : Int32) (l2 : Int32) :
  evk zcod none d zc_X12_isDown 0 [(0, .ref l0), (1, .int l1), (2, .int l2)] [] (S, I, L) =
  if kK S l0 = 12 then
 (if kK S l0 = 12 then
 (if kK S (kR S l0 53) = 20 ∧ zin ((nI 21) + l1) (kN S (kR S l0 53)) then
 (if kK S (kR S l0 53) = 20 ∧ zin ((nI 35) + (I (kR S l0 53) (zix ((nI 21) + l1)))) (kN S (kR S l0 53)) then
 (if kK S l0 = 12 then
 (if kK S (kR S l0 53) = 20 ∧ zin ((nI 21) + l1) (kN S (kR S l0 53)) then
 (if kK S l0 = 12 then
 (if kK S (kR S l0 53) = 20 ∧ zin ((nI 14) + l1) (kN S (kR S l0 53)) then
 (if kK S l0 = 12 then
 (if kK S (kR S l0 53) = 20 ∧ zin ((nI 7) + l1) (kN S (kR S l0 53)) then
 (evk zcod none d zc_X12_isDown 50 [] [] (S, (uI (uI (uI (uI I (kR S l0 53) (zix ((nI 35) + (I (kR S l0 53) (zix ((nI 21) + l1))))) (-2 : Int32)) (kR S l0 53) (zix ((nI 21) + l1)) (-2 : Int32)) (kR S l0 53) (zix ((nI 14) + l1)) (nI 0)) (kR S l0 53) (zix ((nI 7) + l1)) l2), L)) else none) else none) else none) else none) else none) else none) else none) else none) else none) else none := by
  simpa only [cvN] using R_X12_isDown_0 d S I L l0 l1 l2
set_option maxRecDepth 20000 in
set_option maxHeartbeats 4000000 in
theorem B_X12_isDown_50 (d : Nat) (S : mS) (I : mI) (L : mJ)  :
  evk zcod none d zc_X12_isDown 50 [] [] (S, I, L) =
  some (none, (S, I, L)) :=
  (blk_ok zcod none d zc_X12_isDown [] (50, .return_, 51, [], some []) (by decide +kernel) _ _ _).trans rfl
theorem E_X12_comesUp (d : Nat) (M : zM) (l0 : Nat) (l1 : Int32) : evM zcod (d + 1) 214 [.ref l0, .int l1] M = evk zcod none d zc_X12_comesUp 0 [(0, .ref l0), (1, .int l1)] [] M := evM_eq zcod d 214 _ M (Nat.le_of_ble_eq_true rfl)
set_option maxRecDepth 20000 in
set_option maxHeartbeats 4000000 in
theorem B_X12_comesUp_0 (d : Nat) (S : mS) (I : mI) (L : mJ) (l0 : Nat) (l1 : Int32) :
  evk zcod none d zc_X12_comesUp 0 [(0, .ref l0), (1, .int l1)] [] (S, I, L) =
  if kK S l0 = 12 then
 (if kK S (kR S l0 53) = 20 ∧ zin l1 (kN S (kR S l0 53)) then
 (if kK S l0 = 12 then
 (bI (evM zcod d 211 [.ref l0, .int (I (kR S l0 53) (zix l1))] (S, I, L)) fun x1 M1 =>
 if M1.1.1 = S.1 then
 (if (nI 0) ≤ x1 then
 evk zcod none d zc_X12_comesUp 21 [(0, .ref l0), (1, .int l1), (2, .int x1)] [.int l1, .ref l0] M1
 else
 evk zcod none d zc_X12_comesUp 22 [(0, .ref l0), (1, .int l1), (2, .int x1)] [.int (nI 3), .int l1, .ref l0] M1) else none) else none) else none) else none :=
  (blk_ok zcod none d zc_X12_comesUp [(1, .aload_n 0, 2, [], none), (2, .getfield 125, 5, [12, 53, 2, 642, 0], none), (5, .iload_n 1, 6, [], none), (6, .iaload, 7, [20], none), (7, .invokevirtual 372, 10, [211, 1, 1, 12, 795, 796, 797, 662], none), (10, .istore_n 2, 11, [], none), (11, .aload_n 0, 12, [], none), (12, .iload_n 1, 13, [], none), (13, .iload_n 2, 14, [], none), (14, .ifCond .ge 7, 17, [21], none), (17, .iconst 3, 18, [], none), (18, .goto 4, 21, [22], none)] (0, .aload_n 0, 1, [], none) (by decide +kernel) _ _ _).trans rfl
set_option maxRecDepth 20000 in
set_option maxHeartbeats 4000000 in
theorem B_X12_comesUp_21 (d : Nat) (S : mS) (I : mI) (L : mJ) (l0 : Nat) (l1 : Int32) (l2 : Int32) (s0 : Nat) (s1 : Int32) :
  evk zcod none d zc_X12_comesUp 21 [(0, .ref l0), (1, .int l1), (2, .int l2)] [.int s1, .ref s0] (S, I, L) =
  evk zcod none d zc_X12_comesUp 22 [(0, .ref l0), (1, .int l1), (2, .int l2)] [.int (nI 2), .int s1, .ref s0] (S, I, L) :=
  (blk_ok zcod none d zc_X12_comesUp [] (21, .iconst 2, 22, [], some [0, 1, 2]) (by decide +kernel) _ _ _).trans rfl
set_option maxRecDepth 20000 in
set_option maxHeartbeats 4000000 in
theorem B_X12_comesUp_22 (d : Nat) (S : mS) (I : mI) (L : mJ) (l0 : Nat) (l1 : Int32) (l2 : Int32) (s0 : Nat) (s1 : Int32) (s2 : Int32) :
  evk zcod none d zc_X12_comesUp 22 [(0, .ref l0), (1, .int l1), (2, .int l2)] [.int s2, .int s1, .ref s0] (S, I, L) =
  if kK S s0 = 12 then
 (bV (evM zcod d 213 [.ref s0, .int s1, .int s2] (S, I, L)) fun M1 =>
 if M1.1.1 = S.1 then
 (if (nI 0) ≤ l2 then
 evk zcod none d zc_X12_comesUp 30 [(0, .ref l0), (1, .int l1), (2, .int l2)] [] M1
 else
 some (none, M1)) else none) else none :=
  (blk_ok zcod none d zc_X12_comesUp [(25, .iload_n 2, 26, [], none), (26, .ifCond .ge 4, 29, [30], none), (29, .return_, 30, [], none)] (22, .invokevirtual 375, 25, [213, 2, 0, 12, 798, 799, 800, 662], some [0, 1, 2]) (by decide +kernel) _ _ _).trans rfl
set_option maxRecDepth 20000 in
set_option maxHeartbeats 4000000 in
theorem B_X12_comesUp_30 (d : Nat) (S : mS) (I : mI) (L : mJ) (l0 : Nat) (l1 : Int32) (l2 : Int32) :
  evk zcod none d zc_X12_comesUp 30 [(0, .ref l0), (1, .int l1), (2, .int l2)] [] (S, I, L) =
  if kK S l0 = 12 then
 (if kK S (kR S l0 55) = 20 ∧ zin l2 (kN S (kR S l0 55)) then
 (if kK S (kR S l0 55) = 20 ∧ zin l2 (kN S (kR S l0 55)) then
 (if kK S l0 = 12 then
 (if kK S (kR S l0 53) = 20 ∧ zin ((nI 28) + l1) (kN S (kR S l0 53)) then
 (if kK S l0 = 12 then
 (if kK S (kR S l0 53) = 20 ∧ zin (nI 56) (kN S (kR S l0 53)) then
 (if kK S l0 = 12 then
 (if kK S (kR S l0 58) = 20 ∧ zin l1 (kN S (kR S l0 58)) then
 (if kK S (kR S l0 53) = 20 ∧ zin (nI 56) (kN S (kR S l0 53)) then
 (some (none, (S, (uI (uI (uI I (kR S l0 55) (zix l2) ((I (kR S l0 55) (zix l2)) + (nI 1))) (kR S l0 53) (zix ((nI 28) + l1)) l2) (kR S l0 53) (zix (nI 56)) (((uI (uI I (kR S l0 55) (zix l2) ((I (kR S l0 55) (zix l2)) + (nI 1))) (kR S l0 53) (zix ((nI 28) + l1)) l2) (kR S l0 53) (zix (nI 56))) + ((uI (uI I (kR S l0 55) (zix l2) ((I (kR S l0 55) (zix l2)) + (nI 1))) (kR S l0 53) (zix ((nI 28) + l1)) l2) (kR S l0 58) (zix l1)))), L))) else none) else none) else none) else none) else none) else none) else none) else none) else none) else none :=
  (blk_ok zcod none d zc_X12_comesUp [(31, .getfield 128, 34, [12, 55, 2, 643, 0], none), (34, .iload_n 2, 35, [], none), (35, .dup2, 36, [], none), (36, .iaload, 37, [20], none), (37, .iconst 1, 38, [], none), (38, .iadd, 39, [], none), (39, .iastore, 40, [20], none), (40, .aload_n 0, 41, [], none), (41, .getfield 125, 44, [12, 53, 2, 642, 0], none), (44, .bipush 28, 46, [], none), (46, .iload_n 1, 47, [], none), (47, .iadd, 48, [], none), (48, .iload_n 2, 49, [], none), (49, .iastore, 50, [20], none), (50, .aload_n 0, 51, [], none), (51, .getfield 125, 54, [12, 53, 2, 642, 0], none), (54, .bipush 56, 56, [], none), (56, .dup2, 57, [], none), (57, .iaload, 58, [20], none), (58, .aload_n 0, 59, [], none), (59, .getfield 137, 62, [12, 58, 2, 646, 0], none), (62, .iload_n 1, 63, [], none), (63, .iaload, 64, [20], none), (64, .iadd, 65, [], none), (65, .iastore, 66, [20], none), (66, .return_, 67, [], none)] (30, .aload_n 0, 31, [], some [0, 1, 2]) (by decide +kernel) _ _ _).trans rfl
theorem E_X12_looksOn (d : Nat) (M : zM) (l0 : Nat) (l1 : Int32) (l2 : Int32) (l3 : Int32) : evM zcod (d + 1) 215 [.ref l0, .int l1, .int l2, .int l3] M = evk zcod none d zc_X12_looksOn 0 [(0, .ref l0), (1, .int l1), (2, .int l2), (3, .int l3)] [] M := evM_eq zcod d 215 _ M (Nat.le_of_ble_eq_true rfl)
set_option maxRecDepth 20000 in
set_option maxHeartbeats 4000000 in
theorem B_X12_looksOn_0 (d : Nat) (S : mS) (I : mI) (L : mJ) (l0 : Nat) (l1 : Int32) (l2 : Int32) (l3 : Int32) :
  evk zcod none d zc_X12_looksOn 0 [(0, .ref l0), (1, .int l1), (2, .int l2), (3, .int l3)] [] (S, I, L) =
  if kK S l0 = 12 then
 (if kK S (kR S l0 53) = 20 ∧ zin ((nI 21) + l1) (kN S (kR S l0 53)) then
 (if kK S l0 = 12 then
 (if kK S (kR S l0 53) = 20 ∧ zin (nI 55) (kN S (kR S l0 53)) then
 (if kK S l0 = 12 then
 (if kK S (kR S l0 53) = 20 ∧ zin ((nI 14) + l1) (kN S (kR S l0 53)) then
 (if kK S l0 = 12 then
 (if kK S (kR S l0 53) = 20 ∧ zin l1 (kN S (kR S l0 53)) then
 (if kK S l0 = 12 then
 (bI (evM zcod d 208 [.ref l0, .int (I (kR S l0 53) (zix (nI 55))), .int l2, .int (I (kR S l0 53) (zix ((nI 14) + l1))), .int (I (kR S l0 53) (zix l1))] (S, I, L)) fun x1 M1 =>
 if M1.1.1 = S.1 then
 (if ¬ l3 = (nI 0) then
 evk zcod none d zc_X12_looksOn 48 [(0, .ref l0), (1, .int l1), (2, .int l2), (4, .int (I (kR S l0 53) (zix ((nI 21) + l1)))), (5, .int x1)] [] M1
 else
 evk zcod none d zc_X12_looksOn 67 [(0, .ref l0), (1, .int l1), (2, .int l2), (4, .int (I (kR S l0 53) (zix ((nI 21) + l1)))), (5, .int x1)] [.int (nI 0)] M1) else none) else none) else none) else none) else none) else none) else none) else none) else none) else none :=
  (blk_ok zcod none d zc_X12_looksOn [(1, .getfield 125, 4, [12, 53, 2, 642, 0], none), (4, .bipush 21, 6, [], none), (6, .iload_n 1, 7, [], none), (7, .iadd, 8, [], none), (8, .iaload, 9, [20], none), (9, .istore 4, 11, [], none), (11, .aload_n 0, 12, [], none), (12, .aload_n 0, 13, [], none), (13, .getfield 125, 16, [12, 53, 2, 642, 0], none), (16, .bipush 55, 18, [], none), (18, .iaload, 19, [20], none), (19, .iload_n 2, 20, [], none), (20, .aload_n 0, 21, [], none), (21, .getfield 125, 24, [12, 53, 2, 642, 0], none), (24, .bipush 14, 26, [], none), (26, .iload_n 1, 27, [], none), (27, .iadd, 28, [], none), (28, .iaload, 29, [20], none), (29, .aload_n 0, 30, [], none), (30, .getfield 125, 33, [12, 53, 2, 642, 0], none), (33, .iload_n 1, 34, [], none), (34, .iaload, 35, [20], none), (35, .invokevirtual 378, 38, [208, 4, 1, 12, 801, 802, 803, 662], none), (38, .istore 5, 40, [], none), (40, .iload_n 3, 41, [], none), (41, .ifCond .ne 7, 44, [48], none), (44, .iconst 0, 45, [], none), (45, .goto 22, 48, [67], none)] (0, .aload_n 0, 1, [], none) (by decide +kernel) _ _ _).trans rfl
set_option maxRecDepth 20000 in
set_option maxHeartbeats 4000000 in
theorem B_X12_looksOn_48 (d : Nat) (S : mS) (I : mI) (L : mJ) (l0 : Nat) (l1 : Int32) (l2 : Int32) (l4 : Int32) (l5 : Int32) :
  evk zcod none d zc_X12_looksOn 48 [(0, .ref l0), (1, .int l1), (2, .int l2), (4, .int l4), (5, .int l5)] [] (S, I, L) =
  if l5 ≤ (nI 0) then
 evk zcod none d zc_X12_looksOn 57 [(0, .ref l0), (1, .int l1), (2, .int l2), (4, .int l4), (5, .int l5)] [] (S, I, L)
 else
 evk zcod none d zc_X12_looksOn 67 [(0, .ref l0), (1, .int l1), (2, .int l2), (4, .int l4), (5, .int l5)] [.int (nI 1)] (S, I, L) :=
  (blk_ok zcod none d zc_X12_looksOn [(50, .ifCond .le 7, 53, [57], none), (53, .iconst 1, 54, [], none), (54, .goto 13, 57, [67], none)] (48, .iload 5, 50, [], some [0, 1, 2, 4, 5]) (by decide +kernel) _ _ _).trans rfl
set_option maxRecDepth 20000 in
set_option maxHeartbeats 4000000 in
theorem R_X12_looksOn_57 (d : Nat) (S : mS) (I : mI) (L : mJ) (l0 : Nat) (l1 : Int32) (l2 : Int32) (l4 : Int32) (l5 : Int32) :
  evk zcod none d zc_X12_looksOn 57 [(0, .ref l0), (1, .int l1), (2, .int l2), (4, .int l4), (5, .int l5)] [] (S, I, L) =
  if (nI 0) ≤ l5 then
 evk zcod none d zc_X12_looksOn 66 [(0, .ref l0), (1, .int l1), (2, .int l2), (4, .int l4), (5, .int l5)] [] (S, I, L)
 else
 evk zcod none d zc_X12_looksOn 67 [(0, .ref l0), (1, .int l1), (2, .int l2), (4, .int l4), (5, .int l5)] [.int (Int32.ofInt (-1))] (S, I, L) :=
  (blk_ok zcod none d zc_X12_looksOn [(59, .ifCond .ge 7, 62, [66], none), (62, .iconst (-1), 63, [], none), (63, .goto 4, 66, [67], none)] (57, .iload 5, 59, [], some [0, 1, 2, 4, 5]) (by decide +kernel) _ _ _).trans rfl
theorem B_X12_looksOn_57 (d : Nat) (S : mS) (I : mI) (L : mJ) (l0 : Nat) (l1 : Int32) (l2 : Int32) (l4 : Int32) (l5 : Int32) :
  evk zcod none d zc_X12_looksOn 57 [(0, .ref l0), (1, .int l1), (2, .int l2), (4, .int l4), (5, .int l5)] [] (S, I, L) =
  if (nI 0) ≤ l5 then
 evk zcod none d zc_X12_looksOn 66 [(0, .ref l0), (1, .int l1), (2, .int l2), (4, .int l4), (5, .int l5)] [] (S, I, L)
 else
 evk zcod none d zc_X12_looksOn 67 [(0, .ref l0), (1, .int l1), (2, .int l2), (4, .int l4), (5, .int l5)] [.int (-1 : Int32)] (S, I, L) := by
  simpa only [cvN] using R_X12_looksOn_57 d S I L l0 l1 l2 l4 l5
set_option maxRecDepth 20000 in
set_option maxHeartbeats 4000000 in
theorem B_X12_looksOn_66 (d : Nat) (S : mS) (I : mI) (L : mJ) (l0 : Nat) (l1 : Int32) (l2 : Int32) (l4 : Int32) (l5 : Int32) :
  evk zcod none d zc_X12_looksOn 66 [(0, .ref l0), (1, .int l1), (2, .int l2), (4, .int l4), (5, .int l5)] [] (S, I, L) =
  evk zcod none d zc_X12_looksOn 67 [(0, .ref l0), (1, .int l1), (2, .int l2), (4, .int l4), (5, .int l5)] [.int (nI 0)] (S, I, L) :=
  (blk_ok zcod none d zc_X12_looksOn [] (66, .iconst 0, 67, [], some [0, 1, 2, 4, 5]) (by decide +kernel) _ _ _).trans rfl
set_option maxRecDepth 20000 in
set_option maxHeartbeats 4000000 in
theorem B_X12_looksOn_67 (d : Nat) (S : mS) (I : mI) (L : mJ) (l0 : Nat) (l1 : Int32) (l2 : Int32) (l4 : Int32) (l5 : Int32) (s0 : Int32) :
  evk zcod none d zc_X12_looksOn 67 [(0, .ref l0), (1, .int l1), (2, .int l2), (4, .int l4), (5, .int l5)] [.int s0] (S, I, L) =
  if kK S l0 = 12 then
 (if kK S l0 = 12 then
 (if kK S (kR S l0 53) = 20 ∧ zin ((nI 14) + l1) (kN S (kR S l0 53)) then
 (if kK S l0 = 12 then
 (if kK S (kR S l0 53) = 20 ∧ zin (nI 55) (kN S (kR S l0 53)) then
 (if kK S l0 = 12 then
 (if kK S l0 = 12 then
 (if kK S (kR S l0 27) = 20 ∧ zin (((nI 5) * (I l0 18)) + l4) (kN S (kR S l0 27)) then
 (if kK S l0 = 12 then
 (if kK S l0 = 12 then
 (if kK S (kR S l0 24) = 20 ∧ zin (((nI 7) * (I l0 18)) + l1) (kN S (kR S l0 24)) then
 (if kK S l0 = 12 then
 (if kK S (kR S l0 53) = 20 ∧ zin ((nI 14) + l1) (kN S (kR S l0 53)) then
 (if kK S l0 = 12 then
 (if kK S (kR S l0 53) = 20 ∧ zin l1 (kN S (kR S l0 53)) then
 (if kK S l0 = 12 then
 (bI (evM zcod d 207 [.ref l0, .int (I (kR S l0 53) (zix (nI 55))), .int l2, .int (I (kR S l0 27) (zix (((nI 5) * (I l0 18)) + l4))), .int (I (kR S l0 24) (zix (((nI 7) * (I l0 18)) + l1))), .int (I (kR S l0 53) (zix ((nI 14) + l1))), .int (I (kR S l0 53) (zix l1))] (S, I, L)) fun x1 M1 =>
 if M1.1.1 = S.1 then
 (if kK M1.1 (kR S l0 56) = 20 ∧ zin l1 (kN M1.1 (kR S l0 56)) then
 (if kK M1.1 l0 = 12 then
 (if kK M1.1 l0 = 12 then
 (if kK M1.1 (kR M1.1 l0 53) = 20 ∧ zin l1 (kN M1.1 (kR M1.1 l0 53)) then
 (if kK M1.1 l0 = 12 then
 (if kK M1.1 (kR M1.1 l0 53) = 20 ∧ zin ((nI 40) + l4) (kN M1.1 (kR M1.1 l0 53)) then
 (bI (evM zcod d 192 [.int (((((uI M1.2.1 (kR S l0 56) (zix l1) ((I (kR S l0 53) (zix ((nI 14) + l1))) + x1)) (kR M1.1 l0 53) (zix l1)) + ((uI M1.2.1 (kR S l0 56) (zix l1) ((I (kR S l0 53) (zix ((nI 14) + l1))) + x1)) (kR M1.1 l0 53) (zix ((nI 40) + l4)))) + l5) + s0), .int (nI 0), .int (nI 19)] (M1.1, (uI M1.2.1 (kR S l0 56) (zix l1) ((I (kR S l0 53) (zix ((nI 14) + l1))) + x1)), M1.2.2)) fun x2 M2 =>
 if M2.1.1 = M1.1.1 then
 (if kK M2.1 (kR M1.1 l0 57) = 20 ∧ zin l1 (kN M2.1 (kR M1.1 l0 57)) then
 (evk zcod none d zc_X12_looksOn 175 [(0, .ref l0), (1, .int l1), (2, .int l2)] [] (M2.1, (uI M2.2.1 (kR M1.1 l0 57) (zix l1) x2), M2.2.2)) else none) else none) else none) else none) else none) else none) else none) else none) else none) else none) else none) else none) else none) else none) else none) else none) else none) else none) else none) else none) else none) else none) else none) else none) else none :=
  (blk_ok zcod none d zc_X12_looksOn [(69, .aload_n 0, 70, [], none), (70, .getfield 131, 73, [12, 56, 2, 644, 0], none), (73, .iload_n 1, 74, [], none), (74, .aload_n 0, 75, [], none), (75, .getfield 125, 78, [12, 53, 2, 642, 0], none), (78, .bipush 14, 80, [], none), (80, .iload_n 1, 81, [], none), (81, .iadd, 82, [], none), (82, .iaload, 83, [20], none), (83, .aload_n 0, 84, [], none), (84, .aload_n 0, 85, [], none), (85, .getfield 125, 88, [12, 53, 2, 642, 0], none), (88, .bipush 55, 90, [], none), (90, .iaload, 91, [20], none), (91, .iload_n 2, 92, [], none), (92, .aload_n 0, 93, [], none), (93, .getfield 58, 96, [12, 27, 2, 619, 0], none), (96, .iconst 5, 97, [], none), (97, .aload_n 0, 98, [], none), (98, .getfield 257, 101, [12, 18, 0, 711, 0], none), (101, .imul, 102, [], none), (102, .iload 4, 104, [], none), (104, .iadd, 105, [], none), (105, .iaload, 106, [20], none), (106, .aload_n 0, 107, [], none), (107, .getfield 49, 110, [12, 24, 2, 616, 0], none), (110, .bipush 7, 112, [], none), (112, .aload_n 0, 113, [], none), (113, .getfield 257, 116, [12, 18, 0, 711, 0], none), (116, .imul, 117, [], none), (117, .iload_n 1, 118, [], none), (118, .iadd, 119, [], none), (119, .iaload, 120, [20], none), (120, .aload_n 0, 121, [], none), (121, .getfield 125, 124, [12, 53, 2, 642, 0], none), (124, .bipush 14, 126, [], none), (126, .iload_n 1, 127, [], none), (127, .iadd, 128, [], none), (128, .iaload, 129, [20], none), (129, .aload_n 0, 130, [], none), (130, .getfield 125, 133, [12, 53, 2, 642, 0], none), (133, .iload_n 1, 134, [], none), (134, .iaload, 135, [20], none), (135, .invokevirtual 382, 138, [207, 6, 1, 12, 804, 805, 806, 662], none), (138, .iadd, 139, [], none), (139, .iastore, 140, [20], none), (140, .aload_n 0, 141, [], none), (141, .getfield 134, 144, [12, 57, 2, 645, 0], none), (144, .iload_n 1, 145, [], none), (145, .aload_n 0, 146, [], none), (146, .getfield 125, 149, [12, 53, 2, 642, 0], none), (149, .iload_n 1, 150, [], none), (150, .iaload, 151, [20], none), (151, .aload_n 0, 152, [], none), (152, .getfield 125, 155, [12, 53, 2, 642, 0], none), (155, .bipush 40, 157, [], none), (157, .iload 4, 159, [], none), (159, .iadd, 160, [], none), (160, .iaload, 161, [20], none), (161, .iadd, 162, [], none), (162, .iload 5, 164, [], none), (164, .iadd, 165, [], none), (165, .iload 6, 167, [], none), (167, .iadd, 168, [], none), (168, .iconst 0, 169, [], none), (169, .bipush 19, 171, [], none), (171, .invokestatic 366, 174, [192, 3, 1, 0, 791, 792, 662], none), (174, .iastore, 175, [20], none)] (67, .istore 6, 69, [], some [0, 1, 2, 4, 5]) (by decide +kernel) _ _ _).trans rfl
set_option maxRecDepth 20000 in
set_option maxHeartbeats 4000000 in
theorem B_X12_looksOn_175 (d : Nat) (S : mS) (I : mI) (L : mJ) (l0 : Nat) (l1 : Int32) (l2 : Int32) :
  evk zcod none d zc_X12_looksOn 175 [(0, .ref l0), (1, .int l1), (2, .int l2)] [] (S, I, L) =
  if kK S l0 = 12 then
 (if kK S l0 = 12 then
 (if kK S (kR S l0 53) = 20 ∧ zin (nI 55) (kN S (kR S l0 53)) then
 (if kK S l0 = 12 then
 (bI (evM zcod d 210 [.ref l0, .int (I (kR S l0 53) (zix (nI 55))), .int l2, .int l1] (S, I, L)) fun x1 M1 =>
 if M1.1.1 = S.1 then
 (if kK M1.1 (kR S l0 58) = 20 ∧ zin l1 (kN M1.1 (kR S l0 58)) then
 (some (none, (M1.1, (uI M1.2.1 (kR S l0 58) (zix l1) x1), M1.2.2))) else none) else none) else none) else none) else none) else none :=
  (blk_ok zcod none d zc_X12_looksOn [(176, .getfield 137, 179, [12, 58, 2, 646, 0], none), (179, .iload_n 1, 180, [], none), (180, .aload_n 0, 181, [], none), (181, .aload_n 0, 182, [], none), (182, .getfield 125, 185, [12, 53, 2, 642, 0], none), (185, .bipush 55, 187, [], none), (187, .iaload, 188, [20], none), (188, .iload_n 2, 189, [], none), (189, .iload_n 1, 190, [], none), (190, .invokevirtual 386, 193, [210, 3, 1, 12, 807, 808, 809, 662], none), (193, .iastore, 194, [20], none), (194, .return_, 195, [], none)] (175, .aload_n 0, 176, [], some [0, 1, 2]) (by decide +kernel) _ _ _).trans rfl
theorem E_X12_hourGoes (d : Nat) (M : zM) (l0 : Nat) : evM zcod (d + 1) 216 [.ref l0] M = evk zcod none d zc_X12_hourGoes 0 [(0, .ref l0)] [] M := evM_eq zcod d 216 _ M (Nat.le_of_ble_eq_true rfl)
set_option maxRecDepth 20000 in
set_option maxHeartbeats 4000000 in
theorem B_X12_hourGoes_0 (d : Nat) (S : mS) (I : mI) (L : mJ) (l0 : Nat) :
  evk zcod none d zc_X12_hourGoes 0 [(0, .ref l0)] [] (S, I, L) =
  if kK S l0 = 12 then
 (bI (evM zcod d 203 [.ref l0, .int (nI 1)] (S, I, L)) fun x1 M1 =>
 if M1.1.1 = S.1 then
 (bI (evM zcod d 193 [.int x1] M1) fun x2 M2 =>
 if M2.1.1 = M1.1.1 then
 (if kK M2.1 l0 = 12 then
 (bI (evM zcod d 202 [.ref l0] M2) fun x3 M3 =>
 if M3.1.1 = M2.1.1 then
 (if kK M3.1 l0 = 12 then
 (bV (evM zcod d 212 [.ref l0] M3) fun M4 =>
 if M4.1.1 = M3.1.1 then
 (evk zcod none d zc_X12_hourGoes 20 [(0, .ref l0), (1, .int x1), (2, .int x2), (3, .int x3)] [] M4) else none) else none) else none) else none) else none) else none) else none :=
  (blk_ok zcod none d zc_X12_hourGoes [(1, .iconst 1, 2, [], none), (2, .invokevirtual 351, 5, [203, 1, 1, 12, 777, 778, 779, 662], none), (5, .istore_n 1, 6, [], none), (6, .iload_n 1, 7, [], none), (7, .invokestatic 354, 10, [193, 1, 1, 0, 780, 781, 662], none), (10, .istore_n 2, 11, [], none), (11, .aload_n 0, 12, [], none), (12, .invokevirtual 389, 15, [202, 0, 1, 12, 810, 811, 812, 662], none), (15, .istore_n 3, 16, [], none), (16, .aload_n 0, 17, [], none), (17, .invokevirtual 393, 20, [212, 0, 0, 12, 813, 814, 815, 662], none)] (0, .aload_n 0, 1, [], none) (by decide +kernel) _ _ _).trans rfl
set_option maxRecDepth 20000 in
set_option maxHeartbeats 4000000 in
theorem B_X12_hourGoes_20 (d : Nat) (S : mS) (I : mI) (L : mJ) (l0 : Nat) (l1 : Int32) (l2 : Int32) (l3 : Int32) :
  evk zcod none d zc_X12_hourGoes 20 [(0, .ref l0), (1, .int l1), (2, .int l2), (3, .int l3)] [] (S, I, L) =
  evk zcod none d zc_X12_hourGoes 23 [(0, .ref l0), (1, .int l1), (2, .int l2), (3, .int l3), (4, .int (nI 0))] [] (S, I, L) :=
  (blk_ok zcod none d zc_X12_hourGoes [(21, .istore 4, 23, [], none)] (20, .iconst 0, 21, [], some [0, 1, 2, 3]) (by decide +kernel) _ _ _).trans rfl
set_option maxRecDepth 20000 in
set_option maxHeartbeats 4000000 in
theorem B_X12_hourGoes_23 (d : Nat) (S : mS) (I : mI) (L : mJ) (l0 : Nat) (l1 : Int32) (l2 : Int32) (l3 : Int32) (l4 : Int32) :
  evk zcod none d zc_X12_hourGoes 23 [(0, .ref l0), (1, .int l1), (2, .int l2), (3, .int l3), (4, .int l4)] [] (S, I, L) =
  if kK S l0 = 12 then
 (if kK S l0 = 12 then
 (if kK S (kR S l0 22) = 20 ∧ zin (I l0 18) (kN S (kR S l0 22)) then
 (if (I (kR S l0 22) (zix (I l0 18))) ≤ l4 then
 evk zcod none d zc_X12_hourGoes 61 [(0, .ref l0), (1, .int l1)] [] (S, I, L)
 else
 if ¬ ((l1 >>> (l4 &&& nI 31)) &&& (nI 1)) = (nI 1) then
 evk zcod none d zc_X12_hourGoes 55 [(0, .ref l0), (1, .int l1), (2, .int l2), (3, .int l3), (4, .int l4)] [] (S, I, L)
 else
 if kK S l0 = 12 then
 (bV (evM zcod d 215 [.ref l0, .int l4, .int l2, .int l3] (S, I, L)) fun M1 =>
 if M1.1.1 = S.1 then
 (evk zcod none d zc_X12_hourGoes 55 [(0, .ref l0), (1, .int l1), (2, .int l2), (3, .int l3), (4, .int l4)] [] M1) else none) else none) else none) else none) else none :=
  (blk_ok zcod none d zc_X12_hourGoes [(25, .aload_n 0, 26, [], none), (26, .getfield 43, 29, [12, 22, 2, 614, 0], none), (29, .aload_n 0, 30, [], none), (30, .getfield 257, 33, [12, 18, 0, 711, 0], none), (33, .iaload, 34, [20], none), (34, .if_icmp .ge 27, 37, [61], none), (37, .iload_n 1, 38, [], none), (38, .iload 4, 40, [], none), (40, .ishr, 41, [], none), (41, .iconst 1, 42, [], none), (42, .iand, 43, [], none), (43, .iconst 1, 44, [], none), (44, .if_icmp .ne 11, 47, [55], none), (47, .aload_n 0, 48, [], none), (48, .iload 4, 50, [], none), (50, .iload_n 2, 51, [], none), (51, .iload_n 3, 52, [], none), (52, .invokevirtual 396, 55, [215, 3, 0, 12, 816, 817, 818, 662], none)] (23, .iload 4, 25, [], some [0, 1, 2, 3, 4]) (by decide +kernel) _ _ _).trans rfl
set_option maxRecDepth 20000 in
set_option maxHeartbeats 4000000 in
theorem B_X12_hourGoes_55 (d : Nat) (S : mS) (I : mI) (L : mJ) (l0 : Nat) (l1 : Int32) (l2 : Int32) (l3 : Int32) (l4 : Int32) :
  evk zcod none d zc_X12_hourGoes 55 [(0, .ref l0), (1, .int l1), (2, .int l2), (3, .int l3), (4, .int l4)] [] (S, I, L) =
  evk zcod none d zc_X12_hourGoes 23 [(0, .ref l0), (1, .int l1), (2, .int l2), (3, .int l3), (4, .int (l4 + (nI 1)))] [] (S, I, L) :=
  (blk_ok zcod none d zc_X12_hourGoes [(58, .goto (-35), 61, [23], none)] (55, .iinc 4 1, 58, [], some [0, 1, 2, 3, 4]) (by decide +kernel) _ _ _).trans rfl
set_option maxRecDepth 20000 in
set_option maxHeartbeats 4000000 in
theorem B_X12_hourGoes_61 (d : Nat) (S : mS) (I : mI) (L : mJ) (l0 : Nat) (l1 : Int32) :
  evk zcod none d zc_X12_hourGoes 61 [(0, .ref l0), (1, .int l1)] [] (S, I, L) =
  evk zcod none d zc_X12_hourGoes 64 [(0, .ref l0), (1, .int l1), (4, .int (nI 0))] [] (S, I, L) :=
  (blk_ok zcod none d zc_X12_hourGoes [(62, .istore 4, 64, [], none)] (61, .iconst 0, 62, [], some [0, 1]) (by decide +kernel) _ _ _).trans rfl
set_option maxRecDepth 20000 in
set_option maxHeartbeats 4000000 in
theorem B_X12_hourGoes_64 (d : Nat) (S : mS) (I : mI) (L : mJ) (l0 : Nat) (l1 : Int32) (l4 : Int32) :
  evk zcod none d zc_X12_hourGoes 64 [(0, .ref l0), (1, .int l1), (4, .int l4)] [] (S, I, L) =
  if kK S l0 = 12 then
 (if kK S l0 = 12 then
 (if kK S (kR S l0 22) = 20 ∧ zin (I l0 18) (kN S (kR S l0 22)) then
 (if (I (kR S l0 22) (zix (I l0 18))) ≤ l4 then
 evk zcod none d zc_X12_hourGoes 172 [(0, .ref l0)] [] (S, I, L)
 else
 if ¬ ((l1 >>> (l4 &&& nI 31)) &&& (nI 1)) = (nI 0) then
 evk zcod none d zc_X12_hourGoes 90 [(0, .ref l0), (1, .int l1), (4, .int l4)] [] (S, I, L)
 else
 evk zcod none d zc_X12_hourGoes 166 [(0, .ref l0), (1, .int l1), (4, .int l4)] [] (S, I, L)) else none) else none) else none :=
  (blk_ok zcod none d zc_X12_hourGoes [(66, .aload_n 0, 67, [], none), (67, .getfield 43, 70, [12, 22, 2, 614, 0], none), (70, .aload_n 0, 71, [], none), (71, .getfield 257, 74, [12, 18, 0, 711, 0], none), (74, .iaload, 75, [20], none), (75, .if_icmp .ge 97, 78, [172], none), (78, .iload_n 1, 79, [], none), (79, .iload 4, 81, [], none), (81, .ishr, 82, [], none), (82, .iconst 1, 83, [], none), (83, .iand, 84, [], none), (84, .ifCond .ne 6, 87, [90], none), (87, .goto 79, 90, [166], none)] (64, .iload 4, 66, [], some [0, 1, 4]) (by decide +kernel) _ _ _).trans rfl
set_option maxRecDepth 20000 in
set_option maxHeartbeats 4000000 in
theorem B_X12_hourGoes_90 (d : Nat) (S : mS) (I : mI) (L : mJ) (l0 : Nat) (l1 : Int32) (l4 : Int32) :
  evk zcod none d zc_X12_hourGoes 90 [(0, .ref l0), (1, .int l1), (4, .int l4)] [] (S, I, L) =
  if kK S l0 = 12 then
 (if kK S l0 = 12 then
 (if kK S (kR S l0 57) = 20 ∧ zin l4 (kN S (kR S l0 57)) then
 (if kK S (kR S l0 53) = 20 ∧ zin l4 (kN S (kR S l0 53)) then
 (if kK S l0 = 12 then
 (if kK S l0 = 12 then
 (if kK S (kR S l0 56) = 20 ∧ zin l4 (kN S (kR S l0 56)) then
 (if kK S (kR S l0 53) = 20 ∧ zin ((nI 14) + l4) (kN S (kR S l0 53)) then
 (if kK S l0 = 12 then
 (if kK S (kR S l0 56) = 20 ∧ zin l4 (kN S (kR S l0 56)) then
 (if kK S l0 = 12 then
 (if kK S l0 = 12 then
 (if kK S (kR S l0 33) = 20 ∧ zin ((uI (uI I (kR S l0 53) (zix l4) (I (kR S l0 57) (zix l4))) (kR S l0 53) (zix ((nI 14) + l4)) ((uI I (kR S l0 53) (zix l4) (I (kR S l0 57) (zix l4))) (kR S l0 56) (zix l4))) l0 18) (kN S (kR S l0 33)) then
 (if ((uI (uI I (kR S l0 53) (zix l4) (I (kR S l0 57) (zix l4))) (kR S l0 53) (zix ((nI 14) + l4)) ((uI I (kR S l0 53) (zix l4) (I (kR S l0 57) (zix l4))) (kR S l0 56) (zix l4))) (kR S l0 56) (zix l4)) < ((uI (uI I (kR S l0 53) (zix l4) (I (kR S l0 57) (zix l4))) (kR S l0 53) (zix ((nI 14) + l4)) ((uI I (kR S l0 53) (zix l4) (I (kR S l0 57) (zix l4))) (kR S l0 56) (zix l4))) (kR S l0 33) (zix ((uI (uI I (kR S l0 53) (zix l4) (I (kR S l0 57) (zix l4))) (kR S l0 53) (zix ((nI 14) + l4)) ((uI I (kR S l0 53) (zix l4) (I (kR S l0 57) (zix l4))) (kR S l0 56) (zix l4))) l0 18))) then
 evk zcod none d zc_X12_hourGoes 149 [(0, .ref l0), (1, .int l1), (4, .int l4)] [] (S, (uI (uI I (kR S l0 53) (zix l4) (I (kR S l0 57) (zix l4))) (kR S l0 53) (zix ((nI 14) + l4)) ((uI I (kR S l0 53) (zix l4) (I (kR S l0 57) (zix l4))) (kR S l0 56) (zix l4))), L)
 else
 if kK S l0 = 12 then
 (bV (evM zcod d 214 [.ref l0, .int l4] (S, (uI (uI I (kR S l0 53) (zix l4) (I (kR S l0 57) (zix l4))) (kR S l0 53) (zix ((nI 14) + l4)) ((uI I (kR S l0 53) (zix l4) (I (kR S l0 57) (zix l4))) (kR S l0 56) (zix l4))), L)) fun M1 =>
 if M1.1.1 = S.1 then
 (evk zcod none d zc_X12_hourGoes 166 [(0, .ref l0), (1, .int l1), (4, .int l4)] [] M1) else none) else none) else none) else none) else none) else none) else none) else none) else none) else none) else none) else none) else none) else none) else none :=
  (blk_ok zcod none d zc_X12_hourGoes [(91, .getfield 125, 94, [12, 53, 2, 642, 0], none), (94, .iload 4, 96, [], none), (96, .aload_n 0, 97, [], none), (97, .getfield 134, 100, [12, 57, 2, 645, 0], none), (100, .iload 4, 102, [], none), (102, .iaload, 103, [20], none), (103, .iastore, 104, [20], none), (104, .aload_n 0, 105, [], none), (105, .getfield 125, 108, [12, 53, 2, 642, 0], none), (108, .bipush 14, 110, [], none), (110, .iload 4, 112, [], none), (112, .iadd, 113, [], none), (113, .aload_n 0, 114, [], none), (114, .getfield 131, 117, [12, 56, 2, 644, 0], none), (117, .iload 4, 119, [], none), (119, .iaload, 120, [20], none), (120, .iastore, 121, [20], none), (121, .aload_n 0, 122, [], none), (122, .getfield 131, 125, [12, 56, 2, 644, 0], none), (125, .iload 4, 127, [], none), (127, .iaload, 128, [20], none), (128, .aload_n 0, 129, [], none), (129, .getfield 76, 132, [12, 33, 2, 625, 0], none), (132, .aload_n 0, 133, [], none), (133, .getfield 257, 136, [12, 18, 0, 711, 0], none), (136, .iaload, 137, [20], none), (137, .if_icmp .lt 12, 140, [149], none), (140, .aload_n 0, 141, [], none), (141, .iload 4, 143, [], none), (143, .invokevirtual 400, 146, [214, 1, 0, 12, 819, 820, 821, 662], none), (146, .goto 20, 149, [166], none)] (90, .aload_n 0, 91, [], some [0, 1, 4]) (by decide +kernel) _ _ _).trans rfl
set_option maxRecDepth 20000 in
set_option maxHeartbeats 4000000 in
theorem B_X12_hourGoes_149 (d : Nat) (S : mS) (I : mI) (L : mJ) (l0 : Nat) (l1 : Int32) (l4 : Int32) :
  evk zcod none d zc_X12_hourGoes 149 [(0, .ref l0), (1, .int l1), (4, .int l4)] [] (S, I, L) =
  if kK S l0 = 12 then
 (if kK S (kR S l0 56) = 20 ∧ zin l4 (kN S (kR S l0 56)) then
 (if (nI 0) < (I (kR S l0 56) (zix l4)) then
 evk zcod none d zc_X12_hourGoes 166 [(0, .ref l0), (1, .int l1), (4, .int l4)] [] (S, I, L)
 else
 if kK S l0 = 12 then
 (bV (evM zcod d 213 [.ref l0, .int l4, .int (nI 0)] (S, I, L)) fun M1 =>
 if M1.1.1 = S.1 then
 (evk zcod none d zc_X12_hourGoes 166 [(0, .ref l0), (1, .int l1), (4, .int l4)] [] M1) else none) else none) else none) else none :=
  (blk_ok zcod none d zc_X12_hourGoes [(150, .getfield 131, 153, [12, 56, 2, 644, 0], none), (153, .iload 4, 155, [], none), (155, .iaload, 156, [20], none), (156, .ifCond .gt 10, 159, [166], none), (159, .aload_n 0, 160, [], none), (160, .iload 4, 162, [], none), (162, .iconst 0, 163, [], none), (163, .invokevirtual 375, 166, [213, 2, 0, 12, 798, 799, 800, 662], none)] (149, .aload_n 0, 150, [], some [0, 1, 4]) (by decide +kernel) _ _ _).trans rfl
set_option maxRecDepth 20000 in
set_option maxHeartbeats 4000000 in
theorem B_X12_hourGoes_166 (d : Nat) (S : mS) (I : mI) (L : mJ) (l0 : Nat) (l1 : Int32) (l4 : Int32) :
  evk zcod none d zc_X12_hourGoes 166 [(0, .ref l0), (1, .int l1), (4, .int l4)] [] (S, I, L) =
  evk zcod none d zc_X12_hourGoes 64 [(0, .ref l0), (1, .int l1), (4, .int (l4 + (nI 1)))] [] (S, I, L) :=
  (blk_ok zcod none d zc_X12_hourGoes [(169, .goto (-105), 172, [64], none)] (166, .iinc 4 1, 169, [], some [0, 1, 4]) (by decide +kernel) _ _ _).trans rfl
set_option maxRecDepth 20000 in
set_option maxHeartbeats 4000000 in
theorem B_X12_hourGoes_172 (d : Nat) (S : mS) (I : mI) (L : mJ) (l0 : Nat) :
  evk zcod none d zc_X12_hourGoes 172 [(0, .ref l0)] [] (S, I, L) =
  if kK S l0 = 12 then
 (if kK S (kR S l0 53) = 20 ∧ zin (nI 55) (kN S (kR S l0 53)) then
 (if kK S (kR S l0 53) = 20 ∧ zin (nI 55) (kN S (kR S l0 53)) then
 (some (none, (S, (uI I (kR S l0 53) (zix (nI 55)) ((I (kR S l0 53) (zix (nI 55))) + (nI 1))), L))) else none) else none) else none :=
  (blk_ok zcod none d zc_X12_hourGoes [(173, .getfield 125, 176, [12, 53, 2, 642, 0], none), (176, .bipush 55, 178, [], none), (178, .dup2, 179, [], none), (179, .iaload, 180, [20], none), (180, .iconst 1, 181, [], none), (181, .iadd, 182, [], none), (182, .iastore, 183, [20], none), (183, .return_, 184, [], none)] (172, .aload_n 0, 173, [], some [0]) (by decide +kernel) _ _ _).trans rfl
theorem E_X12_goes (d : Nat) (M : zM) (l0 : Nat) (l1 : Int32) : evM zcod (d + 1) 217 [.ref l0, .int l1] M = evk zcod none d zc_X12_goes 0 [(0, .ref l0), (1, .int l1)] [] M := evM_eq zcod d 217 _ M (Nat.le_of_ble_eq_true rfl)
set_option maxRecDepth 20000 in
set_option maxHeartbeats 4000000 in
theorem B_X12_goes_0 (d : Nat) (S : mS) (I : mI) (L : mJ) (l0 : Nat) (l1 : Int32) :
  evk zcod none d zc_X12_goes 0 [(0, .ref l0), (1, .int l1)] [] (S, I, L) =
  evk zcod none d zc_X12_goes 2 [(0, .ref l0), (1, .int l1), (2, .int (nI 0))] [] (S, I, L) :=
  (blk_ok zcod none d zc_X12_goes [(1, .istore_n 2, 2, [], none)] (0, .iconst 0, 1, [], none) (by decide +kernel) _ _ _).trans rfl
set_option maxRecDepth 20000 in
set_option maxHeartbeats 4000000 in
theorem B_X12_goes_2 (d : Nat) (S : mS) (I : mI) (L : mJ) (l0 : Nat) (l1 : Int32) (l2 : Int32) :
  evk zcod none d zc_X12_goes 2 [(0, .ref l0), (1, .int l1), (2, .int l2)] [] (S, I, L) =
  if l1 ≤ l2 then
 evk zcod none d zc_X12_goes 17 [] [] (S, I, L)
 else
 if kK S l0 = 12 then
 (bV (evM zcod d 216 [.ref l0] (S, I, L)) fun M1 =>
 if M1.1.1 = S.1 then
 (evk zcod none d zc_X12_goes 2 [(0, .ref l0), (1, .int l1), (2, .int (l2 + (nI 1)))] [] M1) else none) else none :=
  (blk_ok zcod none d zc_X12_goes [(3, .iload_n 1, 4, [], none), (4, .if_icmp .ge 13, 7, [17], none), (7, .aload_n 0, 8, [], none), (8, .invokevirtual 403, 11, [216, 0, 0, 12, 822, 823, 824, 662], none), (11, .iinc 2 1, 14, [], none), (14, .goto (-12), 17, [2], none)] (2, .iload_n 2, 3, [], some [0, 1, 2]) (by decide +kernel) _ _ _).trans rfl
set_option maxRecDepth 20000 in
set_option maxHeartbeats 4000000 in
theorem B_X12_goes_17 (d : Nat) (S : mS) (I : mI) (L : mJ)  :
  evk zcod none d zc_X12_goes 17 [] [] (S, I, L) =
  some (none, (S, I, L)) :=
  (blk_ok zcod none d zc_X12_goes [] (17, .return_, 18, [], some []) (by decide +kernel) _ _ _).trans rfl
theorem E_X12_load (d : Nat) (M : zM) (l0 : Nat) (l1 : Int32) (l2 : Int32) : evM zcod (d + 1) 218 [.ref l0, .int l1, .int l2] M = evk zcod none d zc_X12_load 0 [(0, .ref l0), (1, .int l1), (2, .int l2)] [] M := evM_eq zcod d 218 _ M (Nat.le_of_ble_eq_true rfl)
set_option maxRecDepth 20000 in
set_option maxHeartbeats 4000000 in
theorem R_X12_load_0 (d : Nat) (S : mS) (I : mI) (L : mJ) (l0 : Nat) (l1 : Int32) (l2 : Int32) :
  evk zcod none d zc_X12_load 0 [(0, .ref l0), (1, .int l1), (2, .int l2)] [] (S, I, L) =
  if kK S l0 = 12 then
 (bI (evM zcod d 195 [.ref l0, .int l1] (S, I, L)) fun x1 M1 =>
 if M1.1.1 = S.1 then
 (if ¬ x1 = (nI 0) then
 evk zcod none d zc_X12_load 10 [(0, .ref l0), (1, .int l1), (2, .int l2)] [] M1
 else
 some (some (.int (Int32.ofInt (-1))), M1)) else none) else none :=
  (blk_ok zcod none d zc_X12_load [(1, .iload_n 1, 2, [], none), (2, .invokevirtual 406, 5, [195, 1, 1, 12, 825, 826, 827, 662], none), (5, .ifCond .ne 5, 8, [10], none), (8, .iconst (-1), 9, [], none), (9, .ireturn, 10, [0], none)] (0, .aload_n 0, 1, [], none) (by decide +kernel) _ _ _).trans rfl
theorem B_X12_load_0 (d : Nat) (S : mS) (I : mI) (L : mJ) (l0 : Nat) (l1 : Int32) (l2 : Int32) :
  evk zcod none d zc_X12_load 0 [(0, .ref l0), (1, .int l1), (2, .int l2)] [] (S, I, L) =
  if kK S l0 = 12 then
 (bI (evM zcod d 195 [.ref l0, .int l1] (S, I, L)) fun x1 M1 =>
 if M1.1.1 = S.1 then
 (if ¬ x1 = (nI 0) then
 evk zcod none d zc_X12_load 10 [(0, .ref l0), (1, .int l1), (2, .int l2)] [] M1
 else
 some (some (.int (-1 : Int32)), M1)) else none) else none := by
  simpa only [cvN] using R_X12_load_0 d S I L l0 l1 l2
set_option maxRecDepth 20000 in
set_option maxHeartbeats 4000000 in
theorem B_X12_load_10 (d : Nat) (S : mS) (I : mI) (L : mJ) (l0 : Nat) (l1 : Int32) (l2 : Int32) :
  evk zcod none d zc_X12_load 10 [(0, .ref l0), (1, .int l1), (2, .int l2)] [] (S, I, L) =
  if l2 = (nI 0) then evk zcod none d zc_X12_load 52 [(0, .ref l0), (1, .int l1)] [] (S, I, L) else
 if l2 = (nI 1) then evk zcod none d zc_X12_load 59 [(0, .ref l0), (1, .int l1)] [] (S, I, L) else
 if l2 = (nI 2) then evk zcod none d zc_X12_load 74 [(0, .ref l0), (1, .int l1)] [] (S, I, L) else
 if l2 = (nI 3) then evk zcod none d zc_X12_load 89 [(0, .ref l0), (1, .int l1), (2, .int l2)] [] (S, I, L) else
 if l2 = (nI 4) then evk zcod none d zc_X12_load 89 [(0, .ref l0), (1, .int l1), (2, .int l2)] [] (S, I, L) else
 if l2 = (nI 5) then evk zcod none d zc_X12_load 89 [(0, .ref l0), (1, .int l1), (2, .int l2)] [] (S, I, L) else
 if l2 = (nI 6) then evk zcod none d zc_X12_load 89 [(0, .ref l0), (1, .int l1), (2, .int l2)] [] (S, I, L) else
 evk zcod none d zc_X12_load 103 [] [] (S, I, L) :=
  (blk_ok zcod none d zc_X12_load [(11, .tableswitch 92 0 6 #[41, 48, 63, 78, 78, 78, 78], 52, [103, 52, 59, 74, 89, 89, 89, 89], none)] (10, .iload_n 2, 11, [], some [0, 1, 2]) (by decide +kernel) _ _ _).trans rfl
set_option maxRecDepth 20000 in
set_option maxHeartbeats 4000000 in
theorem B_X12_load_52 (d : Nat) (S : mS) (I : mI) (L : mJ) (l0 : Nat) (l1 : Int32) :
  evk zcod none d zc_X12_load 52 [(0, .ref l0), (1, .int l1)] [] (S, I, L) =
  if kK S l0 = 12 then
 (if kK S (kR S l0 52) = 20 ∧ zin l1 (kN S (kR S l0 52)) then
 (some (some (.int (I (kR S l0 52) (zix l1))), (S, I, L))) else none) else none :=
  (blk_ok zcod none d zc_X12_load [(53, .getfield 122, 56, [12, 52, 2, 641, 0], none), (56, .iload_n 1, 57, [], none), (57, .iaload, 58, [20], none), (58, .ireturn, 59, [0], none)] (52, .aload_n 0, 53, [], some [0, 1]) (by decide +kernel) _ _ _).trans rfl
set_option maxRecDepth 20000 in
set_option maxHeartbeats 4000000 in
theorem B_X12_load_59 (d : Nat) (S : mS) (I : mI) (L : mJ) (l0 : Nat) (l1 : Int32) :
  evk zcod none d zc_X12_load 59 [(0, .ref l0), (1, .int l1)] [] (S, I, L) =
  if kK S l0 = 12 then
 (if kK S l0 = 12 then
 (if kK S (kR S l0 24) = 20 ∧ zin (((nI 7) * (I l0 18)) + l1) (kN S (kR S l0 24)) then
 (some (some (.int (I (kR S l0 24) (zix (((nI 7) * (I l0 18)) + l1)))), (S, I, L))) else none) else none) else none :=
  (blk_ok zcod none d zc_X12_load [(60, .getfield 49, 63, [12, 24, 2, 616, 0], none), (63, .bipush 7, 65, [], none), (65, .aload_n 0, 66, [], none), (66, .getfield 257, 69, [12, 18, 0, 711, 0], none), (69, .imul, 70, [], none), (70, .iload_n 1, 71, [], none), (71, .iadd, 72, [], none), (72, .iaload, 73, [20], none), (73, .ireturn, 74, [0], none)] (59, .aload_n 0, 60, [], some [0, 1]) (by decide +kernel) _ _ _).trans rfl
set_option maxRecDepth 20000 in
set_option maxHeartbeats 4000000 in
theorem B_X12_load_74 (d : Nat) (S : mS) (I : mI) (L : mJ) (l0 : Nat) (l1 : Int32) :
  evk zcod none d zc_X12_load 74 [(0, .ref l0), (1, .int l1)] [] (S, I, L) =
  if kK S l0 = 12 then
 (if kK S l0 = 12 then
 (if kK S (kR S l0 25) = 20 ∧ zin (((nI 7) * (I l0 18)) + l1) (kN S (kR S l0 25)) then
 (some (some (.int (I (kR S l0 25) (zix (((nI 7) * (I l0 18)) + l1)))), (S, I, L))) else none) else none) else none :=
  (blk_ok zcod none d zc_X12_load [(75, .getfield 52, 78, [12, 25, 2, 617, 0], none), (78, .bipush 7, 80, [], none), (80, .aload_n 0, 81, [], none), (81, .getfield 257, 84, [12, 18, 0, 711, 0], none), (84, .imul, 85, [], none), (85, .iload_n 1, 86, [], none), (86, .iadd, 87, [], none), (87, .iaload, 88, [20], none), (88, .ireturn, 89, [0], none)] (74, .aload_n 0, 75, [], some [0, 1]) (by decide +kernel) _ _ _).trans rfl
set_option maxRecDepth 20000 in
set_option maxHeartbeats 4000000 in
theorem B_X12_load_89 (d : Nat) (S : mS) (I : mI) (L : mJ) (l0 : Nat) (l1 : Int32) (l2 : Int32) :
  evk zcod none d zc_X12_load 89 [(0, .ref l0), (1, .int l1), (2, .int l2)] [] (S, I, L) =
  if kK S l0 = 12 then
 (if kK S (kR S l0 52) = 20 ∧ zin (((nI 7) * (l2 - (nI 2))) + l1) (kN S (kR S l0 52)) then
 (some (some (.int (I (kR S l0 52) (zix (((nI 7) * (l2 - (nI 2))) + l1)))), (S, I, L))) else none) else none :=
  (blk_ok zcod none d zc_X12_load [(90, .getfield 122, 93, [12, 52, 2, 641, 0], none), (93, .bipush 7, 95, [], none), (95, .iload_n 2, 96, [], none), (96, .iconst 2, 97, [], none), (97, .isub, 98, [], none), (98, .imul, 99, [], none), (99, .iload_n 1, 100, [], none), (100, .iadd, 101, [], none), (101, .iaload, 102, [20], none), (102, .ireturn, 103, [0], none)] (89, .aload_n 0, 90, [], some [0, 1, 2]) (by decide +kernel) _ _ _).trans rfl
set_option maxRecDepth 20000 in
set_option maxHeartbeats 4000000 in
theorem R_X12_load_103 (d : Nat) (S : mS) (I : mI) (L : mJ)  :
  evk zcod none d zc_X12_load 103 [] [] (S, I, L) =
  some (some (.int (Int32.ofInt (-1))), (S, I, L)) :=
  (blk_ok zcod none d zc_X12_load [(104, .ireturn, 105, [0], none)] (103, .iconst (-1), 104, [], some []) (by decide +kernel) _ _ _).trans rfl
theorem B_X12_load_103 (d : Nat) (S : mS) (I : mI) (L : mJ)  :
  evk zcod none d zc_X12_load 103 [] [] (S, I, L) =
  some (some (.int (-1 : Int32)), (S, I, L)) := by
  simpa only [cvN] using R_X12_load_103 d S I L 
theorem E_X12_silk (d : Nat) (M : zM) (l0 : Nat) (l1 : Int32) (l2 : Int32) : evM zcod (d + 1) 219 [.ref l0, .int l1, .int l2] M = evk zcod none d zc_X12_silk 0 [(0, .ref l0), (1, .int l1), (2, .int l2)] [] M := evM_eq zcod d 219 _ M (Nat.le_of_ble_eq_true rfl)
set_option maxRecDepth 20000 in
set_option maxHeartbeats 4000000 in
theorem R_X12_silk_0 (d : Nat) (S : mS) (I : mI) (L : mJ) (l0 : Nat) (l1 : Int32) (l2 : Int32) :
  evk zcod none d zc_X12_silk 0 [(0, .ref l0), (1, .int l1), (2, .int l2)] [] (S, I, L) =
  if kK S l0 = 12 then
 (bI (evM zcod d 196 [.ref l0, .int l1] (S, I, L)) fun x1 M1 =>
 if M1.1.1 = S.1 then
 (if ¬ x1 = (nI 0) then
 evk zcod none d zc_X12_silk 10 [(0, .ref l0), (1, .int l1), (2, .int l2)] [] M1
 else
 some (some (.int (Int32.ofInt (-1))), M1)) else none) else none :=
  (blk_ok zcod none d zc_X12_silk [(1, .iload_n 1, 2, [], none), (2, .invokevirtual 409, 5, [196, 1, 1, 12, 828, 829, 830, 662], none), (5, .ifCond .ne 5, 8, [10], none), (8, .iconst (-1), 9, [], none), (9, .ireturn, 10, [0], none)] (0, .aload_n 0, 1, [], none) (by decide +kernel) _ _ _).trans rfl
theorem B_X12_silk_0 (d : Nat) (S : mS) (I : mI) (L : mJ) (l0 : Nat) (l1 : Int32) (l2 : Int32) :
  evk zcod none d zc_X12_silk 0 [(0, .ref l0), (1, .int l1), (2, .int l2)] [] (S, I, L) =
  if kK S l0 = 12 then
 (bI (evM zcod d 196 [.ref l0, .int l1] (S, I, L)) fun x1 M1 =>
 if M1.1.1 = S.1 then
 (if ¬ x1 = (nI 0) then
 evk zcod none d zc_X12_silk 10 [(0, .ref l0), (1, .int l1), (2, .int l2)] [] M1
 else
 some (some (.int (-1 : Int32)), M1)) else none) else none := by
  simpa only [cvN] using R_X12_silk_0 d S I L l0 l1 l2
set_option maxRecDepth 20000 in
set_option maxHeartbeats 4000000 in
theorem B_X12_silk_10 (d : Nat) (S : mS) (I : mI) (L : mJ) (l0 : Nat) (l1 : Int32) (l2 : Int32) :
  evk zcod none d zc_X12_silk 10 [(0, .ref l0), (1, .int l1), (2, .int l2)] [] (S, I, L) =
  if l2 = (nI 0) then evk zcod none d zc_X12_silk 36 [(0, .ref l0), (1, .int l1)] [] (S, I, L) else
 if l2 = (nI 1) then evk zcod none d zc_X12_silk 50 [(0, .ref l0), (1, .int l1)] [] (S, I, L) else
 if l2 = (nI 2) then evk zcod none d zc_X12_silk 60 [(0, .ref l0), (1, .int l1)] [] (S, I, L) else
 evk zcod none d zc_X12_silk 70 [] [] (S, I, L) :=
  (blk_ok zcod none d zc_X12_silk [(11, .tableswitch 59 0 2 #[25, 39, 49], 36, [70, 36, 50, 60], none)] (10, .iload_n 2, 11, [], some [0, 1, 2]) (by decide +kernel) _ _ _).trans rfl
set_option maxRecDepth 20000 in
set_option maxHeartbeats 4000000 in
theorem B_X12_silk_36 (d : Nat) (S : mS) (I : mI) (L : mJ) (l0 : Nat) (l1 : Int32) :
  evk zcod none d zc_X12_silk 36 [(0, .ref l0), (1, .int l1)] [] (S, I, L) =
  if kK S l0 = 12 then
 (if kK S l0 = 12 then
 (if kK S (kR S l0 27) = 20 ∧ zin (((nI 5) * (I l0 18)) + l1) (kN S (kR S l0 27)) then
 (some (some (.int (I (kR S l0 27) (zix (((nI 5) * (I l0 18)) + l1)))), (S, I, L))) else none) else none) else none :=
  (blk_ok zcod none d zc_X12_silk [(37, .getfield 58, 40, [12, 27, 2, 619, 0], none), (40, .iconst 5, 41, [], none), (41, .aload_n 0, 42, [], none), (42, .getfield 257, 45, [12, 18, 0, 711, 0], none), (45, .imul, 46, [], none), (46, .iload_n 1, 47, [], none), (47, .iadd, 48, [], none), (48, .iaload, 49, [20], none), (49, .ireturn, 50, [0], none)] (36, .aload_n 0, 37, [], some [0, 1]) (by decide +kernel) _ _ _).trans rfl
set_option maxRecDepth 20000 in
set_option maxHeartbeats 4000000 in
theorem B_X12_silk_50 (d : Nat) (S : mS) (I : mI) (L : mJ) (l0 : Nat) (l1 : Int32) :
  evk zcod none d zc_X12_silk 50 [(0, .ref l0), (1, .int l1)] [] (S, I, L) =
  if kK S l0 = 12 then
 (if kK S (kR S l0 52) = 20 ∧ zin ((nI 35) + l1) (kN S (kR S l0 52)) then
 (some (some (.int (I (kR S l0 52) (zix ((nI 35) + l1)))), (S, I, L))) else none) else none :=
  (blk_ok zcod none d zc_X12_silk [(51, .getfield 122, 54, [12, 52, 2, 641, 0], none), (54, .bipush 35, 56, [], none), (56, .iload_n 1, 57, [], none), (57, .iadd, 58, [], none), (58, .iaload, 59, [20], none), (59, .ireturn, 60, [0], none)] (50, .aload_n 0, 51, [], some [0, 1]) (by decide +kernel) _ _ _).trans rfl
set_option maxRecDepth 20000 in
set_option maxHeartbeats 4000000 in
theorem B_X12_silk_60 (d : Nat) (S : mS) (I : mI) (L : mJ) (l0 : Nat) (l1 : Int32) :
  evk zcod none d zc_X12_silk 60 [(0, .ref l0), (1, .int l1)] [] (S, I, L) =
  if kK S l0 = 12 then
 (if kK S (kR S l0 52) = 20 ∧ zin ((nI 45) + l1) (kN S (kR S l0 52)) then
 (some (some (.int (I (kR S l0 52) (zix ((nI 45) + l1)))), (S, I, L))) else none) else none :=
  (blk_ok zcod none d zc_X12_silk [(61, .getfield 122, 64, [12, 52, 2, 641, 0], none), (64, .bipush 45, 66, [], none), (66, .iload_n 1, 67, [], none), (67, .iadd, 68, [], none), (68, .iaload, 69, [20], none), (69, .ireturn, 70, [0], none)] (60, .aload_n 0, 61, [], some [0, 1]) (by decide +kernel) _ _ _).trans rfl
set_option maxRecDepth 20000 in
set_option maxHeartbeats 4000000 in
theorem R_X12_silk_70 (d : Nat) (S : mS) (I : mI) (L : mJ)  :
  evk zcod none d zc_X12_silk 70 [] [] (S, I, L) =
  some (some (.int (Int32.ofInt (-1))), (S, I, L)) :=
  (blk_ok zcod none d zc_X12_silk [(71, .ireturn, 72, [0], none)] (70, .iconst (-1), 71, [], some []) (by decide +kernel) _ _ _).trans rfl
theorem B_X12_silk_70 (d : Nat) (S : mS) (I : mI) (L : mJ)  :
  evk zcod none d zc_X12_silk 70 [] [] (S, I, L) =
  some (some (.int (-1 : Int32)), (S, I, L)) := by
  simpa only [cvN] using R_X12_silk_70 d S I L 
theorem E_X12_pull (d : Nat) (M : zM) (l0 : Nat) (l1 : Int32) : evM zcod (d + 1) 220 [.ref l0, .int l1] M = evk zcod none d zc_X12_pull 0 [(0, .ref l0), (1, .int l1)] [] M := evM_eq zcod d 220 _ M (Nat.le_of_ble_eq_true rfl)
set_option maxRecDepth 20000 in
set_option maxHeartbeats 4000000 in
theorem B_X12_pull_0 (d : Nat) (S : mS) (I : mI) (L : mJ) (l0 : Nat) (l1 : Int32) :
  evk zcod none d zc_X12_pull 0 [(0, .ref l0), (1, .int l1)] [] (S, I, L) =
  if kK S l0 = 12 then
 (bI (evM zcod d 196 [.ref l0, .int l1] (S, I, L)) fun x1 M1 =>
 if M1.1.1 = S.1 then
 (if x1 = (nI 0) then
 evk zcod none d zc_X12_pull 20 [] [] M1
 else
 if kK M1.1 l0 = 12 then
 (if kK M1.1 (kR M1.1 l0 52) = 20 ∧ zin ((nI 40) + l1) (kN M1.1 (kR M1.1 l0 52)) then
 (evk zcod none d zc_X12_pull 22 [] [.int (M1.2.1 (kR M1.1 l0 52) (zix ((nI 40) + l1)))] M1) else none) else none) else none) else none :=
  (blk_ok zcod none d zc_X12_pull [(1, .iload_n 1, 2, [], none), (2, .invokevirtual 409, 5, [196, 1, 1, 12, 828, 829, 830, 662], none), (5, .ifCond .eq 15, 8, [20], none), (8, .aload_n 0, 9, [], none), (9, .getfield 122, 12, [12, 52, 2, 641, 0], none), (12, .bipush 40, 14, [], none), (14, .iload_n 1, 15, [], none), (15, .iadd, 16, [], none), (16, .iaload, 17, [20], none), (17, .goto 5, 20, [22], none)] (0, .aload_n 0, 1, [], none) (by decide +kernel) _ _ _).trans rfl
set_option maxRecDepth 20000 in
set_option maxHeartbeats 4000000 in
theorem R_X12_pull_20 (d : Nat) (S : mS) (I : mI) (L : mJ)  :
  evk zcod none d zc_X12_pull 20 [] [] (S, I, L) =
  evk zcod none d zc_X12_pull 22 [] [.int ((Int8.ofInt (-100)).toInt32)] (S, I, L) :=
  (blk_ok zcod none d zc_X12_pull [] (20, .bipush (-100), 22, [], some []) (by decide +kernel) _ _ _).trans rfl
theorem B_X12_pull_20 (d : Nat) (S : mS) (I : mI) (L : mJ)  :
  evk zcod none d zc_X12_pull 20 [] [] (S, I, L) =
  evk zcod none d zc_X12_pull 22 [] [.int (-100 : Int32)] (S, I, L) := by
  simpa only [cvN] using R_X12_pull_20 d S I L 
set_option maxRecDepth 20000 in
set_option maxHeartbeats 4000000 in
theorem B_X12_pull_22 (d : Nat) (S : mS) (I : mI) (L : mJ) (s0 : Int32) :
  evk zcod none d zc_X12_pull 22 [] [.int s0] (S, I, L) =
  some (some (.int s0), (S, I, L)) :=
  (blk_ok zcod none d zc_X12_pull [] (22, .ireturn, 23, [0], some []) (by decide +kernel) _ _ _).trans rfl
theorem E_X12_hook (d : Nat) (M : zM) (l0 : Nat) (l1 : Int32) (l2 : Int32) : evM zcod (d + 1) 221 [.ref l0, .int l1, .int l2] M = evk zcod none d zc_X12_hook 0 [(0, .ref l0), (1, .int l1), (2, .int l2)] [] M := evM_eq zcod d 221 _ M (Nat.le_of_ble_eq_true rfl)
set_option maxRecDepth 20000 in
set_option maxHeartbeats 4000000 in
theorem R_X12_hook_0 (d : Nat) (S : mS) (I : mI) (L : mJ) (l0 : Nat) (l1 : Int32) (l2 : Int32) :
  evk zcod none d zc_X12_hook 0 [(0, .ref l0), (1, .int l1), (2, .int l2)] [] (S, I, L) =
  if kK S l0 = 12 then
 (bI (evM zcod d 197 [.ref l0, .int l1] (S, I, L)) fun x1 M1 =>
 if M1.1.1 = S.1 then
 (if ¬ x1 = (nI 0) then
 evk zcod none d zc_X12_hook 10 [(0, .ref l0), (1, .int l1), (2, .int l2)] [] M1
 else
 some (some (.int (Int32.ofInt (-1))), M1)) else none) else none :=
  (blk_ok zcod none d zc_X12_hook [(1, .iload_n 1, 2, [], none), (2, .invokevirtual 412, 5, [197, 1, 1, 12, 831, 832, 833, 662], none), (5, .ifCond .ne 5, 8, [10], none), (8, .iconst (-1), 9, [], none), (9, .ireturn, 10, [0], none)] (0, .aload_n 0, 1, [], none) (by decide +kernel) _ _ _).trans rfl
theorem B_X12_hook_0 (d : Nat) (S : mS) (I : mI) (L : mJ) (l0 : Nat) (l1 : Int32) (l2 : Int32) :
  evk zcod none d zc_X12_hook 0 [(0, .ref l0), (1, .int l1), (2, .int l2)] [] (S, I, L) =
  if kK S l0 = 12 then
 (bI (evM zcod d 197 [.ref l0, .int l1] (S, I, L)) fun x1 M1 =>
 if M1.1.1 = S.1 then
 (if ¬ x1 = (nI 0) then
 evk zcod none d zc_X12_hook 10 [(0, .ref l0), (1, .int l1), (2, .int l2)] [] M1
 else
 some (some (.int (-1 : Int32)), M1)) else none) else none := by
  simpa only [cvN] using R_X12_hook_0 d S I L l0 l1 l2
set_option maxRecDepth 20000 in
set_option maxHeartbeats 4000000 in
theorem B_X12_hook_10 (d : Nat) (S : mS) (I : mI) (L : mJ) (l0 : Nat) (l1 : Int32) (l2 : Int32) :
  evk zcod none d zc_X12_hook 10 [(0, .ref l0), (1, .int l1), (2, .int l2)] [] (S, I, L) =
  if l2 = (nI 0) then evk zcod none d zc_X12_hook 40 [(0, .ref l0), (1, .int l1)] [] (S, I, L) else
 if l2 = (nI 1) then evk zcod none d zc_X12_hook 50 [(0, .ref l0), (1, .int l1)] [] (S, I, L) else
 if l2 = (nI 2) then evk zcod none d zc_X12_hook 64 [(0, .ref l0), (1, .int l1)] [] (S, I, L) else
 if l2 = (nI 3) then evk zcod none d zc_X12_hook 78 [(0, .ref l0), (1, .int l1)] [] (S, I, L) else
 evk zcod none d zc_X12_hook 126 [] [] (S, I, L) :=
  (blk_ok zcod none d zc_X12_hook [(11, .tableswitch 115 0 3 #[29, 39, 53, 67], 40, [126, 40, 50, 64, 78], none)] (10, .iload_n 2, 11, [], some [0, 1, 2]) (by decide +kernel) _ _ _).trans rfl
set_option maxRecDepth 20000 in
set_option maxHeartbeats 4000000 in
theorem B_X12_hook_40 (d : Nat) (S : mS) (I : mI) (L : mJ) (l0 : Nat) (l1 : Int32) :
  evk zcod none d zc_X12_hook 40 [(0, .ref l0), (1, .int l1)] [] (S, I, L) =
  if kK S l0 = 12 then
 (if kK S (kR S l0 52) = 20 ∧ zin ((nI 50) + l1) (kN S (kR S l0 52)) then
 (some (some (.int (I (kR S l0 52) (zix ((nI 50) + l1)))), (S, I, L))) else none) else none :=
  (blk_ok zcod none d zc_X12_hook [(41, .getfield 122, 44, [12, 52, 2, 641, 0], none), (44, .bipush 50, 46, [], none), (46, .iload_n 1, 47, [], none), (47, .iadd, 48, [], none), (48, .iaload, 49, [20], none), (49, .ireturn, 50, [0], none)] (40, .aload_n 0, 41, [], some [0, 1]) (by decide +kernel) _ _ _).trans rfl
set_option maxRecDepth 20000 in
set_option maxHeartbeats 4000000 in
theorem B_X12_hook_50 (d : Nat) (S : mS) (I : mI) (L : mJ) (l0 : Nat) (l1 : Int32) :
  evk zcod none d zc_X12_hook 50 [(0, .ref l0), (1, .int l1)] [] (S, I, L) =
  if kK S l0 = 12 then
 (if kK S l0 = 12 then
 (if kK S (kR S l0 31) = 20 ∧ zin (((nI 5) * (I l0 18)) + l1) (kN S (kR S l0 31)) then
 (some (some (.int (I (kR S l0 31) (zix (((nI 5) * (I l0 18)) + l1)))), (S, I, L))) else none) else none) else none :=
  (blk_ok zcod none d zc_X12_hook [(51, .getfield 70, 54, [12, 31, 2, 623, 0], none), (54, .iconst 5, 55, [], none), (55, .aload_n 0, 56, [], none), (56, .getfield 257, 59, [12, 18, 0, 711, 0], none), (59, .imul, 60, [], none), (60, .iload_n 1, 61, [], none), (61, .iadd, 62, [], none), (62, .iaload, 63, [20], none), (63, .ireturn, 64, [0], none)] (50, .aload_n 0, 51, [], some [0, 1]) (by decide +kernel) _ _ _).trans rfl
set_option maxRecDepth 20000 in
set_option maxHeartbeats 4000000 in
theorem B_X12_hook_64 (d : Nat) (S : mS) (I : mI) (L : mJ) (l0 : Nat) (l1 : Int32) :
  evk zcod none d zc_X12_hook 64 [(0, .ref l0), (1, .int l1)] [] (S, I, L) =
  if kK S l0 = 12 then
 (if kK S l0 = 12 then
 (if kK S (kR S l0 32) = 20 ∧ zin (((nI 5) * (I l0 18)) + l1) (kN S (kR S l0 32)) then
 (some (some (.int (I (kR S l0 32) (zix (((nI 5) * (I l0 18)) + l1)))), (S, I, L))) else none) else none) else none :=
  (blk_ok zcod none d zc_X12_hook [(65, .getfield 73, 68, [12, 32, 2, 624, 0], none), (68, .iconst 5, 69, [], none), (69, .aload_n 0, 70, [], none), (70, .getfield 257, 73, [12, 18, 0, 711, 0], none), (73, .imul, 74, [], none), (74, .iload_n 1, 75, [], none), (75, .iadd, 76, [], none), (76, .iaload, 77, [20], none), (77, .ireturn, 78, [0], none)] (64, .aload_n 0, 65, [], some [0, 1]) (by decide +kernel) _ _ _).trans rfl
set_option maxRecDepth 20000 in
set_option maxHeartbeats 4000000 in
theorem B_X12_hook_78 (d : Nat) (S : mS) (I : mI) (L : mJ) (l0 : Nat) (l1 : Int32) :
  evk zcod none d zc_X12_hook 78 [(0, .ref l0), (1, .int l1)] [] (S, I, L) =
  evk zcod none d zc_X12_hook 83 [(0, .ref l0), (1, .int l1), (3, .int (nI 0)), (4, .int (nI 0))] [] (S, I, L) :=
  (blk_ok zcod none d zc_X12_hook [(79, .istore_n 3, 80, [], none), (80, .iconst 0, 81, [], none), (81, .istore 4, 83, [], none)] (78, .iconst 0, 79, [], some [0, 1]) (by decide +kernel) _ _ _).trans rfl
set_option maxRecDepth 20000 in
set_option maxHeartbeats 4000000 in
theorem B_X12_hook_83 (d : Nat) (S : mS) (I : mI) (L : mJ) (l0 : Nat) (l1 : Int32) (l3 : Int32) (l4 : Int32) :
  evk zcod none d zc_X12_hook 83 [(0, .ref l0), (1, .int l1), (3, .int l3), (4, .int l4)] [] (S, I, L) =
  if kK S l0 = 12 then
 (if kK S l0 = 12 then
 (if kK S (kR S l0 22) = 20 ∧ zin (I l0 18) (kN S (kR S l0 22)) then
 (if (I (kR S l0 22) (zix (I l0 18))) ≤ l4 then
 evk zcod none d zc_X12_hook 124 [(3, .int l3)] [] (S, I, L)
 else
 if kK S l0 = 12 then
 (if kK S (kR S l0 52) = 20 ∧ zin ((nI 28) + l4) (kN S (kR S l0 52)) then
 (if ¬ (I (kR S l0 52) (zix ((nI 28) + l4))) = l1 then
 evk zcod none d zc_X12_hook 118 [(0, .ref l0), (1, .int l1), (3, .int l3), (4, .int l4)] [] (S, I, L)
 else
 evk zcod none d zc_X12_hook 118 [(0, .ref l0), (1, .int l1), (3, .int (l3 ||| ((nI 1) <<< (l4 &&& nI 31)))), (4, .int l4)] [] (S, I, L)) else none) else none) else none) else none) else none :=
  (blk_ok zcod none d zc_X12_hook [(85, .aload_n 0, 86, [], none), (86, .getfield 43, 89, [12, 22, 2, 614, 0], none), (89, .aload_n 0, 90, [], none), (90, .getfield 257, 93, [12, 18, 0, 711, 0], none), (93, .iaload, 94, [20], none), (94, .if_icmp .ge 30, 97, [124], none), (97, .aload_n 0, 98, [], none), (98, .getfield 122, 101, [12, 52, 2, 641, 0], none), (101, .bipush 28, 103, [], none), (103, .iload 4, 105, [], none), (105, .iadd, 106, [], none), (106, .iaload, 107, [20], none), (107, .iload_n 1, 108, [], none), (108, .if_icmp .ne 10, 111, [118], none), (111, .iload_n 3, 112, [], none), (112, .iconst 1, 113, [], none), (113, .iload 4, 115, [], none), (115, .ishl, 116, [], none), (116, .ior, 117, [], none), (117, .istore_n 3, 118, [], none)] (83, .iload 4, 85, [], some [0, 1, 3, 4]) (by decide +kernel) _ _ _).trans rfl
set_option maxRecDepth 20000 in
set_option maxHeartbeats 4000000 in
theorem B_X12_hook_118 (d : Nat) (S : mS) (I : mI) (L : mJ) (l0 : Nat) (l1 : Int32) (l3 : Int32) (l4 : Int32) :
  evk zcod none d zc_X12_hook 118 [(0, .ref l0), (1, .int l1), (3, .int l3), (4, .int l4)] [] (S, I, L) =
  evk zcod none d zc_X12_hook 83 [(0, .ref l0), (1, .int l1), (3, .int l3), (4, .int (l4 + (nI 1)))] [] (S, I, L) :=
  (blk_ok zcod none d zc_X12_hook [(121, .goto (-38), 124, [83], none)] (118, .iinc 4 1, 121, [], some [0, 1, 3, 4]) (by decide +kernel) _ _ _).trans rfl
set_option maxRecDepth 20000 in
set_option maxHeartbeats 4000000 in
theorem B_X12_hook_124 (d : Nat) (S : mS) (I : mI) (L : mJ) (l3 : Int32) :
  evk zcod none d zc_X12_hook 124 [(3, .int l3)] [] (S, I, L) =
  some (some (.int l3), (S, I, L)) :=
  (blk_ok zcod none d zc_X12_hook [(125, .ireturn, 126, [0], none)] (124, .iload_n 3, 125, [], some [3]) (by decide +kernel) _ _ _).trans rfl
set_option maxRecDepth 20000 in
set_option maxHeartbeats 4000000 in
theorem R_X12_hook_126 (d : Nat) (S : mS) (I : mI) (L : mJ)  :
  evk zcod none d zc_X12_hook 126 [] [] (S, I, L) =
  some (some (.int (Int32.ofInt (-1))), (S, I, L)) :=
  (blk_ok zcod none d zc_X12_hook [(127, .ireturn, 128, [0], none)] (126, .iconst (-1), 127, [], some []) (by decide +kernel) _ _ _).trans rfl
theorem B_X12_hook_126 (d : Nat) (S : mS) (I : mI) (L : mJ)  :
  evk zcod none d zc_X12_hook 126 [] [] (S, I, L) =
  some (some (.int (-1 : Int32)), (S, I, L)) := by
  simpa only [cvN] using R_X12_hook_126 d S I L 
theorem E_X12_tells (d : Nat) (M : zM) (l0 : Nat) (l1 : Int32) (l2 : Int32) (l3 : Int32) : evM zcod (d + 1) 222 [.ref l0, .int l1, .int l2, .int l3] M = evk zcod none d zc_X12_tells 0 [(0, .ref l0), (1, .int l1), (2, .int l2), (3, .int l3)] [] M := evM_eq zcod d 222 _ M (Nat.le_of_ble_eq_true rfl)
set_option maxRecDepth 20000 in
set_option maxHeartbeats 4000000 in
theorem B_X12_tells_0 (d : Nat) (S : mS) (I : mI) (L : mJ) (l0 : Nat) (l1 : Int32) (l2 : Int32) (l3 : Int32) :
  evk zcod none d zc_X12_tells 0 [(0, .ref l0), (1, .int l1), (2, .int l2), (3, .int l3)] [] (S, I, L) =
  if kK S l0 = 12 then
 (bI (evM zcod d 195 [.ref l0, .int l1] (S, I, L)) fun x1 M1 =>
 if M1.1.1 = S.1 then
 (if x1 = (nI 0) then
 evk zcod none d zc_X12_tells 31 [] [] M1
 else
 bI (evM zcod d 191 [.int l3, .int (nI 0), .int (nI 3)] M1) fun x2 M2 =>
 if M2.1.1 = M1.1.1 then
 (if x2 = (nI 0) then
 evk zcod none d zc_X12_tells 31 [] [] M2
 else
 if (nI 2) = nI 0 then none else
 if ¬ (zrem l3 (nI 2)) = (nI 0) then
 evk zcod none d zc_X12_tells 34 [(0, .ref l0), (1, .int l1), (2, .int l2), (3, .int l3)] [] M2
 else
 if kK M2.1 l0 = 12 then
 (bI (evM zcod d 196 [.ref l0, .int l2] M2) fun x3 M3 =>
 if M3.1.1 = M2.1.1 then
 (if ¬ x3 = (nI 0) then
 evk zcod none d zc_X12_tells 34 [(0, .ref l0), (1, .int l1), (2, .int l2), (3, .int l3)] [] M3
 else
 evk zcod none d zc_X12_tells 31 [] [] M3) else none) else none) else none) else none) else none :=
  (blk_ok zcod none d zc_X12_tells [(1, .iload_n 1, 2, [], none), (2, .invokevirtual 406, 5, [195, 1, 1, 12, 825, 826, 827, 662], none), (5, .ifCond .eq 26, 8, [31], none), (8, .iload_n 3, 9, [], none), (9, .iconst 0, 10, [], none), (10, .iconst 3, 11, [], none), (11, .invokestatic 340, 14, [191, 3, 1, 0, 771, 772, 662], none), (14, .ifCond .eq 17, 17, [31], none), (17, .iload_n 3, 18, [], none), (18, .iconst 2, 19, [], none), (19, .irem, 20, [], none), (20, .ifCond .ne 14, 23, [34], none), (23, .aload_n 0, 24, [], none), (24, .iload_n 2, 25, [], none), (25, .invokevirtual 409, 28, [196, 1, 1, 12, 828, 829, 830, 662], none), (28, .ifCond .ne 6, 31, [34], none)] (0, .aload_n 0, 1, [], none) (by decide +kernel) _ _ _).trans rfl
set_option maxRecDepth 20000 in
set_option maxHeartbeats 4000000 in
theorem R_X12_tells_31 (d : Nat) (S : mS) (I : mI) (L : mJ)  :
  evk zcod none d zc_X12_tells 31 [] [] (S, I, L) =
  some (some (.int ((Int8.ofInt (-100)).toInt32)), (S, I, L)) :=
  (blk_ok zcod none d zc_X12_tells [(33, .ireturn, 34, [0], none)] (31, .bipush (-100), 33, [], some []) (by decide +kernel) _ _ _).trans rfl
theorem B_X12_tells_31 (d : Nat) (S : mS) (I : mI) (L : mJ)  :
  evk zcod none d zc_X12_tells 31 [] [] (S, I, L) =
  some (some (.int (-100 : Int32)), (S, I, L)) := by
  simpa only [cvN] using R_X12_tells_31 d S I L 
set_option maxRecDepth 20000 in
set_option maxHeartbeats 4000000 in
theorem B_X12_tells_34 (d : Nat) (S : mS) (I : mI) (L : mJ) (l0 : Nat) (l1 : Int32) (l2 : Int32) (l3 : Int32) :
  evk zcod none d zc_X12_tells 34 [(0, .ref l0), (1, .int l1), (2, .int l2), (3, .int l3)] [] (S, I, L) =
  if kK S l0 = 12 then
 (bV (evM zcod d 200 [.ref l0] (S, I, L)) fun M1 =>
 if M1.1.1 = S.1 then
 (if kK M1.1 l0 = 12 then
 (if kK M1.1 l0 = 12 then
 (if kK M1.1 (kR M1.1 l0 24) = 20 ∧ zin (((nI 7) * (M1.2.1 l0 18)) + l1) (kN M1.1 (kR M1.1 l0 24)) then
 (if l3 = (nI 0) then evk zcod none d zc_X12_tells 80 [(0, .ref l0), (1, .int l1), (2, .int l2), (4, .int (M1.2.1 (kR M1.1 l0 24) (zix (((nI 7) * (M1.2.1 l0 18)) + l1))))] [] M1 else
 if l3 = (nI 1) then evk zcod none d zc_X12_tells 118 [(0, .ref l0), (1, .int l1)] [] M1 else
 if l3 = (nI 2) then evk zcod none d zc_X12_tells 141 [(0, .ref l0), (2, .int l2), (4, .int (M1.2.1 (kR M1.1 l0 24) (zix (((nI 7) * (M1.2.1 l0 18)) + l1))))] [] M1 else
 evk zcod none d zc_X12_tells 172 [(0, .ref l0), (1, .int l1)] [] M1) else none) else none) else none) else none) else none :=
  (blk_ok zcod none d zc_X12_tells [(35, .invokevirtual 415, 38, [200, 0, 0, 12, 834, 835, 836, 662], none), (38, .aload_n 0, 39, [], none), (39, .getfield 49, 42, [12, 24, 2, 616, 0], none), (42, .bipush 7, 44, [], none), (44, .aload_n 0, 45, [], none), (45, .getfield 257, 48, [12, 18, 0, 711, 0], none), (48, .imul, 49, [], none), (49, .iload_n 1, 50, [], none), (50, .iadd, 51, [], none), (51, .iaload, 52, [20], none), (52, .istore 4, 54, [], none), (54, .iload_n 3, 55, [], none), (55, .tableswitch 117 0 2 #[25, 63, 86], 80, [172, 80, 118, 141], none)] (34, .aload_n 0, 35, [], some [0, 1, 2, 3]) (by decide +kernel) _ _ _).trans rfl
set_option maxRecDepth 20000 in
set_option maxHeartbeats 4000000 in
theorem B_X12_tells_80 (d : Nat) (S : mS) (I : mI) (L : mJ) (l0 : Nat) (l1 : Int32) (l2 : Int32) (l4 : Int32) :
  evk zcod none d zc_X12_tells 80 [(0, .ref l0), (1, .int l1), (2, .int l2), (4, .int l4)] [] (S, I, L) =
  if kK S l0 = 12 then
 (if kK S (kR S l0 53) = 20 ∧ zin (nI 55) (kN S (kR S l0 53)) then
 (if kK S l0 = 12 then
 (bI (evM zcod d 204 [.ref l0] (S, I, L)) fun x1 M1 =>
 if M1.1.1 = S.1 then
 (if kK M1.1 l0 = 12 then
 (if kK M1.1 l0 = 12 then
 (if kK M1.1 (kR M1.1 l0 27) = 20 ∧ zin (((nI 5) * (M1.2.1 l0 18)) + l2) (kN M1.1 (kR M1.1 l0 27)) then
 (if kK M1.1 l0 = 12 then
 (if kK M1.1 (kR M1.1 l0 53) = 20 ∧ zin l1 (kN M1.1 (kR M1.1 l0 53)) then
 (if kK M1.1 l0 = 12 then
 (bI (evM zcod d 207 [.ref l0, .int (I (kR S l0 53) (zix (nI 55))), .int x1, .int (M1.2.1 (kR M1.1 l0 27) (zix (((nI 5) * (M1.2.1 l0 18)) + l2))), .int l4, .int (nI 0), .int (M1.2.1 (kR M1.1 l0 53) (zix l1))] M1) fun x2 M2 =>
 if M2.1.1 = M1.1.1 then
 (some (some (.int x2), M2)) else none) else none) else none) else none) else none) else none) else none) else none) else none) else none) else none :=
  (blk_ok zcod none d zc_X12_tells [(81, .aload_n 0, 82, [], none), (82, .getfield 125, 85, [12, 53, 2, 642, 0], none), (85, .bipush 55, 87, [], none), (87, .iaload, 88, [20], none), (88, .aload_n 0, 89, [], none), (89, .invokevirtual 418, 92, [204, 0, 1, 12, 837, 838, 839, 662], none), (92, .aload_n 0, 93, [], none), (93, .getfield 58, 96, [12, 27, 2, 619, 0], none), (96, .iconst 5, 97, [], none), (97, .aload_n 0, 98, [], none), (98, .getfield 257, 101, [12, 18, 0, 711, 0], none), (101, .imul, 102, [], none), (102, .iload_n 2, 103, [], none), (103, .iadd, 104, [], none), (104, .iaload, 105, [20], none), (105, .iload 4, 107, [], none), (107, .iconst 0, 108, [], none), (108, .aload_n 0, 109, [], none), (109, .getfield 125, 112, [12, 53, 2, 642, 0], none), (112, .iload_n 1, 113, [], none), (113, .iaload, 114, [20], none), (114, .invokevirtual 382, 117, [207, 6, 1, 12, 804, 805, 806, 662], none), (117, .ireturn, 118, [0], none)] (80, .aload_n 0, 81, [], some [0, 1, 2, 4]) (by decide +kernel) _ _ _).trans rfl
set_option maxRecDepth 20000 in
set_option maxHeartbeats 4000000 in
theorem B_X12_tells_118 (d : Nat) (S : mS) (I : mI) (L : mJ) (l0 : Nat) (l1 : Int32) :
  evk zcod none d zc_X12_tells 118 [(0, .ref l0), (1, .int l1)] [] (S, I, L) =
  if kK S l0 = 12 then
 (if kK S (kR S l0 53) = 20 ∧ zin (nI 55) (kN S (kR S l0 53)) then
 (if kK S l0 = 12 then
 (bI (evM zcod d 204 [.ref l0] (S, I, L)) fun x1 M1 =>
 if M1.1.1 = S.1 then
 (if kK M1.1 l0 = 12 then
 (if kK M1.1 (kR M1.1 l0 53) = 20 ∧ zin l1 (kN M1.1 (kR M1.1 l0 53)) then
 (if kK M1.1 l0 = 12 then
 (bI (evM zcod d 208 [.ref l0, .int (I (kR S l0 53) (zix (nI 55))), .int x1, .int (nI 0), .int (M1.2.1 (kR M1.1 l0 53) (zix l1))] M1) fun x2 M2 =>
 if M2.1.1 = M1.1.1 then
 (some (some (.int x2), M2)) else none) else none) else none) else none) else none) else none) else none) else none :=
  (blk_ok zcod none d zc_X12_tells [(119, .aload_n 0, 120, [], none), (120, .getfield 125, 123, [12, 53, 2, 642, 0], none), (123, .bipush 55, 125, [], none), (125, .iaload, 126, [20], none), (126, .aload_n 0, 127, [], none), (127, .invokevirtual 418, 130, [204, 0, 1, 12, 837, 838, 839, 662], none), (130, .iconst 0, 131, [], none), (131, .aload_n 0, 132, [], none), (132, .getfield 125, 135, [12, 53, 2, 642, 0], none), (135, .iload_n 1, 136, [], none), (136, .iaload, 137, [20], none), (137, .invokevirtual 378, 140, [208, 4, 1, 12, 801, 802, 803, 662], none), (140, .ireturn, 141, [0], none)] (118, .aload_n 0, 119, [], some [0, 1]) (by decide +kernel) _ _ _).trans rfl
set_option maxRecDepth 20000 in
set_option maxHeartbeats 4000000 in
theorem B_X12_tells_141 (d : Nat) (S : mS) (I : mI) (L : mJ) (l0 : Nat) (l2 : Int32) (l4 : Int32) :
  evk zcod none d zc_X12_tells 141 [(0, .ref l0), (2, .int l2), (4, .int l4)] [] (S, I, L) =
  if kK S l0 = 12 then
 (if kK S (kR S l0 53) = 20 ∧ zin (nI 55) (kN S (kR S l0 53)) then
 (if kK S l0 = 12 then
 (bI (evM zcod d 204 [.ref l0] (S, I, L)) fun x1 M1 =>
 if M1.1.1 = S.1 then
 (if kK M1.1 l0 = 12 then
 (if kK M1.1 l0 = 12 then
 (if kK M1.1 (kR M1.1 l0 27) = 20 ∧ zin (((nI 5) * (M1.2.1 l0 18)) + l2) (kN M1.1 (kR M1.1 l0 27)) then
 (if kK M1.1 l0 = 12 then
 (bI (evM zcod d 209 [.ref l0, .int (I (kR S l0 53) (zix (nI 55))), .int x1, .int (M1.2.1 (kR M1.1 l0 27) (zix (((nI 5) * (M1.2.1 l0 18)) + l2))), .int l4] M1) fun x2 M2 =>
 if M2.1.1 = M1.1.1 then
 (some (some (.int x2), M2)) else none) else none) else none) else none) else none) else none) else none) else none) else none :=
  (blk_ok zcod none d zc_X12_tells [(142, .aload_n 0, 143, [], none), (143, .getfield 125, 146, [12, 53, 2, 642, 0], none), (146, .bipush 55, 148, [], none), (148, .iaload, 149, [20], none), (149, .aload_n 0, 150, [], none), (150, .invokevirtual 418, 153, [204, 0, 1, 12, 837, 838, 839, 662], none), (153, .aload_n 0, 154, [], none), (154, .getfield 58, 157, [12, 27, 2, 619, 0], none), (157, .iconst 5, 158, [], none), (158, .aload_n 0, 159, [], none), (159, .getfield 257, 162, [12, 18, 0, 711, 0], none), (162, .imul, 163, [], none), (163, .iload_n 2, 164, [], none), (164, .iadd, 165, [], none), (165, .iaload, 166, [20], none), (166, .iload 4, 168, [], none), (168, .invokevirtual 421, 171, [209, 4, 1, 12, 840, 841, 842, 662], none), (171, .ireturn, 172, [0], none)] (141, .aload_n 0, 142, [], some [0, 2, 4]) (by decide +kernel) _ _ _).trans rfl
set_option maxRecDepth 20000 in
set_option maxHeartbeats 4000000 in
theorem B_X12_tells_172 (d : Nat) (S : mS) (I : mI) (L : mJ) (l0 : Nat) (l1 : Int32) :
  evk zcod none d zc_X12_tells 172 [(0, .ref l0), (1, .int l1)] [] (S, I, L) =
  if kK S l0 = 12 then
 (if kK S (kR S l0 53) = 20 ∧ zin (nI 55) (kN S (kR S l0 53)) then
 (if kK S l0 = 12 then
 (bI (evM zcod d 204 [.ref l0] (S, I, L)) fun x1 M1 =>
 if M1.1.1 = S.1 then
 (if kK M1.1 l0 = 12 then
 (bI (evM zcod d 210 [.ref l0, .int (I (kR S l0 53) (zix (nI 55))), .int x1, .int l1] M1) fun x2 M2 =>
 if M2.1.1 = M1.1.1 then
 (some (some (.int x2), M2)) else none) else none) else none) else none) else none) else none :=
  (blk_ok zcod none d zc_X12_tells [(173, .aload_n 0, 174, [], none), (174, .getfield 125, 177, [12, 53, 2, 642, 0], none), (177, .bipush 55, 179, [], none), (179, .iaload, 180, [20], none), (180, .aload_n 0, 181, [], none), (181, .invokevirtual 418, 184, [204, 0, 1, 12, 837, 838, 839, 662], none), (184, .iload_n 1, 185, [], none), (185, .invokevirtual 386, 188, [210, 3, 1, 12, 807, 808, 809, 662], none), (188, .ireturn, 189, [0], none)] (172, .aload_n 0, 173, [], some [0, 1]) (by decide +kernel) _ _ _).trans rfl
theorem E_X12_records (d : Nat) (M : zM) (l0 : Nat) : evM zcod (d + 1) 223 [.ref l0] M = evk zcod none d zc_X12_records 0 [(0, .ref l0)] [] M := evM_eq zcod d 223 _ M (Nat.le_of_ble_eq_true rfl)
set_option maxRecDepth 20000 in
set_option maxHeartbeats 4000000 in
theorem B_X12_records_0 (d : Nat) (S : mS) (I : mI) (L : mJ) (l0 : Nat) :
  evk zcod none d zc_X12_records 0 [(0, .ref l0)] [] (S, I, L) =
  if kK S l0 = 12 then
 (if ¬ (I l0 59) = (nI 40) then
 evk zcod none d zc_X12_records 49 [(0, .ref l0)] [] (S, I, L)
 else
 evk zcod none d zc_X12_records 11 [(0, .ref l0), (1, .int (nI 0))] [] (S, I, L)) else none :=
  (blk_ok zcod none d zc_X12_records [(1, .getfield 275, 4, [12, 59, 0, 719, 0], none), (4, .bipush 40, 6, [], none), (6, .if_icmp .ne 43, 9, [49], none), (9, .iconst 0, 10, [], none), (10, .istore_n 1, 11, [], none)] (0, .aload_n 0, 1, [], none) (by decide +kernel) _ _ _).trans rfl
set_option maxRecDepth 20000 in
set_option maxHeartbeats 4000000 in
theorem B_X12_records_11 (d : Nat) (S : mS) (I : mI) (L : mJ) (l0 : Nat) (l1 : Int32) :
  evk zcod none d zc_X12_records 11 [(0, .ref l0), (1, .int l1)] [] (S, I, L) =
  if (nI 2262) ≤ l1 then
 evk zcod none d zc_X12_records 39 [(0, .ref l0)] [] (S, I, L)
 else
 if kK S l0 = 12 then
 (if kK S l0 = 12 then
 (if kK S (kR S l0 60) = 20 ∧ zin (l1 + (nI 58)) (kN S (kR S l0 60)) then
 (if kK S (kR S l0 60) = 20 ∧ zin l1 (kN S (kR S l0 60)) then
 (evk zcod none d zc_X12_records 11 [(0, .ref l0), (1, .int (l1 + (nI 1)))] [] (S, (uI I (kR S l0 60) (zix l1) (I (kR S l0 60) (zix (l1 + (nI 58))))), L)) else none) else none) else none) else none :=
  (blk_ok zcod none d zc_X12_records [(12, .sipush 2262, 15, [], none), (15, .if_icmp .ge 24, 18, [39], none), (18, .aload_n 0, 19, [], none), (19, .getfield 140, 22, [12, 60, 2, 647, 0], none), (22, .iload_n 1, 23, [], none), (23, .aload_n 0, 24, [], none), (24, .getfield 140, 27, [12, 60, 2, 647, 0], none), (27, .iload_n 1, 28, [], none), (28, .bipush 58, 30, [], none), (30, .iadd, 31, [], none), (31, .iaload, 32, [20], none), (32, .iastore, 33, [20], none), (33, .iinc 1 1, 36, [], none), (36, .goto (-25), 39, [11], none)] (11, .iload_n 1, 12, [], some [0, 1]) (by decide +kernel) _ _ _).trans rfl
set_option maxRecDepth 20000 in
set_option maxHeartbeats 4000000 in
theorem B_X12_records_39 (d : Nat) (S : mS) (I : mI) (L : mJ) (l0 : Nat) :
  evk zcod none d zc_X12_records 39 [(0, .ref l0)] [] (S, I, L) =
  if kK S l0 = 12 then
 (if kK S l0 = 12 then
 (evk zcod none d zc_X12_records 49 [(0, .ref l0)] [] (S, (uI I l0 59 ((I l0 59) - (nI 1))), L)) else none) else none :=
  (blk_ok zcod none d zc_X12_records [(40, .dup, 41, [], none), (41, .getfield 275, 44, [12, 59, 0, 719, 0], none), (44, .iconst 1, 45, [], none), (45, .isub, 46, [], none), (46, .putfield 275, 49, [12, 59, 0, 719, 0, 0], none)] (39, .aload_n 0, 40, [], some [0]) (by decide +kernel) _ _ _).trans rfl
set_option maxRecDepth 20000 in
set_option maxHeartbeats 4000000 in
theorem B_X12_records_49 (d : Nat) (S : mS) (I : mI) (L : mJ) (l0 : Nat) :
  evk zcod none d zc_X12_records 49 [(0, .ref l0)] [] (S, I, L) =
  evk zcod none d zc_X12_records 51 [(0, .ref l0), (1, .int (nI 0))] [] (S, I, L) :=
  (blk_ok zcod none d zc_X12_records [(50, .istore_n 1, 51, [], none)] (49, .iconst 0, 50, [], some [0]) (by decide +kernel) _ _ _).trans rfl
set_option maxRecDepth 20000 in
set_option maxHeartbeats 4000000 in
theorem B_X12_records_51 (d : Nat) (S : mS) (I : mI) (L : mJ) (l0 : Nat) (l1 : Int32) :
  evk zcod none d zc_X12_records 51 [(0, .ref l0), (1, .int l1)] [] (S, I, L) =
  if (nI 58) ≤ l1 then
 evk zcod none d zc_X12_records 83 [(0, .ref l0)] [] (S, I, L)
 else
 if kK S l0 = 12 then
 (if kK S l0 = 12 then
 (if kK S l0 = 12 then
 (if kK S (kR S l0 52) = 20 ∧ zin l1 (kN S (kR S l0 52)) then
 (if kK S (kR S l0 60) = 20 ∧ zin (((nI 58) * (I l0 59)) + l1) (kN S (kR S l0 60)) then
 (evk zcod none d zc_X12_records 51 [(0, .ref l0), (1, .int (l1 + (nI 1)))] [] (S, (uI I (kR S l0 60) (zix (((nI 58) * (I l0 59)) + l1)) (I (kR S l0 52) (zix l1))), L)) else none) else none) else none) else none) else none :=
  (blk_ok zcod none d zc_X12_records [(52, .bipush 58, 54, [], none), (54, .if_icmp .ge 29, 57, [83], none), (57, .aload_n 0, 58, [], none), (58, .getfield 140, 61, [12, 60, 2, 647, 0], none), (61, .bipush 58, 63, [], none), (63, .aload_n 0, 64, [], none), (64, .getfield 275, 67, [12, 59, 0, 719, 0], none), (67, .imul, 68, [], none), (68, .iload_n 1, 69, [], none), (69, .iadd, 70, [], none), (70, .aload_n 0, 71, [], none), (71, .getfield 122, 74, [12, 52, 2, 641, 0], none), (74, .iload_n 1, 75, [], none), (75, .iaload, 76, [20], none), (76, .iastore, 77, [20], none), (77, .iinc 1 1, 80, [], none), (80, .goto (-29), 83, [51], none)] (51, .iload_n 1, 52, [], some [0, 1]) (by decide +kernel) _ _ _).trans rfl
set_option maxRecDepth 20000 in
set_option maxHeartbeats 4000000 in
theorem B_X12_records_83 (d : Nat) (S : mS) (I : mI) (L : mJ) (l0 : Nat) :
  evk zcod none d zc_X12_records 83 [(0, .ref l0)] [] (S, I, L) =
  if kK S l0 = 12 then
 (if kK S l0 = 12 then
 (if kK S l0 = 12 then
 (bV (evM zcod d 199 [.ref l0] (S, (uI I l0 59 ((I l0 59) + (nI 1))), L)) fun M1 =>
 if M1.1.1 = S.1 then
 (some (none, M1)) else none) else none) else none) else none :=
  (blk_ok zcod none d zc_X12_records [(84, .dup, 85, [], none), (85, .getfield 275, 88, [12, 59, 0, 719, 0], none), (88, .iconst 1, 89, [], none), (89, .iadd, 90, [], none), (90, .putfield 275, 93, [12, 59, 0, 719, 0, 0], none), (93, .aload_n 0, 94, [], none), (94, .invokevirtual 187, 97, [199, 0, 0, 12, 668, 669, 670, 662], none), (97, .return_, 98, [], none)] (83, .aload_n 0, 84, [], some [0]) (by decide +kernel) _ _ _).trans rfl
theorem E_X12_areAtFoot (d : Nat) (M : zM) (l0 : Nat) (l1 : Int32) (l2 : Int32) : evM zcod (d + 1) 224 [.ref l0, .int l1, .int l2] M = evk zcod none d zc_X12_areAtFoot 0 [(0, .ref l0), (1, .int l1), (2, .int l2)] [] M := evM_eq zcod d 224 _ M (Nat.le_of_ble_eq_true rfl)
set_option maxRecDepth 20000 in
set_option maxHeartbeats 4000000 in
theorem B_X12_areAtFoot_0 (d : Nat) (S : mS) (I : mI) (L : mJ) (l0 : Nat) (l1 : Int32) (l2 : Int32) :
  evk zcod none d zc_X12_areAtFoot 0 [(0, .ref l0), (1, .int l1), (2, .int l2)] [] (S, I, L) =
  if kK S l0 = 12 then
 (if kK S (kR S l0 52) = 20 ∧ zin ((nI 7) + l1) (kN S (kR S l0 52)) then
 (if ¬ (I (kR S l0 52) (zix ((nI 7) + l1))) = (nI 0) then
 evk zcod none d zc_X12_areAtFoot 28 [] [] (S, I, L)
 else
 if kK S l0 = 12 then
 (if kK S (kR S l0 52) = 20 ∧ zin ((nI 35) + l2) (kN S (kR S l0 52)) then
 (if (nI 0) ≤ (I (kR S l0 52) (zix ((nI 35) + l2))) then
 evk zcod none d zc_X12_areAtFoot 28 [] [] (S, I, L)
 else
 evk zcod none d zc_X12_areAtFoot 29 [] [.int (nI 1)] (S, I, L)) else none) else none) else none) else none :=
  (blk_ok zcod none d zc_X12_areAtFoot [(1, .getfield 122, 4, [12, 52, 2, 641, 0], none), (4, .bipush 7, 6, [], none), (6, .iload_n 1, 7, [], none), (7, .iadd, 8, [], none), (8, .iaload, 9, [20], none), (9, .ifCond .ne 19, 12, [28], none), (12, .aload_n 0, 13, [], none), (13, .getfield 122, 16, [12, 52, 2, 641, 0], none), (16, .bipush 35, 18, [], none), (18, .iload_n 2, 19, [], none), (19, .iadd, 20, [], none), (20, .iaload, 21, [20], none), (21, .ifCond .ge 7, 24, [28], none), (24, .iconst 1, 25, [], none), (25, .goto 4, 28, [29], none)] (0, .aload_n 0, 1, [], none) (by decide +kernel) _ _ _).trans rfl
set_option maxRecDepth 20000 in
set_option maxHeartbeats 4000000 in
theorem B_X12_areAtFoot_28 (d : Nat) (S : mS) (I : mI) (L : mJ)  :
  evk zcod none d zc_X12_areAtFoot 28 [] [] (S, I, L) =
  evk zcod none d zc_X12_areAtFoot 29 [] [.int (nI 0)] (S, I, L) :=
  (blk_ok zcod none d zc_X12_areAtFoot [] (28, .iconst 0, 29, [], some []) (by decide +kernel) _ _ _).trans rfl
set_option maxRecDepth 20000 in
set_option maxHeartbeats 4000000 in
theorem B_X12_areAtFoot_29 (d : Nat) (S : mS) (I : mI) (L : mJ) (s0 : Int32) :
  evk zcod none d zc_X12_areAtFoot 29 [] [.int s0] (S, I, L) =
  if s0 = nI 0 ∨ s0 = nI 1 then some (some (.int s0), (S, I, L)) else none :=
  (blk_ok zcod none d zc_X12_areAtFoot [] (29, .ireturn, 30, [1], some []) (by decide +kernel) _ _ _).trans rfl
theorem E_X12_areBoth (d : Nat) (M : zM) (l0 : Nat) (l1 : Int32) (l2 : Int32) : evM zcod (d + 1) 225 [.ref l0, .int l1, .int l2] M = evk zcod none d zc_X12_areBoth 0 [(0, .ref l0), (1, .int l1), (2, .int l2)] [] M := evM_eq zcod d 225 _ M (Nat.le_of_ble_eq_true rfl)
set_option maxRecDepth 20000 in
set_option maxHeartbeats 4000000 in
theorem B_X12_areBoth_0 (d : Nat) (S : mS) (I : mI) (L : mJ) (l0 : Nat) (l1 : Int32) (l2 : Int32) :
  evk zcod none d zc_X12_areBoth 0 [(0, .ref l0), (1, .int l1), (2, .int l2)] [] (S, I, L) =
  if kK S l0 = 12 then
 (bI (evM zcod d 195 [.ref l0, .int l1] (S, I, L)) fun x1 M1 =>
 if M1.1.1 = S.1 then
 (if x1 = (nI 0) then
 evk zcod none d zc_X12_areBoth 20 [] [] M1
 else
 if kK M1.1 l0 = 12 then
 (bI (evM zcod d 196 [.ref l0, .int l2] M1) fun x2 M2 =>
 if M2.1.1 = M1.1.1 then
 (if x2 = (nI 0) then
 evk zcod none d zc_X12_areBoth 20 [] [] M2
 else
 evk zcod none d zc_X12_areBoth 21 [] [.int (nI 1)] M2) else none) else none) else none) else none :=
  (blk_ok zcod none d zc_X12_areBoth [(1, .iload_n 1, 2, [], none), (2, .invokevirtual 406, 5, [195, 1, 1, 12, 825, 826, 827, 662], none), (5, .ifCond .eq 15, 8, [20], none), (8, .aload_n 0, 9, [], none), (9, .iload_n 2, 10, [], none), (10, .invokevirtual 409, 13, [196, 1, 1, 12, 828, 829, 830, 662], none), (13, .ifCond .eq 7, 16, [20], none), (16, .iconst 1, 17, [], none), (17, .goto 4, 20, [21], none)] (0, .aload_n 0, 1, [], none) (by decide +kernel) _ _ _).trans rfl
set_option maxRecDepth 20000 in
set_option maxHeartbeats 4000000 in
theorem B_X12_areBoth_20 (d : Nat) (S : mS) (I : mI) (L : mJ)  :
  evk zcod none d zc_X12_areBoth 20 [] [] (S, I, L) =
  evk zcod none d zc_X12_areBoth 21 [] [.int (nI 0)] (S, I, L) :=
  (blk_ok zcod none d zc_X12_areBoth [] (20, .iconst 0, 21, [], some []) (by decide +kernel) _ _ _).trans rfl
set_option maxRecDepth 20000 in
set_option maxHeartbeats 4000000 in
theorem B_X12_areBoth_21 (d : Nat) (S : mS) (I : mI) (L : mJ) (s0 : Int32) :
  evk zcod none d zc_X12_areBoth 21 [] [.int s0] (S, I, L) =
  if s0 = nI 0 ∨ s0 = nI 1 then some (some (.int s0), (S, I, L)) else none :=
  (blk_ok zcod none d zc_X12_areBoth [] (21, .ireturn, 22, [1], some []) (by decide +kernel) _ _ _).trans rfl
theorem E_X12_tie (d : Nat) (M : zM) (l0 : Nat) (l1 : Int32) (l2 : Int32) : evM zcod (d + 1) 226 [.ref l0, .int l1, .int l2] M = evk zcod none d zc_X12_tie 0 [(0, .ref l0), (1, .int l1), (2, .int l2)] [] M := evM_eq zcod d 226 _ M (Nat.le_of_ble_eq_true rfl)
set_option maxRecDepth 20000 in
set_option maxHeartbeats 4000000 in
theorem R_X12_tie_0 (d : Nat) (S : mS) (I : mI) (L : mJ) (l0 : Nat) (l1 : Int32) (l2 : Int32) :
  evk zcod none d zc_X12_tie 0 [(0, .ref l0), (1, .int l1), (2, .int l2)] [] (S, I, L) =
  if kK S l0 = 12 then
 (bI (evM zcod d 225 [.ref l0, .int l1, .int l2] (S, I, L)) fun x1 M1 =>
 if M1.1.1 = S.1 then
 (if ¬ x1 = (nI 0) then
 evk zcod none d zc_X12_tie 11 [(0, .ref l0), (1, .int l1), (2, .int l2)] [] M1
 else
 some (some (.int (Int32.ofInt (-1))), M1)) else none) else none :=
  (blk_ok zcod none d zc_X12_tie [(1, .iload_n 1, 2, [], none), (2, .iload_n 2, 3, [], none), (3, .invokevirtual 424, 6, [225, 2, 1, 12, 843, 844, 845, 662], none), (6, .ifCond .ne 5, 9, [11], none), (9, .iconst (-1), 10, [], none), (10, .ireturn, 11, [0], none)] (0, .aload_n 0, 1, [], none) (by decide +kernel) _ _ _).trans rfl
theorem B_X12_tie_0 (d : Nat) (S : mS) (I : mI) (L : mJ) (l0 : Nat) (l1 : Int32) (l2 : Int32) :
  evk zcod none d zc_X12_tie 0 [(0, .ref l0), (1, .int l1), (2, .int l2)] [] (S, I, L) =
  if kK S l0 = 12 then
 (bI (evM zcod d 225 [.ref l0, .int l1, .int l2] (S, I, L)) fun x1 M1 =>
 if M1.1.1 = S.1 then
 (if ¬ x1 = (nI 0) then
 evk zcod none d zc_X12_tie 11 [(0, .ref l0), (1, .int l1), (2, .int l2)] [] M1
 else
 some (some (.int (-1 : Int32)), M1)) else none) else none := by
  simpa only [cvN] using R_X12_tie_0 d S I L l0 l1 l2
set_option maxRecDepth 20000 in
set_option maxHeartbeats 4000000 in
theorem R_X12_tie_11 (d : Nat) (S : mS) (I : mI) (L : mJ) (l0 : Nat) (l1 : Int32) (l2 : Int32) :
  evk zcod none d zc_X12_tie 11 [(0, .ref l0), (1, .int l1), (2, .int l2)] [] (S, I, L) =
  if kK S l0 = 12 then
 (bI (evM zcod d 224 [.ref l0, .int l1, .int l2] (S, I, L)) fun x1 M1 =>
 if M1.1.1 = S.1 then
 (if ¬ x1 = (nI 0) then
 evk zcod none d zc_X12_tie 23 [(0, .ref l0), (1, .int l1), (2, .int l2)] [] M1
 else
 some (some (.int ((Int8.ofInt (-2)).toInt32)), M1)) else none) else none :=
  (blk_ok zcod none d zc_X12_tie [(12, .iload_n 1, 13, [], none), (13, .iload_n 2, 14, [], none), (14, .invokevirtual 428, 17, [224, 2, 1, 12, 846, 847, 848, 662], none), (17, .ifCond .ne 6, 20, [23], none), (20, .bipush (-2), 22, [], none), (22, .ireturn, 23, [0], none)] (11, .aload_n 0, 12, [], some [0, 1, 2]) (by decide +kernel) _ _ _).trans rfl
theorem B_X12_tie_11 (d : Nat) (S : mS) (I : mI) (L : mJ) (l0 : Nat) (l1 : Int32) (l2 : Int32) :
  evk zcod none d zc_X12_tie 11 [(0, .ref l0), (1, .int l1), (2, .int l2)] [] (S, I, L) =
  if kK S l0 = 12 then
 (bI (evM zcod d 224 [.ref l0, .int l1, .int l2] (S, I, L)) fun x1 M1 =>
 if M1.1.1 = S.1 then
 (if ¬ x1 = (nI 0) then
 evk zcod none d zc_X12_tie 23 [(0, .ref l0), (1, .int l1), (2, .int l2)] [] M1
 else
 some (some (.int (-2 : Int32)), M1)) else none) else none := by
  simpa only [cvN] using R_X12_tie_11 d S I L l0 l1 l2
set_option maxRecDepth 20000 in
set_option maxHeartbeats 4000000 in
theorem B_X12_tie_23 (d : Nat) (S : mS) (I : mI) (L : mJ) (l0 : Nat) (l1 : Int32) (l2 : Int32) :
  evk zcod none d zc_X12_tie 23 [(0, .ref l0), (1, .int l1), (2, .int l2)] [] (S, I, L) =
  if kK S l0 = 12 then
 (bV (evM zcod d 200 [.ref l0] (S, I, L)) fun M1 =>
 if M1.1.1 = S.1 then
 (if kK M1.1 l0 = 12 then
 (if kK M1.1 (kR M1.1 l0 53) = 20 ∧ zin (nI 55) (kN M1.1 (kR M1.1 l0 53)) then
 (if kK M1.1 l0 = 12 then
 (bI (evM zcod d 204 [.ref l0] M1) fun x2 M2 =>
 if M2.1.1 = M1.1.1 then
 (if kK M2.1 l0 = 12 then
 (if kK M2.1 l0 = 12 then
 (if kK M2.1 (kR M2.1 l0 27) = 20 ∧ zin (((nI 5) * (M2.2.1 l0 18)) + l2) (kN M2.1 (kR M2.1 l0 27)) then
 (if kK M2.1 l0 = 12 then
 (if kK M2.1 l0 = 12 then
 (if kK M2.1 (kR M2.1 l0 24) = 20 ∧ zin (((nI 7) * (M2.2.1 l0 18)) + l1) (kN M2.1 (kR M2.1 l0 24)) then
 (if kK M2.1 l0 = 12 then
 (bI (evM zcod d 209 [.ref l0, .int (M1.2.1 (kR M1.1 l0 53) (zix (nI 55))), .int x2, .int (M2.2.1 (kR M2.1 l0 27) (zix (((nI 5) * (M2.2.1 l0 18)) + l2))), .int (M2.2.1 (kR M2.1 l0 24) (zix (((nI 7) * (M2.2.1 l0 18)) + l1)))] M2) fun x3 M3 =>
 if M3.1.1 = M2.1.1 then
 (if kK M3.1 l0 = 12 then
 (if kK M3.1 (kR M3.1 l0 53) = 20 ∧ zin (nI 57) (kN M3.1 (kR M3.1 l0 53)) then
 (if kK M3.1 (kR M3.1 l0 53) = 20 ∧ zin (nI 57) (kN M3.1 (kR M3.1 l0 53)) then
 (evk zcod none d zc_X12_tie 81 [(0, .ref l0), (1, .int l1), (2, .int l2), (3, .int x3)] [] (M3.1, (uI M3.2.1 (kR M3.1 l0 53) (zix (nI 57)) ((M3.2.1 (kR M3.1 l0 53) (zix (nI 57))) + x3)), M3.2.2)) else none) else none) else none) else none) else none) else none) else none) else none) else none) else none) else none) else none) else none) else none) else none) else none) else none :=
  (blk_ok zcod none d zc_X12_tie [(24, .invokevirtual 415, 27, [200, 0, 0, 12, 834, 835, 836, 662], none), (27, .aload_n 0, 28, [], none), (28, .aload_n 0, 29, [], none), (29, .getfield 125, 32, [12, 53, 2, 642, 0], none), (32, .bipush 55, 34, [], none), (34, .iaload, 35, [20], none), (35, .aload_n 0, 36, [], none), (36, .invokevirtual 418, 39, [204, 0, 1, 12, 837, 838, 839, 662], none), (39, .aload_n 0, 40, [], none), (40, .getfield 58, 43, [12, 27, 2, 619, 0], none), (43, .iconst 5, 44, [], none), (44, .aload_n 0, 45, [], none), (45, .getfield 257, 48, [12, 18, 0, 711, 0], none), (48, .imul, 49, [], none), (49, .iload_n 2, 50, [], none), (50, .iadd, 51, [], none), (51, .iaload, 52, [20], none), (52, .aload_n 0, 53, [], none), (53, .getfield 49, 56, [12, 24, 2, 616, 0], none), (56, .bipush 7, 58, [], none), (58, .aload_n 0, 59, [], none), (59, .getfield 257, 62, [12, 18, 0, 711, 0], none), (62, .imul, 63, [], none), (63, .iload_n 1, 64, [], none), (64, .iadd, 65, [], none), (65, .iaload, 66, [20], none), (66, .invokevirtual 421, 69, [209, 4, 1, 12, 840, 841, 842, 662], none), (69, .istore_n 3, 70, [], none), (70, .aload_n 0, 71, [], none), (71, .getfield 125, 74, [12, 53, 2, 642, 0], none), (74, .bipush 57, 76, [], none), (76, .dup2, 77, [], none), (77, .iaload, 78, [20], none), (78, .iload_n 3, 79, [], none), (79, .iadd, 80, [], none), (80, .iastore, 81, [20], none)] (23, .aload_n 0, 24, [], some [0, 1, 2]) (by decide +kernel) _ _ _).trans rfl
set_option maxRecDepth 20000 in
set_option maxHeartbeats 4000000 in
theorem B_X12_tie_81 (d : Nat) (S : mS) (I : mI) (L : mJ) (l0 : Nat) (l1 : Int32) (l2 : Int32) (l3 : Int32) :
  evk zcod none d zc_X12_tie 81 [(0, .ref l0), (1, .int l1), (2, .int l2), (3, .int l3)] [] (S, I, L) =
  if kK S l0 = 12 then
 (if kK S (kR S l0 53) = 20 ∧ zin ((nI 7) + l1) (kN S (kR S l0 53)) then
 (if kK S l0 = 12 then
 (if kK S (kR S l0 53) = 20 ∧ zin ((nI 14) + l1) (kN S (kR S l0 53)) then
 (if kK S l0 = 12 then
 (if kK S (kR S l0 53) = 20 ∧ zin ((nI 21) + l1) (kN S (kR S l0 53)) then
 (if kK S l0 = 12 then
 (if kK S (kR S l0 53) = 20 ∧ zin ((nI 35) + l2) (kN S (kR S l0 53)) then
 (evk zcod none d zc_X12_tie 121 [(0, .ref l0), (2, .int l2), (3, .int l3)] [] (S, (uI (uI (uI (uI I (kR S l0 53) (zix ((nI 7) + l1)) (nI 1)) (kR S l0 53) (zix ((nI 14) + l1)) (nI 0)) (kR S l0 53) (zix ((nI 21) + l1)) l2) (kR S l0 53) (zix ((nI 35) + l2)) l1), L)) else none) else none) else none) else none) else none) else none) else none) else none :=
  (blk_ok zcod none d zc_X12_tie [(82, .getfield 125, 85, [12, 53, 2, 642, 0], none), (85, .bipush 7, 87, [], none), (87, .iload_n 1, 88, [], none), (88, .iadd, 89, [], none), (89, .iconst 1, 90, [], none), (90, .iastore, 91, [20], none), (91, .aload_n 0, 92, [], none), (92, .getfield 125, 95, [12, 53, 2, 642, 0], none), (95, .bipush 14, 97, [], none), (97, .iload_n 1, 98, [], none), (98, .iadd, 99, [], none), (99, .iconst 0, 100, [], none), (100, .iastore, 101, [20], none), (101, .aload_n 0, 102, [], none), (102, .getfield 125, 105, [12, 53, 2, 642, 0], none), (105, .bipush 21, 107, [], none), (107, .iload_n 1, 108, [], none), (108, .iadd, 109, [], none), (109, .iload_n 2, 110, [], none), (110, .iastore, 111, [20], none), (111, .aload_n 0, 112, [], none), (112, .getfield 125, 115, [12, 53, 2, 642, 0], none), (115, .bipush 35, 117, [], none), (117, .iload_n 2, 118, [], none), (118, .iadd, 119, [], none), (119, .iload_n 1, 120, [], none), (120, .iastore, 121, [20], none)] (81, .aload_n 0, 82, [], some [0, 1, 2, 3]) (by decide +kernel) _ _ _).trans rfl
set_option maxRecDepth 20000 in
set_option maxHeartbeats 4000000 in
theorem B_X12_tie_121 (d : Nat) (S : mS) (I : mI) (L : mJ) (l0 : Nat) (l2 : Int32) (l3 : Int32) :
  evk zcod none d zc_X12_tie 121 [(0, .ref l0), (2, .int l2), (3, .int l3)] [] (S, I, L) =
  if kK S l0 = 12 then
 (if kK S (kR S l0 53) = 20 ∧ zin ((nI 45) + l2) (kN S (kR S l0 53)) then
 (if kK S (kR S l0 53) = 20 ∧ zin ((nI 45) + l2) (kN S (kR S l0 53)) then
 (if kK S l0 = 12 then
 (bV (evM zcod d 223 [.ref l0] (S, (uI I (kR S l0 53) (zix ((nI 45) + l2)) ((I (kR S l0 53) (zix ((nI 45) + l2))) + (nI 1))), L)) fun M1 =>
 if M1.1.1 = S.1 then
 (some (some (.int l3), M1)) else none) else none) else none) else none) else none :=
  (blk_ok zcod none d zc_X12_tie [(122, .getfield 125, 125, [12, 53, 2, 642, 0], none), (125, .bipush 45, 127, [], none), (127, .iload_n 2, 128, [], none), (128, .iadd, 129, [], none), (129, .dup2, 130, [], none), (130, .iaload, 131, [20], none), (131, .iconst 1, 132, [], none), (132, .iadd, 133, [], none), (133, .iastore, 134, [20], none), (134, .aload_n 0, 135, [], none), (135, .invokevirtual 431, 138, [223, 0, 0, 12, 849, 850, 851, 662], none), (138, .iload_n 3, 139, [], none), (139, .ireturn, 140, [0], none)] (121, .aload_n 0, 122, [], some [0, 2, 3]) (by decide +kernel) _ _ _).trans rfl
theorem E_X12_move (d : Nat) (M : zM) (l0 : Nat) (l1 : Int32) (l2 : Int32) : evM zcod (d + 1) 227 [.ref l0, .int l1, .int l2] M = evk zcod none d zc_X12_move 0 [(0, .ref l0), (1, .int l1), (2, .int l2)] [] M := evM_eq zcod d 227 _ M (Nat.le_of_ble_eq_true rfl)
set_option maxRecDepth 20000 in
set_option maxHeartbeats 4000000 in
theorem B_X12_move_0 (d : Nat) (S : mS) (I : mI) (L : mJ) (l0 : Nat) (l1 : Int32) (l2 : Int32) :
  evk zcod none d zc_X12_move 0 [(0, .ref l0), (1, .int l1), (2, .int l2)] [] (S, I, L) =
  if kK S l0 = 12 then
 (bI (evM zcod d 197 [.ref l0, .int l1] (S, I, L)) fun x1 M1 =>
 if M1.1.1 = S.1 then
 (if x1 = (nI 0) then
 evk zcod none d zc_X12_move 31 [] [] M1
 else
 bI (evM zcod d 191 [.int l2, .int (nI 0), .int (nI 19)] M1) fun x2 M2 =>
 if M2.1.1 = M1.1.1 then
 (if x2 = (nI 0) then
 evk zcod none d zc_X12_move 31 [] [] M2
 else
 if kK M2.1 l0 = 12 then
 (if kK M2.1 (kR M2.1 l0 52) = 20 ∧ zin ((nI 50) + l1) (kN M2.1 (kR M2.1 l0 52)) then
 (if ¬ (M2.2.1 (kR M2.1 l0 52) (zix ((nI 50) + l1))) = l2 then
 evk zcod none d zc_X12_move 33 [(0, .ref l0), (1, .int l1), (2, .int l2)] [] M2
 else
 evk zcod none d zc_X12_move 31 [] [] M2) else none) else none) else none) else none) else none :=
  (blk_ok zcod none d zc_X12_move [(1, .iload_n 1, 2, [], none), (2, .invokevirtual 412, 5, [197, 1, 1, 12, 831, 832, 833, 662], none), (5, .ifCond .eq 26, 8, [31], none), (8, .iload_n 2, 9, [], none), (9, .iconst 0, 10, [], none), (10, .bipush 19, 12, [], none), (12, .invokestatic 340, 15, [191, 3, 1, 0, 771, 772, 662], none), (15, .ifCond .eq 16, 18, [31], none), (18, .aload_n 0, 19, [], none), (19, .getfield 122, 22, [12, 52, 2, 641, 0], none), (22, .bipush 50, 24, [], none), (24, .iload_n 1, 25, [], none), (25, .iadd, 26, [], none), (26, .iaload, 27, [20], none), (27, .iload_n 2, 28, [], none), (28, .if_icmp .ne 5, 31, [33], none)] (0, .aload_n 0, 1, [], none) (by decide +kernel) _ _ _).trans rfl
set_option maxRecDepth 20000 in
set_option maxHeartbeats 4000000 in
theorem B_X12_move_31 (d : Nat) (S : mS) (I : mI) (L : mJ)  :
  evk zcod none d zc_X12_move 31 [] [] (S, I, L) =
  some (some (.int (nI 0)), (S, I, L)) :=
  (blk_ok zcod none d zc_X12_move [(32, .ireturn, 33, [1], none)] (31, .iconst 0, 32, [], some []) (by decide +kernel) _ _ _).trans rfl
set_option maxRecDepth 20000 in
set_option maxHeartbeats 4000000 in
theorem B_X12_move_33 (d : Nat) (S : mS) (I : mI) (L : mJ) (l0 : Nat) (l1 : Int32) (l2 : Int32) :
  evk zcod none d zc_X12_move 33 [(0, .ref l0), (1, .int l1), (2, .int l2)] [] (S, I, L) =
  if kK S l0 = 12 then
 (bV (evM zcod d 200 [.ref l0] (S, I, L)) fun M1 =>
 if M1.1.1 = S.1 then
 (if kK M1.1 l0 = 12 then
 (if kK M1.1 (kR M1.1 l0 53) = 20 ∧ zin ((nI 50) + l1) (kN M1.1 (kR M1.1 l0 53)) then
 (if kK M1.1 l0 = 12 then
 (bV (evM zcod d 223 [.ref l0] (M1.1, (uI M1.2.1 (kR M1.1 l0 53) (zix ((nI 50) + l1)) l2), M1.2.2)) fun M2 =>
 if M2.1.1 = M1.1.1 then
 (some (some (.int (nI 1)), M2)) else none) else none) else none) else none) else none) else none :=
  (blk_ok zcod none d zc_X12_move [(34, .invokevirtual 415, 37, [200, 0, 0, 12, 834, 835, 836, 662], none), (37, .aload_n 0, 38, [], none), (38, .getfield 125, 41, [12, 53, 2, 642, 0], none), (41, .bipush 50, 43, [], none), (43, .iload_n 1, 44, [], none), (44, .iadd, 45, [], none), (45, .iload_n 2, 46, [], none), (46, .iastore, 47, [20], none), (47, .aload_n 0, 48, [], none), (48, .invokevirtual 431, 51, [223, 0, 0, 12, 849, 850, 851, 662], none), (51, .iconst 1, 52, [], none), (52, .ireturn, 53, [1], none)] (33, .aload_n 0, 34, [], some [0, 1, 2]) (by decide +kernel) _ _ _).trans rfl
theorem E_X12_patch (d : Nat) (M : zM) (l0 : Nat) (l1 : Int32) (l2 : Int32) : evM zcod (d + 1) 228 [.ref l0, .int l1, .int l2] M = evk zcod none d zc_X12_patch 0 [(0, .ref l0), (1, .int l1), (2, .int l2)] [] M := evM_eq zcod d 228 _ M (Nat.le_of_ble_eq_true rfl)
set_option maxRecDepth 20000 in
set_option maxHeartbeats 4000000 in
theorem B_X12_patch_0 (d : Nat) (S : mS) (I : mI) (L : mJ) (l0 : Nat) (l1 : Int32) (l2 : Int32) :
  evk zcod none d zc_X12_patch 0 [(0, .ref l0), (1, .int l1), (2, .int l2)] [] (S, I, L) =
  if kK S l0 = 12 then
 (bI (evM zcod d 196 [.ref l0, .int l1] (S, I, L)) fun x1 M1 =>
 if M1.1.1 = S.1 then
 (if x1 = (nI 0) then
 evk zcod none d zc_X12_patch 42 [] [] M1
 else
 if kK M1.1 l0 = 12 then
 (if kK M1.1 (kR M1.1 l0 52) = 20 ∧ zin ((nI 35) + l1) (kN M1.1 (kR M1.1 l0 52)) then
 (if (nI 0) ≤ (M1.2.1 (kR M1.1 l0 52) (zix ((nI 35) + l1))) then
 evk zcod none d zc_X12_patch 42 [] [] M1
 else
 if kK M1.1 l0 = 12 then
 (if kK M1.1 (kR M1.1 l0 52) = 20 ∧ zin ((nI 40) + l1) (kN M1.1 (kR M1.1 l0 52)) then
 (if l2 = (nI 0) then
 evk zcod none d zc_X12_patch 37 [(0, .ref l0), (1, .int l1), (2, .int l2)] [.int (M1.2.1 (kR M1.1 l0 52) (zix ((nI 40) + l1)))] M1
 else
 evk zcod none d zc_X12_patch 39 [(0, .ref l0), (1, .int l1), (2, .int l2)] [.int (nI 3), .int (M1.2.1 (kR M1.1 l0 52) (zix ((nI 40) + l1)))] M1) else none) else none) else none) else none) else none) else none :=
  (blk_ok zcod none d zc_X12_patch [(1, .iload_n 1, 2, [], none), (2, .invokevirtual 409, 5, [196, 1, 1, 12, 828, 829, 830, 662], none), (5, .ifCond .eq 37, 8, [42], none), (8, .aload_n 0, 9, [], none), (9, .getfield 122, 12, [12, 52, 2, 641, 0], none), (12, .bipush 35, 14, [], none), (14, .iload_n 1, 15, [], none), (15, .iadd, 16, [], none), (16, .iaload, 17, [20], none), (17, .ifCond .ge 25, 20, [42], none), (20, .aload_n 0, 21, [], none), (21, .getfield 122, 24, [12, 52, 2, 641, 0], none), (24, .bipush 40, 26, [], none), (26, .iload_n 1, 27, [], none), (27, .iadd, 28, [], none), (28, .iaload, 29, [20], none), (29, .iload_n 2, 30, [], none), (30, .ifCond .eq 7, 33, [37], none), (33, .iconst 3, 34, [], none), (34, .goto 5, 37, [39], none)] (0, .aload_n 0, 1, [], none) (by decide +kernel) _ _ _).trans rfl
set_option maxRecDepth 20000 in
set_option maxHeartbeats 4000000 in
theorem R_X12_patch_37 (d : Nat) (S : mS) (I : mI) (L : mJ) (l0 : Nat) (l1 : Int32) (l2 : Int32) (s0 : Int32) :
  evk zcod none d zc_X12_patch 37 [(0, .ref l0), (1, .int l1), (2, .int l2)] [.int s0] (S, I, L) =
  evk zcod none d zc_X12_patch 39 [(0, .ref l0), (1, .int l1), (2, .int l2)] [.int ((Int8.ofInt (-3)).toInt32), .int s0] (S, I, L) :=
  (blk_ok zcod none d zc_X12_patch [] (37, .bipush (-3), 39, [], some [0, 1, 2]) (by decide +kernel) _ _ _).trans rfl
theorem B_X12_patch_37 (d : Nat) (S : mS) (I : mI) (L : mJ) (l0 : Nat) (l1 : Int32) (l2 : Int32) (s0 : Int32) :
  evk zcod none d zc_X12_patch 37 [(0, .ref l0), (1, .int l1), (2, .int l2)] [.int s0] (S, I, L) =
  evk zcod none d zc_X12_patch 39 [(0, .ref l0), (1, .int l1), (2, .int l2)] [.int (-3 : Int32), .int s0] (S, I, L) := by
  simpa only [cvN] using R_X12_patch_37 d S I L l0 l1 l2 s0
set_option maxRecDepth 20000 in
set_option maxHeartbeats 4000000 in
theorem B_X12_patch_39 (d : Nat) (S : mS) (I : mI) (L : mJ) (l0 : Nat) (l1 : Int32) (l2 : Int32) (s0 : Int32) (s1 : Int32) :
  evk zcod none d zc_X12_patch 39 [(0, .ref l0), (1, .int l1), (2, .int l2)] [.int s1, .int s0] (S, I, L) =
  if ¬ s0 = s1 then
 evk zcod none d zc_X12_patch 44 [(0, .ref l0), (1, .int l1), (2, .int l2)] [] (S, I, L)
 else
 evk zcod none d zc_X12_patch 42 [] [] (S, I, L) :=
  (blk_ok zcod none d zc_X12_patch [] (39, .if_icmp .ne 5, 42, [44], some [0, 1, 2]) (by decide +kernel) _ _ _).trans rfl
set_option maxRecDepth 20000 in
set_option maxHeartbeats 4000000 in
theorem B_X12_patch_42 (d : Nat) (S : mS) (I : mI) (L : mJ)  :
  evk zcod none d zc_X12_patch 42 [] [] (S, I, L) =
  some (some (.int (nI 0)), (S, I, L)) :=
  (blk_ok zcod none d zc_X12_patch [(43, .ireturn, 44, [1], none)] (42, .iconst 0, 43, [], some []) (by decide +kernel) _ _ _).trans rfl
set_option maxRecDepth 20000 in
set_option maxHeartbeats 4000000 in
theorem B_X12_patch_44 (d : Nat) (S : mS) (I : mI) (L : mJ) (l0 : Nat) (l1 : Int32) (l2 : Int32) :
  evk zcod none d zc_X12_patch 44 [(0, .ref l0), (1, .int l1), (2, .int l2)] [] (S, I, L) =
  if kK S l0 = 12 then
 (bV (evM zcod d 200 [.ref l0] (S, I, L)) fun M1 =>
 if M1.1.1 = S.1 then
 (if kK M1.1 l0 = 12 then
 (if kK M1.1 (kR M1.1 l0 53) = 20 ∧ zin ((nI 40) + l1) (kN M1.1 (kR M1.1 l0 53)) then
 (if l2 = (nI 0) then
 evk zcod none d zc_X12_patch 66 [(0, .ref l0)] [.int (M1.2.1 (kR M1.1 l0 53) (zix ((nI 40) + l1))), .int ((nI 40) + l1), .ref (kR M1.1 l0 53)] M1
 else
 evk zcod none d zc_X12_patch 67 [(0, .ref l0)] [.int (nI 1), .int (M1.2.1 (kR M1.1 l0 53) (zix ((nI 40) + l1))), .int ((nI 40) + l1), .ref (kR M1.1 l0 53)] M1) else none) else none) else none) else none :=
  (blk_ok zcod none d zc_X12_patch [(45, .invokevirtual 415, 48, [200, 0, 0, 12, 834, 835, 836, 662], none), (48, .aload_n 0, 49, [], none), (49, .getfield 125, 52, [12, 53, 2, 642, 0], none), (52, .bipush 40, 54, [], none), (54, .iload_n 1, 55, [], none), (55, .iadd, 56, [], none), (56, .dup2, 57, [], none), (57, .iaload, 58, [20], none), (58, .iload_n 2, 59, [], none), (59, .ifCond .eq 7, 62, [66], none), (62, .iconst 1, 63, [], none), (63, .goto 4, 66, [67], none)] (44, .aload_n 0, 45, [], some [0, 1, 2]) (by decide +kernel) _ _ _).trans rfl
set_option maxRecDepth 20000 in
set_option maxHeartbeats 4000000 in
theorem R_X12_patch_66 (d : Nat) (S : mS) (I : mI) (L : mJ) (l0 : Nat) (s0 : Nat) (s1 : Int32) (s2 : Int32) :
  evk zcod none d zc_X12_patch 66 [(0, .ref l0)] [.int s2, .int s1, .ref s0] (S, I, L) =
  evk zcod none d zc_X12_patch 67 [(0, .ref l0)] [.int (Int32.ofInt (-1)), .int s2, .int s1, .ref s0] (S, I, L) :=
  (blk_ok zcod none d zc_X12_patch [] (66, .iconst (-1), 67, [], some [0]) (by decide +kernel) _ _ _).trans rfl
theorem B_X12_patch_66 (d : Nat) (S : mS) (I : mI) (L : mJ) (l0 : Nat) (s0 : Nat) (s1 : Int32) (s2 : Int32) :
  evk zcod none d zc_X12_patch 66 [(0, .ref l0)] [.int s2, .int s1, .ref s0] (S, I, L) =
  evk zcod none d zc_X12_patch 67 [(0, .ref l0)] [.int (-1 : Int32), .int s2, .int s1, .ref s0] (S, I, L) := by
  simpa only [cvN] using R_X12_patch_66 d S I L l0 s0 s1 s2
set_option maxRecDepth 20000 in
set_option maxHeartbeats 4000000 in
theorem B_X12_patch_67 (d : Nat) (S : mS) (I : mI) (L : mJ) (l0 : Nat) (s0 : Nat) (s1 : Int32) (s2 : Int32) (s3 : Int32) :
  evk zcod none d zc_X12_patch 67 [(0, .ref l0)] [.int s3, .int s2, .int s1, .ref s0] (S, I, L) =
  if kK S s0 = 20 ∧ zin s1 (kN S s0) then
 (if kK S l0 = 12 then
 (bV (evM zcod d 223 [.ref l0] (S, (uI I s0 (zix s1) (s2 + s3)), L)) fun M1 =>
 if M1.1.1 = S.1 then
 (some (some (.int (nI 1)), M1)) else none) else none) else none :=
  (blk_ok zcod none d zc_X12_patch [(68, .iastore, 69, [20], none), (69, .aload_n 0, 70, [], none), (70, .invokevirtual 431, 73, [223, 0, 0, 12, 849, 850, 851, 662], none), (73, .iconst 1, 74, [], none), (74, .ireturn, 75, [1], none)] (67, .iadd, 68, [], some [0]) (by decide +kernel) _ _ _).trans rfl
theorem E_X12_hours (d : Nat) (M : zM) (l0 : Nat) (l1 : Int32) : evM zcod (d + 1) 229 [.ref l0, .int l1] M = evk zcod none d zc_X12_hours 0 [(0, .ref l0), (1, .int l1)] [] M := evM_eq zcod d 229 _ M (Nat.le_of_ble_eq_true rfl)
set_option maxRecDepth 20000 in
set_option maxHeartbeats 4000000 in
theorem R_X12_hours_0 (d : Nat) (S : mS) (I : mI) (L : mJ) (l0 : Nat) (l1 : Int32) :
  evk zcod none d zc_X12_hours 0 [(0, .ref l0), (1, .int l1)] [] (S, I, L) =
  bI (evM zcod d 191 [.int l1, .int (nI 0), .int (nI 72)] (S, I, L)) fun x1 M1 =>
 if M1.1.1 = S.1 then
 (if ¬ x1 = (nI 0) then
 evk zcod none d zc_X12_hours 12 [(0, .ref l0), (1, .int l1)] [] M1
 else
 some (some (.int (Int32.ofInt (-1))), M1)) else none :=
  (blk_ok zcod none d zc_X12_hours [(1, .iconst 0, 2, [], none), (2, .bipush 72, 4, [], none), (4, .invokestatic 340, 7, [191, 3, 1, 0, 771, 772, 662], none), (7, .ifCond .ne 5, 10, [12], none), (10, .iconst (-1), 11, [], none), (11, .ireturn, 12, [0], none)] (0, .iload_n 1, 1, [], none) (by decide +kernel) _ _ _).trans rfl
theorem B_X12_hours_0 (d : Nat) (S : mS) (I : mI) (L : mJ) (l0 : Nat) (l1 : Int32) :
  evk zcod none d zc_X12_hours 0 [(0, .ref l0), (1, .int l1)] [] (S, I, L) =
  bI (evM zcod d 191 [.int l1, .int (nI 0), .int (nI 72)] (S, I, L)) fun x1 M1 =>
 if M1.1.1 = S.1 then
 (if ¬ x1 = (nI 0) then
 evk zcod none d zc_X12_hours 12 [(0, .ref l0), (1, .int l1)] [] M1
 else
 some (some (.int (-1 : Int32)), M1)) else none := by
  simpa only [cvN] using R_X12_hours_0 d S I L l0 l1
set_option maxRecDepth 20000 in
set_option maxHeartbeats 4000000 in
theorem B_X12_hours_12 (d : Nat) (S : mS) (I : mI) (L : mJ) (l0 : Nat) (l1 : Int32) :
  evk zcod none d zc_X12_hours 12 [(0, .ref l0), (1, .int l1)] [] (S, I, L) =
  if ¬ l1 = (nI 0) then
 evk zcod none d zc_X12_hours 24 [(0, .ref l0), (1, .int l1)] [] (S, I, L)
 else
 if kK S l0 = 12 then
 (if kK S (kR S l0 52) = 20 ∧ zin (nI 55) (kN S (kR S l0 52)) then
 (some (some (.int (I (kR S l0 52) (zix (nI 55)))), (S, I, L))) else none) else none :=
  (blk_ok zcod none d zc_X12_hours [(13, .ifCond .ne 11, 16, [24], none), (16, .aload_n 0, 17, [], none), (17, .getfield 122, 20, [12, 52, 2, 641, 0], none), (20, .bipush 55, 22, [], none), (22, .iaload, 23, [20], none), (23, .ireturn, 24, [0], none)] (12, .iload_n 1, 13, [], some [0, 1]) (by decide +kernel) _ _ _).trans rfl
set_option maxRecDepth 20000 in
set_option maxHeartbeats 4000000 in
theorem B_X12_hours_24 (d : Nat) (S : mS) (I : mI) (L : mJ) (l0 : Nat) (l1 : Int32) :
  evk zcod none d zc_X12_hours 24 [(0, .ref l0), (1, .int l1)] [] (S, I, L) =
  if kK S l0 = 12 then
 (bV (evM zcod d 200 [.ref l0] (S, I, L)) fun M1 =>
 if M1.1.1 = S.1 then
 (if kK M1.1 l0 = 12 then
 (bV (evM zcod d 217 [.ref l0, .int l1] M1) fun M2 =>
 if M2.1.1 = M1.1.1 then
 (if kK M2.1 l0 = 12 then
 (bV (evM zcod d 223 [.ref l0] M2) fun M3 =>
 if M3.1.1 = M2.1.1 then
 (if kK M3.1 l0 = 12 then
 (if kK M3.1 (kR M3.1 l0 52) = 20 ∧ zin (nI 55) (kN M3.1 (kR M3.1 l0 52)) then
 (some (some (.int (M3.2.1 (kR M3.1 l0 52) (zix (nI 55)))), M3)) else none) else none) else none) else none) else none) else none) else none) else none :=
  (blk_ok zcod none d zc_X12_hours [(25, .invokevirtual 415, 28, [200, 0, 0, 12, 834, 835, 836, 662], none), (28, .aload_n 0, 29, [], none), (29, .iload_n 1, 30, [], none), (30, .invokevirtual 434, 33, [217, 1, 0, 12, 852, 853, 854, 662], none), (33, .aload_n 0, 34, [], none), (34, .invokevirtual 431, 37, [223, 0, 0, 12, 849, 850, 851, 662], none), (37, .aload_n 0, 38, [], none), (38, .getfield 122, 41, [12, 52, 2, 641, 0], none), (41, .bipush 55, 43, [], none), (43, .iaload, 44, [20], none), (44, .ireturn, 45, [0], none)] (24, .aload_n 0, 25, [], some [0, 1]) (by decide +kernel) _ _ _).trans rfl
