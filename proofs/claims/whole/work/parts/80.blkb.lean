/-! block equations over (S, I, L): 80.blkb -/
theorem E_X10_scan (d : Nat) (M : zM) (l0 : Nat) (l1 : Nat) (l2 : Int32) : evM zcod (d + 1) 36 [.ref l0, .ref l1, .int l2] M = evk zcod none d zc_X10_scan 0 [(0, .ref l0), (1, .ref l1), (2, .int l2)] [] M := evM_eq zcod d 36 _ M (Nat.le_of_ble_eq_true rfl)
set_option maxRecDepth 20000 in
set_option maxHeartbeats 4000000 in
theorem B_X10_scan_0 (d : Nat) (S : mS) (I : mI) (L : mJ) (l0 : Nat) (l1 : Nat) (l2 : Int32) :
  evk zcod none d zc_X10_scan 0 [(0, .ref l0), (1, .ref l1), (2, .int l2)] [] (S, I, L) =
  if kK S l0 = 10 ∧ l1 < S.1 + 7 then
 (if kK (uR S l0 5 l1) l1 = 21 then
 (bI (evM zcod d 275 [.int l2, .int (nI (kN (uR S l0 5 l1) l1))] ((uR S l0 5 l1), I, L)) fun x1 M1 =>
 if M1.1.1 = (uR S l0 5 l1).1 then
 (if kK M1.1 l0 = 10 then
 (if kK M1.1 l0 = 10 then
 (evk zcod none d zc_X10_scan 20 [(0, .ref l0)] [] (M1.1, (uI (uI M1.2.1 l0 6 x1) l0 7 (nI 0)), M1.2.2)) else none) else none) else none) else none) else none :=
  (blk_ok zcod none d zc_X10_scan [(1, .aload_n 1, 2, [], none), (2, .putfield 29, 5, [10, 5, 2, 114, 0, 0], none), (5, .aload_n 0, 6, [], none), (6, .iload_n 2, 7, [], none), (7, .aload_n 1, 8, [], none), (8, .arraylength, 9, [21], none), (9, .invokestatic 55, 12, [275, 2, 1, 0, 127, 16, 17], none), (12, .putfield 33, 15, [10, 6, 0, 115, 0, 0], none), (15, .aload_n 0, 16, [], none), (16, .iconst 0, 17, [], none), (17, .putfield 36, 20, [10, 7, 0, 116, 0, 0], none)] (0, .aload_n 0, 1, [], none) (by decide +kernel) _ _ _).trans rfl
set_option maxRecDepth 20000 in
set_option maxHeartbeats 4000000 in
theorem B_X10_scan_20 (d : Nat) (S : mS) (I : mI) (L : mJ) (l0 : Nat) :
  evk zcod none d zc_X10_scan 20 [(0, .ref l0)] [] (S, I, L) =
  if kK S l0 = 10 then
 (evk zcod none d zc_X10_scan 27 [(0, .ref l0), (3, .int (nI 0))] [] (S, (uI I l0 4 (nI 0)), L)) else none :=
  (blk_ok zcod none d zc_X10_scan [(21, .iconst 0, 22, [], none), (22, .putfield 25, 25, [10, 4, 0, 112, 0, 0], none), (25, .iconst 0, 26, [], none), (26, .istore_n 3, 27, [], none)] (20, .aload_n 0, 21, [], some [0]) (by decide +kernel) _ _ _).trans rfl
set_option maxRecDepth 20000 in
set_option maxHeartbeats 4000000 in
theorem B_X10_scan_27 (d : Nat) (S : mS) (I : mI) (L : mJ) (l0 : Nat) (l3 : Int32) :
  evk zcod none d zc_X10_scan 27 [(0, .ref l0), (3, .int l3)] [] (S, I, L) =
  if kK S l0 = 10 then
 (if kK S (kR S l0 1) = 20 then
 (if (nI (kN S (kR S l0 1))) ≤ l3 then
 evk zcod none d zc_X10_scan 46 [] [] (S, I, L)
 else
 if kK S l0 = 10 then
 (bV (evM zcod d 40 [.ref l0] (S, I, L)) fun M1 =>
 if M1.1.1 = S.1 then
 (evk zcod none d zc_X10_scan 27 [(0, .ref l0), (3, .int (l3 + (nI 1)))] [] M1) else none) else none) else none) else none :=
  (blk_ok zcod none d zc_X10_scan [(28, .aload_n 0, 29, [], none), (29, .getfield 15, 32, [10, 1, 2, 109, 0], none), (32, .arraylength, 33, [20], none), (33, .if_icmp .ge 13, 36, [46], none), (36, .aload_n 0, 37, [], none), (37, .invokevirtual 61, 40, [40, 0, 0, 10, 128, 129, 130, 126], none), (40, .iinc 3 1, 43, [], none), (43, .goto (-16), 46, [27], none)] (27, .iload_n 3, 28, [], some [0, 3]) (by decide +kernel) _ _ _).trans rfl
set_option maxRecDepth 20000 in
set_option maxHeartbeats 4000000 in
theorem B_X10_scan_46 (d : Nat) (S : mS) (I : mI) (L : mJ)  :
  evk zcod none d zc_X10_scan 46 [] [] (S, I, L) =
  some (none, (S, I, L)) :=
  (blk_ok zcod none d zc_X10_scan [] (46, .return_, 47, [], some []) (by decide +kernel) _ _ _).trans rfl
theorem E_X10_kindAt (d : Nat) (M : zM) (l0 : Nat) (l1 : Int32) : evM zcod (d + 1) 37 [.ref l0, .int l1] M = evk zcod none d zc_X10_kindAt 0 [(0, .ref l0), (1, .int l1)] [] M := evM_eq zcod d 37 _ M (Nat.le_of_ble_eq_true rfl)
set_option maxRecDepth 20000 in
set_option maxHeartbeats 4000000 in
theorem B_X10_kindAt_0 (d : Nat) (S : mS) (I : mI) (L : mJ) (l0 : Nat) (l1 : Int32) :
  evk zcod none d zc_X10_kindAt 0 [(0, .ref l0), (1, .int l1)] [] (S, I, L) =
  if l1 < (nI 0) then
 evk zcod none d zc_X10_kindAt 21 [] [] (S, I, L)
 else
 if kK S l0 = 10 then
 (if (I l0 4) ≤ l1 then
 evk zcod none d zc_X10_kindAt 21 [] [] (S, I, L)
 else
 if kK S l0 = 10 then
 (if kK S (kR S l0 1) = 20 ∧ zin l1 (kN S (kR S l0 1)) then
 (evk zcod none d zc_X10_kindAt 22 [] [.int (I (kR S l0 1) (zix l1))] (S, I, L)) else none) else none) else none :=
  (blk_ok zcod none d zc_X10_kindAt [(1, .ifCond .lt 20, 4, [21], none), (4, .iload_n 1, 5, [], none), (5, .aload_n 0, 6, [], none), (6, .getfield 25, 9, [10, 4, 0, 112, 0], none), (9, .if_icmp .ge 12, 12, [21], none), (12, .aload_n 0, 13, [], none), (13, .getfield 15, 16, [10, 1, 2, 109, 0], none), (16, .iload_n 1, 17, [], none), (17, .iaload, 18, [20], none), (18, .goto 4, 21, [22], none)] (0, .iload_n 1, 1, [], none) (by decide +kernel) _ _ _).trans rfl
set_option maxRecDepth 20000 in
set_option maxHeartbeats 4000000 in
theorem B_X10_kindAt_21 (d : Nat) (S : mS) (I : mI) (L : mJ)  :
  evk zcod none d zc_X10_kindAt 21 [] [] (S, I, L) =
  evk zcod none d zc_X10_kindAt 22 [] [.int (nI 1)] (S, I, L) :=
  (blk_ok zcod none d zc_X10_kindAt [] (21, .iconst 1, 22, [], some []) (by decide +kernel) _ _ _).trans rfl
set_option maxRecDepth 20000 in
set_option maxHeartbeats 4000000 in
theorem B_X10_kindAt_22 (d : Nat) (S : mS) (I : mI) (L : mJ) (s0 : Int32) :
  evk zcod none d zc_X10_kindAt 22 [] [.int s0] (S, I, L) =
  some (some (.int s0), (S, I, L)) :=
  (blk_ok zcod none d zc_X10_kindAt [] (22, .ireturn, 23, [0], some []) (by decide +kernel) _ _ _).trans rfl
theorem E_X10_placeAt (d : Nat) (M : zM) (l0 : Nat) (l1 : Int32) : evM zcod (d + 1) 38 [.ref l0, .int l1] M = evk zcod none d zc_X10_placeAt 0 [(0, .ref l0), (1, .int l1)] [] M := evM_eq zcod d 38 _ M (Nat.le_of_ble_eq_true rfl)
set_option maxRecDepth 20000 in
set_option maxHeartbeats 4000000 in
theorem B_X10_placeAt_0 (d : Nat) (S : mS) (I : mI) (L : mJ) (l0 : Nat) (l1 : Int32) :
  evk zcod none d zc_X10_placeAt 0 [(0, .ref l0), (1, .int l1)] [] (S, I, L) =
  if l1 < (nI 0) then
 evk zcod none d zc_X10_placeAt 21 [(0, .ref l0)] [] (S, I, L)
 else
 if kK S l0 = 10 then
 (if (I l0 4) ≤ l1 then
 evk zcod none d zc_X10_placeAt 21 [(0, .ref l0)] [] (S, I, L)
 else
 if kK S l0 = 10 then
 (if kK S (kR S l0 2) = 20 ∧ zin l1 (kN S (kR S l0 2)) then
 (evk zcod none d zc_X10_placeAt 25 [] [.int (I (kR S l0 2) (zix l1))] (S, I, L)) else none) else none) else none :=
  (blk_ok zcod none d zc_X10_placeAt [(1, .ifCond .lt 20, 4, [21], none), (4, .iload_n 1, 5, [], none), (5, .aload_n 0, 6, [], none), (6, .getfield 25, 9, [10, 4, 0, 112, 0], none), (9, .if_icmp .ge 12, 12, [21], none), (12, .aload_n 0, 13, [], none), (13, .getfield 19, 16, [10, 2, 2, 110, 0], none), (16, .iload_n 1, 17, [], none), (17, .iaload, 18, [20], none), (18, .goto 7, 21, [25], none)] (0, .iload_n 1, 1, [], none) (by decide +kernel) _ _ _).trans rfl
set_option maxRecDepth 20000 in
set_option maxHeartbeats 4000000 in
theorem B_X10_placeAt_21 (d : Nat) (S : mS) (I : mI) (L : mJ) (l0 : Nat) :
  evk zcod none d zc_X10_placeAt 21 [(0, .ref l0)] [] (S, I, L) =
  if kK S l0 = 10 then
 (evk zcod none d zc_X10_placeAt 25 [] [.int (I l0 6)] (S, I, L)) else none :=
  (blk_ok zcod none d zc_X10_placeAt [(22, .getfield 33, 25, [10, 6, 0, 115, 0], none)] (21, .aload_n 0, 22, [], some [0]) (by decide +kernel) _ _ _).trans rfl
set_option maxRecDepth 20000 in
set_option maxHeartbeats 4000000 in
theorem B_X10_placeAt_25 (d : Nat) (S : mS) (I : mI) (L : mJ) (s0 : Int32) :
  evk zcod none d zc_X10_placeAt 25 [] [.int s0] (S, I, L) =
  some (some (.int s0), (S, I, L)) :=
  (blk_ok zcod none d zc_X10_placeAt [] (25, .ireturn, 26, [0], some []) (by decide +kernel) _ _ _).trans rfl
theorem E_X10_valueAt (d : Nat) (M : zM) (l0 : Nat) (l1 : Int32) : evM zcod (d + 1) 39 [.ref l0, .int l1] M = evk zcod none d zc_X10_valueAt 0 [(0, .ref l0), (1, .int l1)] [] M := evM_eq zcod d 39 _ M (Nat.le_of_ble_eq_true rfl)
set_option maxRecDepth 20000 in
set_option maxHeartbeats 4000000 in
theorem B_X10_valueAt_0 (d : Nat) (S : mS) (I : mI) (L : mJ) (l0 : Nat) (l1 : Int32) :
  evk zcod none d zc_X10_valueAt 0 [(0, .ref l0), (1, .int l1)] [] (S, I, L) =
  if l1 < (nI 0) then
 evk zcod none d zc_X10_valueAt 21 [] [] (S, I, L)
 else
 if kK S l0 = 10 then
 (if (I l0 4) ≤ l1 then
 evk zcod none d zc_X10_valueAt 21 [] [] (S, I, L)
 else
 if kK S l0 = 10 then
 (if kK S (kR S l0 3) = 23 ∧ zin l1 (kN S (kR S l0 3)) then
 (evk zcod none d zc_X10_valueAt 22 [] [.long (L (kR S l0 3) (zix l1))] (S, I, L)) else none) else none) else none :=
  (blk_ok zcod none d zc_X10_valueAt [(1, .ifCond .lt 20, 4, [21], none), (4, .iload_n 1, 5, [], none), (5, .aload_n 0, 6, [], none), (6, .getfield 25, 9, [10, 4, 0, 112, 0], none), (9, .if_icmp .ge 12, 12, [21], none), (12, .aload_n 0, 13, [], none), (13, .getfield 22, 16, [10, 3, 2, 111, 0], none), (16, .iload_n 1, 17, [], none), (17, .laload, 18, [23], none), (18, .goto 4, 21, [22], none)] (0, .iload_n 1, 1, [], none) (by decide +kernel) _ _ _).trans rfl
set_option maxRecDepth 20000 in
set_option maxHeartbeats 4000000 in
theorem B_X10_valueAt_21 (d : Nat) (S : mS) (I : mI) (L : mJ)  :
  evk zcod none d zc_X10_valueAt 21 [] [] (S, I, L) =
  evk zcod none d zc_X10_valueAt 22 [] [.long (0 : Int64)] (S, I, L) :=
  (blk_ok zcod none d zc_X10_valueAt [] (21, .lconst 0, 22, [], some []) (by decide +kernel) _ _ _).trans rfl
set_option maxRecDepth 20000 in
set_option maxHeartbeats 4000000 in
theorem B_X10_valueAt_22 (d : Nat) (S : mS) (I : mI) (L : mJ) (s0 : Int64) :
  evk zcod none d zc_X10_valueAt 22 [] [.long s0] (S, I, L) =
  some (some (.long s0), (S, I, L)) :=
  (blk_ok zcod none d zc_X10_valueAt [] (22, .lreturn, 23, [], some []) (by decide +kernel) _ _ _).trans rfl
theorem E_X10_scanOne (d : Nat) (M : zM) (l0 : Nat) : evM zcod (d + 1) 40 [.ref l0] M = evk zcod none d zc_X10_scanOne 0 [(0, .ref l0)] [] M := evM_eq zcod d 40 _ M (Nat.le_of_ble_eq_true rfl)
set_option maxRecDepth 20000 in
set_option maxHeartbeats 4000000 in
theorem B_X10_scanOne_0 (d : Nat) (S : mS) (I : mI) (L : mJ) (l0 : Nat) :
  evk zcod none d zc_X10_scanOne 0 [(0, .ref l0)] [] (S, I, L) =
  if kK S l0 = 10 then
 (if kK S l0 = 10 then
 (if (I l0 6) ≤ (I l0 7) then
 evk zcod none d zc_X10_scanOne 38 [(0, .ref l0)] [] (S, I, L)
 else
 if kK S l0 = 10 then
 (if kK S l0 = 10 then
 (bI (evM zcod d 42 [.ref l0, .int (I l0 7)] (S, I, L)) fun x1 M1 =>
 if M1.1.1 = S.1 then
 (bI (evM zcod d 43 [.int x1] M1) fun x2 M2 =>
 if M2.1.1 = M1.1.1 then
 (if x2 = (nI 0) then
 evk zcod none d zc_X10_scanOne 38 [(0, .ref l0)] [] M2
 else
 if kK M2.1 l0 = 10 then
 (if kK M2.1 l0 = 10 then
 (evk zcod none d zc_X10_scanOne 0 [(0, .ref l0)] [] (M2.1, (uI M2.2.1 l0 7 ((M2.2.1 l0 7) + (nI 1))), M2.2.2)) else none) else none) else none) else none) else none) else none) else none) else none :=
  (blk_ok zcod none d zc_X10_scanOne [(1, .getfield 36, 4, [10, 7, 0, 116, 0], none), (4, .aload_n 0, 5, [], none), (5, .getfield 33, 8, [10, 6, 0, 115, 0], none), (8, .if_icmp .ge 30, 11, [38], none), (11, .aload_n 0, 12, [], none), (12, .aload_n 0, 13, [], none), (13, .getfield 36, 16, [10, 7, 0, 116, 0], none), (16, .invokevirtual 64, 19, [42, 1, 1, 10, 131, 132, 133, 126], none), (19, .invokestatic 68, 22, [43, 1, 1, 0, 134, 135, 126], none), (22, .ifCond .eq 16, 25, [38], none), (25, .aload_n 0, 26, [], none), (26, .dup, 27, [], none), (27, .getfield 36, 30, [10, 7, 0, 116, 0], none), (30, .iconst 1, 31, [], none), (31, .iadd, 32, [], none), (32, .putfield 36, 35, [10, 7, 0, 116, 0, 0], none), (35, .goto (-35), 38, [0], none)] (0, .aload_n 0, 1, [], some [0]) (by decide +kernel) _ _ _).trans rfl
set_option maxRecDepth 20000 in
set_option maxHeartbeats 4000000 in
theorem B_X10_scanOne_38 (d : Nat) (S : mS) (I : mI) (L : mJ) (l0 : Nat) :
  evk zcod none d zc_X10_scanOne 38 [(0, .ref l0)] [] (S, I, L) =
  if kK S l0 = 10 then
 (if kK S l0 = 10 then
 (bI (evM zcod d 42 [.ref l0, .int (I l0 7)] (S, I, L)) fun x1 M1 =>
 if M1.1.1 = S.1 then
 (if kK M1.1 l0 = 10 then
 (if kK M1.1 l0 = 10 then
 (if (M1.2.1 l0 7) < (M1.2.1 l0 6) then
 evk zcod none d zc_X10_scanOne 71 [(0, .ref l0), (1, .int x1)] [] M1
 else
 if kK M1.1 l0 = 10 then
 (if kK M1.1 l0 = 10 then
 (bV (evM zcod d 41 [.ref l0, .int (nI 0), .int (M1.2.1 l0 7), .long (0 : Int64)] M1) fun M2 =>
 if M2.1.1 = M1.1.1 then
 (evk zcod none d zc_X10_scanOne 133 [] [] M2) else none) else none) else none) else none) else none) else none) else none) else none :=
  (blk_ok zcod none d zc_X10_scanOne [(39, .aload_n 0, 40, [], none), (40, .getfield 36, 43, [10, 7, 0, 116, 0], none), (43, .invokevirtual 64, 46, [42, 1, 1, 10, 131, 132, 133, 126], none), (46, .istore_n 1, 47, [], none), (47, .aload_n 0, 48, [], none), (48, .getfield 36, 51, [10, 7, 0, 116, 0], none), (51, .aload_n 0, 52, [], none), (52, .getfield 33, 55, [10, 6, 0, 115, 0], none), (55, .if_icmp .lt 16, 58, [71], none), (58, .aload_n 0, 59, [], none), (59, .iconst 0, 60, [], none), (60, .aload_n 0, 61, [], none), (61, .getfield 36, 64, [10, 7, 0, 116, 0], none), (64, .lconst 0, 65, [], none), (65, .invokevirtual 72, 68, [41, 3, 0, 10, 136, 137, 138, 126], none), (68, .goto 65, 71, [133], none)] (38, .aload_n 0, 39, [], some [0]) (by decide +kernel) _ _ _).trans rfl
set_option maxRecDepth 20000 in
set_option maxHeartbeats 4000000 in
theorem B_X10_scanOne_71 (d : Nat) (S : mS) (I : mI) (L : mJ) (l0 : Nat) (l1 : Int32) :
  evk zcod none d zc_X10_scanOne 71 [(0, .ref l0), (1, .int l1)] [] (S, I, L) =
  bI (evM zcod d 44 [.int l1] (S, I, L)) fun x1 M1 =>
 if M1.1.1 = S.1 then
 (if x1 = (nI 0) then
 evk zcod none d zc_X10_scanOne 85 [(0, .ref l0), (1, .int l1)] [] M1
 else
 if kK M1.1 l0 = 10 then
 (bV (evM zcod d 47 [.ref l0] M1) fun M2 =>
 if M2.1.1 = M1.1.1 then
 (evk zcod none d zc_X10_scanOne 133 [] [] M2) else none) else none) else none :=
  (blk_ok zcod none d zc_X10_scanOne [(72, .invokestatic 76, 75, [44, 1, 1, 0, 139, 140, 126], none), (75, .ifCond .eq 10, 78, [85], none), (78, .aload_n 0, 79, [], none), (79, .invokevirtual 79, 82, [47, 0, 0, 10, 141, 142, 143, 126], none), (82, .goto 51, 85, [133], none)] (71, .iload_n 1, 72, [], some [0, 1]) (by decide +kernel) _ _ _).trans rfl
set_option maxRecDepth 20000 in
set_option maxHeartbeats 4000000 in
theorem B_X10_scanOne_85 (d : Nat) (S : mS) (I : mI) (L : mJ) (l0 : Nat) (l1 : Int32) :
  evk zcod none d zc_X10_scanOne 85 [(0, .ref l0), (1, .int l1)] [] (S, I, L) =
  bI (evM zcod d 45 [.int l1] (S, I, L)) fun x1 M1 =>
 if M1.1.1 = S.1 then
 (if x1 = (nI 0) then
 evk zcod none d zc_X10_scanOne 99 [(0, .ref l0), (1, .int l1)] [] M1
 else
 if kK M1.1 l0 = 10 then
 (bV (evM zcod d 49 [.ref l0] M1) fun M2 =>
 if M2.1.1 = M1.1.1 then
 (evk zcod none d zc_X10_scanOne 133 [] [] M2) else none) else none) else none :=
  (blk_ok zcod none d zc_X10_scanOne [(86, .invokestatic 82, 89, [45, 1, 1, 0, 144, 145, 126], none), (89, .ifCond .eq 10, 92, [99], none), (92, .aload_n 0, 93, [], none), (93, .invokevirtual 85, 96, [49, 0, 0, 10, 146, 147, 148, 126], none), (96, .goto 37, 99, [133], none)] (85, .iload_n 1, 86, [], some [0, 1]) (by decide +kernel) _ _ _).trans rfl
set_option maxRecDepth 20000 in
set_option maxHeartbeats 4000000 in
theorem B_X10_scanOne_99 (d : Nat) (S : mS) (I : mI) (L : mJ) (l0 : Nat) (l1 : Int32) :
  evk zcod none d zc_X10_scanOne 99 [(0, .ref l0), (1, .int l1)] [] (S, I, L) =
  if kK S 3 = 30 then
 (bI (evM zcod d 269 [.ref 3, .int ((l1.toUInt32 % 65536).toInt32)] (S, I, L)) fun x1 M1 =>
 if M1.1.1 = S.1 then
 (if x1 < (nI 0) then
 evk zcod none d zc_X10_scanOne 114 [(0, .ref l0)] [.ref l0] M1
 else
 evk zcod none d zc_X10_scanOne 115 [(0, .ref l0)] [.int l1, .ref l0] M1) else none) else none :=
  (blk_ok zcod none d zc_X10_scanOne [(100, .ldc 88, 102, [1, 1], none), (102, .iload_n 1, 103, [], none), (103, .i2c, 104, [], none), (104, .invokevirtual 90, 107, [269, 1, 1, 30, 149, 150, 151, 120], none), (107, .ifCond .lt 7, 110, [114], none), (110, .iload_n 1, 111, [], none), (111, .goto 4, 114, [115], none)] (99, .aload_n 0, 100, [], some [0, 1]) (by decide +kernel) _ _ _).trans rfl
set_option maxRecDepth 20000 in
set_option maxHeartbeats 4000000 in
theorem B_X10_scanOne_114 (d : Nat) (S : mS) (I : mI) (L : mJ) (l0 : Nat) (s0 : Nat) :
  evk zcod none d zc_X10_scanOne 114 [(0, .ref l0)] [.ref s0] (S, I, L) =
  evk zcod none d zc_X10_scanOne 115 [(0, .ref l0)] [.int (nI 1), .ref s0] (S, I, L) :=
  (blk_ok zcod none d zc_X10_scanOne [] (114, .iconst 1, 115, [], some [0]) (by decide +kernel) _ _ _).trans rfl
set_option maxRecDepth 20000 in
set_option maxHeartbeats 4000000 in
theorem B_X10_scanOne_115 (d : Nat) (S : mS) (I : mI) (L : mJ) (l0 : Nat) (s0 : Nat) (s1 : Int32) :
  evk zcod none d zc_X10_scanOne 115 [(0, .ref l0)] [.int s1, .ref s0] (S, I, L) =
  if kK S l0 = 10 then
 (if kK S s0 = 10 then
 (bV (evM zcod d 41 [.ref s0, .int s1, .int (I l0 7), .long (0 : Int64)] (S, I, L)) fun M1 =>
 if M1.1.1 = S.1 then
 (if kK M1.1 l0 = 10 then
 (if kK M1.1 l0 = 10 then
 (evk zcod none d zc_X10_scanOne 133 [] [] (M1.1, (uI M1.2.1 l0 7 ((M1.2.1 l0 7) + (nI 1))), M1.2.2)) else none) else none) else none) else none) else none :=
  (blk_ok zcod none d zc_X10_scanOne [(116, .getfield 36, 119, [10, 7, 0, 116, 0], none), (119, .lconst 0, 120, [], none), (120, .invokevirtual 72, 123, [41, 3, 0, 10, 136, 137, 138, 126], none), (123, .aload_n 0, 124, [], none), (124, .dup, 125, [], none), (125, .getfield 36, 128, [10, 7, 0, 116, 0], none), (128, .iconst 1, 129, [], none), (129, .iadd, 130, [], none), (130, .putfield 36, 133, [10, 7, 0, 116, 0, 0], none)] (115, .aload_n 0, 116, [], some [0]) (by decide +kernel) _ _ _).trans rfl
set_option maxRecDepth 20000 in
set_option maxHeartbeats 4000000 in
theorem B_X10_scanOne_133 (d : Nat) (S : mS) (I : mI) (L : mJ)  :
  evk zcod none d zc_X10_scanOne 133 [] [] (S, I, L) =
  some (none, (S, I, L)) :=
  (blk_ok zcod none d zc_X10_scanOne [] (133, .return_, 134, [], some []) (by decide +kernel) _ _ _).trans rfl
theorem E_X10_add (d : Nat) (M : zM) (l0 : Nat) (l1 : Int32) (l2 : Int32) (l3 : Int64) : evM zcod (d + 1) 41 [.ref l0, .int l1, .int l2, .long l3] M = evk zcod none d zc_X10_add 0 [(0, .ref l0), (1, .int l1), (2, .int l2), (3, .long l3)] [] M := evM_eq zcod d 41 _ M (Nat.le_of_ble_eq_true rfl)
set_option maxRecDepth 20000 in
set_option maxHeartbeats 4000000 in
theorem B_X10_add_0 (d : Nat) (S : mS) (I : mI) (L : mJ) (l0 : Nat) (l1 : Int32) (l2 : Int32) (l3 : Int64) :
  evk zcod none d zc_X10_add 0 [(0, .ref l0), (1, .int l1), (2, .int l2), (3, .long l3)] [] (S, I, L) =
  if kK S l0 = 10 then
 (if kK S l0 = 10 then
 (if kK S (kR S l0 1) = 20 then
 (if (nI (kN S (kR S l0 1))) ≤ (I l0 4) then
 evk zcod none d zc_X10_add 76 [] [] (S, I, L)
 else
 if kK S l0 = 10 then
 (if kK S l0 = 10 then
 (if kK S (kR S l0 2) = 20 then
 (if (nI (kN S (kR S l0 2))) ≤ (I l0 4) then
 evk zcod none d zc_X10_add 76 [] [] (S, I, L)
 else
 if kK S l0 = 10 then
 (if kK S l0 = 10 then
 (if kK S (kR S l0 3) = 23 then
 (if (nI (kN S (kR S l0 3))) ≤ (I l0 4) then
 evk zcod none d zc_X10_add 76 [] [] (S, I, L)
 else
 if kK S l0 = 10 then
 (if kK S l0 = 10 then
 (if kK S (kR S l0 1) = 20 ∧ zin (I l0 4) (kN S (kR S l0 1)) then
 (if kK S l0 = 10 then
 (if kK S l0 = 10 then
 (if kK S (kR S l0 2) = 20 ∧ zin ((uI I (kR S l0 1) (zix (I l0 4)) l1) l0 4) (kN S (kR S l0 2)) then
 (if kK S l0 = 10 then
 (if kK S l0 = 10 then
 (if kK S (kR S l0 3) = 23 ∧ zin ((uI (uI I (kR S l0 1) (zix (I l0 4)) l1) (kR S l0 2) (zix ((uI I (kR S l0 1) (zix (I l0 4)) l1) l0 4)) l2) l0 4) (kN S (kR S l0 3)) then
 (if kK S l0 = 10 then
 (if kK S l0 = 10 then
 (evk zcod none d zc_X10_add 76 [] [] (S, (uI (uI (uI I (kR S l0 1) (zix (I l0 4)) l1) (kR S l0 2) (zix ((uI I (kR S l0 1) (zix (I l0 4)) l1) l0 4)) l2) l0 4 (((uI (uI I (kR S l0 1) (zix (I l0 4)) l1) (kR S l0 2) (zix ((uI I (kR S l0 1) (zix (I l0 4)) l1) l0 4)) l2) l0 4) + (nI 1))), (uL L (kR S l0 3) (zix ((uI (uI I (kR S l0 1) (zix (I l0 4)) l1) (kR S l0 2) (zix ((uI I (kR S l0 1) (zix (I l0 4)) l1) l0 4)) l2) l0 4)) l3))) else none) else none) else none) else none) else none) else none) else none) else none) else none) else none) else none) else none) else none) else none) else none) else none) else none) else none) else none) else none :=
  (blk_ok zcod none d zc_X10_add [(1, .getfield 25, 4, [10, 4, 0, 112, 0], none), (4, .aload_n 0, 5, [], none), (5, .getfield 15, 8, [10, 1, 2, 109, 0], none), (8, .arraylength, 9, [20], none), (9, .if_icmp .ge 67, 12, [76], none), (12, .aload_n 0, 13, [], none), (13, .getfield 25, 16, [10, 4, 0, 112, 0], none), (16, .aload_n 0, 17, [], none), (17, .getfield 19, 20, [10, 2, 2, 110, 0], none), (20, .arraylength, 21, [20], none), (21, .if_icmp .ge 55, 24, [76], none), (24, .aload_n 0, 25, [], none), (25, .getfield 25, 28, [10, 4, 0, 112, 0], none), (28, .aload_n 0, 29, [], none), (29, .getfield 22, 32, [10, 3, 2, 111, 0], none), (32, .arraylength, 33, [23], none), (33, .if_icmp .ge 43, 36, [76], none), (36, .aload_n 0, 37, [], none), (37, .getfield 15, 40, [10, 1, 2, 109, 0], none), (40, .aload_n 0, 41, [], none), (41, .getfield 25, 44, [10, 4, 0, 112, 0], none), (44, .iload_n 1, 45, [], none), (45, .iastore, 46, [20], none), (46, .aload_n 0, 47, [], none), (47, .getfield 19, 50, [10, 2, 2, 110, 0], none), (50, .aload_n 0, 51, [], none), (51, .getfield 25, 54, [10, 4, 0, 112, 0], none), (54, .iload_n 2, 55, [], none), (55, .iastore, 56, [20], none), (56, .aload_n 0, 57, [], none), (57, .getfield 22, 60, [10, 3, 2, 111, 0], none), (60, .aload_n 0, 61, [], none), (61, .getfield 25, 64, [10, 4, 0, 112, 0], none), (64, .lload_n 3, 65, [], none), (65, .lastore, 66, [23], none), (66, .aload_n 0, 67, [], none), (67, .dup, 68, [], none), (68, .getfield 25, 71, [10, 4, 0, 112, 0], none), (71, .iconst 1, 72, [], none), (72, .iadd, 73, [], none), (73, .putfield 25, 76, [10, 4, 0, 112, 0, 0], none)] (0, .aload_n 0, 1, [], none) (by decide +kernel) _ _ _).trans rfl
set_option maxRecDepth 20000 in
set_option maxHeartbeats 4000000 in
theorem B_X10_add_76 (d : Nat) (S : mS) (I : mI) (L : mJ)  :
  evk zcod none d zc_X10_add 76 [] [] (S, I, L) =
  some (none, (S, I, L)) :=
  (blk_ok zcod none d zc_X10_add [] (76, .return_, 77, [], some []) (by decide +kernel) _ _ _).trans rfl
theorem E_X10_byteAt (d : Nat) (M : zM) (l0 : Nat) (l1 : Int32) : evM zcod (d + 1) 42 [.ref l0, .int l1] M = evk zcod none d zc_X10_byteAt 0 [(0, .ref l0), (1, .int l1)] [] M := evM_eq zcod d 42 _ M (Nat.le_of_ble_eq_true rfl)
set_option maxRecDepth 20000 in
set_option maxHeartbeats 4000000 in
theorem B_X10_byteAt_0 (d : Nat) (S : mS) (I : mI) (L : mJ) (l0 : Nat) (l1 : Int32) :
  evk zcod none d zc_X10_byteAt 0 [(0, .ref l0), (1, .int l1)] [] (S, I, L) =
  if l1 < (nI 0) then
 evk zcod none d zc_X10_byteAt 25 [] [] (S, I, L)
 else
 if kK S l0 = 10 then
 (if (I l0 6) ≤ l1 then
 evk zcod none d zc_X10_byteAt 25 [] [] (S, I, L)
 else
 if kK S l0 = 10 then
 (if kK S (kR S l0 5) = 21 ∧ zin l1 (kN S (kR S l0 5)) then
 (evk zcod none d zc_X10_byteAt 26 [] [.int ((I (kR S l0 5) (zix l1)) &&& (nI 255))] (S, I, L)) else none) else none) else none :=
  (blk_ok zcod none d zc_X10_byteAt [(1, .ifCond .lt 24, 4, [25], none), (4, .iload_n 1, 5, [], none), (5, .aload_n 0, 6, [], none), (6, .getfield 33, 9, [10, 6, 0, 115, 0], none), (9, .if_icmp .ge 16, 12, [25], none), (12, .aload_n 0, 13, [], none), (13, .getfield 29, 16, [10, 5, 2, 114, 0], none), (16, .iload_n 1, 17, [], none), (17, .baload, 18, [21], none), (18, .sipush 255, 21, [], none), (21, .iand, 22, [], none), (22, .goto 4, 25, [26], none)] (0, .iload_n 1, 1, [], none) (by decide +kernel) _ _ _).trans rfl
set_option maxRecDepth 20000 in
set_option maxHeartbeats 4000000 in
theorem B_X10_byteAt_25 (d : Nat) (S : mS) (I : mI) (L : mJ)  :
  evk zcod none d zc_X10_byteAt 25 [] [] (S, I, L) =
  evk zcod none d zc_X10_byteAt 26 [] [.int (nI 0)] (S, I, L) :=
  (blk_ok zcod none d zc_X10_byteAt [] (25, .iconst 0, 26, [], some []) (by decide +kernel) _ _ _).trans rfl
set_option maxRecDepth 20000 in
set_option maxHeartbeats 4000000 in
theorem B_X10_byteAt_26 (d : Nat) (S : mS) (I : mI) (L : mJ) (s0 : Int32) :
  evk zcod none d zc_X10_byteAt 26 [] [.int s0] (S, I, L) =
  some (some (.int s0), (S, I, L)) :=
  (blk_ok zcod none d zc_X10_byteAt [] (26, .ireturn, 27, [0], some []) (by decide +kernel) _ _ _).trans rfl
theorem E_X10_isBlank (d : Nat) (M : zM) (l0 : Int32) : evM zcod (d + 1) 43 [.int l0] M = evk zcod none d zc_X10_isBlank 0 [(0, .int l0)] [] M := evM_eq zcod d 43 _ M (Nat.le_of_ble_eq_true rfl)
set_option maxRecDepth 20000 in
set_option maxHeartbeats 4000000 in
theorem B_X10_isBlank_0 (d : Nat) (S : mS) (I : mI) (L : mJ) (l0 : Int32) :
  evk zcod none d zc_X10_isBlank 0 [(0, .int l0)] [] (S, I, L) =
  if l0 = (nI 9) then
 evk zcod none d zc_X10_isBlank 24 [] [] (S, I, L)
 else
 if l0 = (nI 10) then
 evk zcod none d zc_X10_isBlank 24 [] [] (S, I, L)
 else
 if l0 = (nI 13) then
 evk zcod none d zc_X10_isBlank 24 [] [] (S, I, L)
 else
 if ¬ l0 = (nI 32) then
 evk zcod none d zc_X10_isBlank 28 [] [] (S, I, L)
 else
 evk zcod none d zc_X10_isBlank 24 [] [] (S, I, L) :=
  (blk_ok zcod none d zc_X10_isBlank [(1, .bipush 9, 3, [], none), (3, .if_icmp .eq 21, 6, [24], none), (6, .iload_n 0, 7, [], none), (7, .bipush 10, 9, [], none), (9, .if_icmp .eq 15, 12, [24], none), (12, .iload_n 0, 13, [], none), (13, .bipush 13, 15, [], none), (15, .if_icmp .eq 9, 18, [24], none), (18, .iload_n 0, 19, [], none), (19, .bipush 32, 21, [], none), (21, .if_icmp .ne 7, 24, [28], none)] (0, .iload_n 0, 1, [], none) (by decide +kernel) _ _ _).trans rfl
set_option maxRecDepth 20000 in
set_option maxHeartbeats 4000000 in
theorem B_X10_isBlank_24 (d : Nat) (S : mS) (I : mI) (L : mJ)  :
  evk zcod none d zc_X10_isBlank 24 [] [] (S, I, L) =
  evk zcod none d zc_X10_isBlank 29 [] [.int (nI 1)] (S, I, L) :=
  (blk_ok zcod none d zc_X10_isBlank [(25, .goto 4, 28, [29], none)] (24, .iconst 1, 25, [], some []) (by decide +kernel) _ _ _).trans rfl
set_option maxRecDepth 20000 in
set_option maxHeartbeats 4000000 in
theorem B_X10_isBlank_28 (d : Nat) (S : mS) (I : mI) (L : mJ)  :
  evk zcod none d zc_X10_isBlank 28 [] [] (S, I, L) =
  evk zcod none d zc_X10_isBlank 29 [] [.int (nI 0)] (S, I, L) :=
  (blk_ok zcod none d zc_X10_isBlank [] (28, .iconst 0, 29, [], some []) (by decide +kernel) _ _ _).trans rfl
set_option maxRecDepth 20000 in
set_option maxHeartbeats 4000000 in
theorem B_X10_isBlank_29 (d : Nat) (S : mS) (I : mI) (L : mJ) (s0 : Int32) :
  evk zcod none d zc_X10_isBlank 29 [] [.int s0] (S, I, L) =
  if s0 = nI 0 ∨ s0 = nI 1 then some (some (.int s0), (S, I, L)) else none :=
  (blk_ok zcod none d zc_X10_isBlank [] (29, .ireturn, 30, [1], some []) (by decide +kernel) _ _ _).trans rfl
theorem E_X10_isLetter (d : Nat) (M : zM) (l0 : Int32) : evM zcod (d + 1) 44 [.int l0] M = evk zcod none d zc_X10_isLetter 0 [(0, .int l0)] [] M := evM_eq zcod d 44 _ M (Nat.le_of_ble_eq_true rfl)
set_option maxRecDepth 20000 in
set_option maxHeartbeats 4000000 in
theorem B_X10_isLetter_0 (d : Nat) (S : mS) (I : mI) (L : mJ) (l0 : Int32) :
  evk zcod none d zc_X10_isLetter 0 [(0, .int l0)] [] (S, I, L) =
  if l0 < (nI 97) then
 evk zcod none d zc_X10_isLetter 16 [] [] (S, I, L)
 else
 if (nI 122) < l0 then
 evk zcod none d zc_X10_isLetter 16 [] [] (S, I, L)
 else
 evk zcod none d zc_X10_isLetter 17 [] [.int (nI 1)] (S, I, L) :=
  (blk_ok zcod none d zc_X10_isLetter [(1, .bipush 97, 3, [], none), (3, .if_icmp .lt 13, 6, [16], none), (6, .iload_n 0, 7, [], none), (7, .bipush 122, 9, [], none), (9, .if_icmp .gt 7, 12, [16], none), (12, .iconst 1, 13, [], none), (13, .goto 4, 16, [17], none)] (0, .iload_n 0, 1, [], none) (by decide +kernel) _ _ _).trans rfl
set_option maxRecDepth 20000 in
set_option maxHeartbeats 4000000 in
theorem B_X10_isLetter_16 (d : Nat) (S : mS) (I : mI) (L : mJ)  :
  evk zcod none d zc_X10_isLetter 16 [] [] (S, I, L) =
  evk zcod none d zc_X10_isLetter 17 [] [.int (nI 0)] (S, I, L) :=
  (blk_ok zcod none d zc_X10_isLetter [] (16, .iconst 0, 17, [], some []) (by decide +kernel) _ _ _).trans rfl
set_option maxRecDepth 20000 in
set_option maxHeartbeats 4000000 in
theorem B_X10_isLetter_17 (d : Nat) (S : mS) (I : mI) (L : mJ) (s0 : Int32) :
  evk zcod none d zc_X10_isLetter 17 [] [.int s0] (S, I, L) =
  if s0 = nI 0 ∨ s0 = nI 1 then some (some (.int s0), (S, I, L)) else none :=
  (blk_ok zcod none d zc_X10_isLetter [] (17, .ireturn, 18, [1], some []) (by decide +kernel) _ _ _).trans rfl
theorem E_X10_isDigit (d : Nat) (M : zM) (l0 : Int32) : evM zcod (d + 1) 45 [.int l0] M = evk zcod none d zc_X10_isDigit 0 [(0, .int l0)] [] M := evM_eq zcod d 45 _ M (Nat.le_of_ble_eq_true rfl)
set_option maxRecDepth 20000 in
set_option maxHeartbeats 4000000 in
theorem B_X10_isDigit_0 (d : Nat) (S : mS) (I : mI) (L : mJ) (l0 : Int32) :
  evk zcod none d zc_X10_isDigit 0 [(0, .int l0)] [] (S, I, L) =
  if l0 < (nI 48) then
 evk zcod none d zc_X10_isDigit 16 [] [] (S, I, L)
 else
 if (nI 57) < l0 then
 evk zcod none d zc_X10_isDigit 16 [] [] (S, I, L)
 else
 evk zcod none d zc_X10_isDigit 17 [] [.int (nI 1)] (S, I, L) :=
  (blk_ok zcod none d zc_X10_isDigit [(1, .bipush 48, 3, [], none), (3, .if_icmp .lt 13, 6, [16], none), (6, .iload_n 0, 7, [], none), (7, .bipush 57, 9, [], none), (9, .if_icmp .gt 7, 12, [16], none), (12, .iconst 1, 13, [], none), (13, .goto 4, 16, [17], none)] (0, .iload_n 0, 1, [], none) (by decide +kernel) _ _ _).trans rfl
set_option maxRecDepth 20000 in
set_option maxHeartbeats 4000000 in
theorem B_X10_isDigit_16 (d : Nat) (S : mS) (I : mI) (L : mJ)  :
  evk zcod none d zc_X10_isDigit 16 [] [] (S, I, L) =
  evk zcod none d zc_X10_isDigit 17 [] [.int (nI 0)] (S, I, L) :=
  (blk_ok zcod none d zc_X10_isDigit [] (16, .iconst 0, 17, [], some []) (by decide +kernel) _ _ _).trans rfl
set_option maxRecDepth 20000 in
set_option maxHeartbeats 4000000 in
theorem B_X10_isDigit_17 (d : Nat) (S : mS) (I : mI) (L : mJ) (s0 : Int32) :
  evk zcod none d zc_X10_isDigit 17 [] [.int s0] (S, I, L) =
  if s0 = nI 0 ∨ s0 = nI 1 then some (some (.int s0), (S, I, L)) else none :=
  (blk_ok zcod none d zc_X10_isDigit [] (17, .ireturn, 18, [1], some []) (by decide +kernel) _ _ _).trans rfl
theorem E_X10_withLetter (d : Nat) (M : zM) (l0 : Int64) (l2 : Int32) : evM zcod (d + 1) 46 [.long l0, .int l2] M = evk zcod none d zc_X10_withLetter 0 [(0, .long l0), (2, .int l2)] [] M := evM_eq zcod d 46 _ M (Nat.le_of_ble_eq_true rfl)
set_option maxRecDepth 20000 in
set_option maxHeartbeats 4000000 in
theorem B_X10_withLetter_0 (d : Nat) (S : mS) (I : mI) (L : mJ) (l0 : Int64) (l2 : Int32) :
  evk zcod none d zc_X10_withLetter 0 [(0, .long l0), (2, .int l2)] [] (S, I, L) =
  some (some (.long ((l0 * (Int64.ofNat 32)) + ((l2 - (nI 97)) + (nI 1)).toInt64)), (S, I, L)) :=
  (blk_ok zcod none d zc_X10_withLetter [(1, .ldc2_w 93, 4, [0, 32, 152], none), (4, .lmul, 5, [], none), (5, .iload_n 2, 6, [], none), (6, .bipush 97, 8, [], none), (8, .isub, 9, [], none), (9, .iconst 1, 10, [], none), (10, .iadd, 11, [], none), (11, .i2l, 12, [], none), (12, .ladd, 13, [], none), (13, .lreturn, 14, [], none)] (0, .lload_n 0, 1, [], none) (by decide +kernel) _ _ _).trans rfl
theorem E_X10_scanLetters (d : Nat) (M : zM) (l0 : Nat) : evM zcod (d + 1) 47 [.ref l0] M = evk zcod none d zc_X10_scanLetters 0 [(0, .ref l0)] [] M := evM_eq zcod d 47 _ M (Nat.le_of_ble_eq_true rfl)
set_option maxRecDepth 20000 in
set_option maxHeartbeats 4000000 in
theorem B_X10_scanLetters_0 (d : Nat) (S : mS) (I : mI) (L : mJ) (l0 : Nat) :
  evk zcod none d zc_X10_scanLetters 0 [(0, .ref l0)] [] (S, I, L) =
  if kK S l0 = 10 then
 (evk zcod none d zc_X10_scanLetters 7 [(0, .ref l0), (1, .int (I l0 7)), (2, .long (0 : Int64))] [] (S, I, L)) else none :=
  (blk_ok zcod none d zc_X10_scanLetters [(1, .getfield 36, 4, [10, 7, 0, 116, 0], none), (4, .istore_n 1, 5, [], none), (5, .lconst 0, 6, [], none), (6, .lstore_n 2, 7, [], none)] (0, .aload_n 0, 1, [], none) (by decide +kernel) _ _ _).trans rfl
set_option maxRecDepth 20000 in
set_option maxHeartbeats 4000000 in
theorem B_X10_scanLetters_7 (d : Nat) (S : mS) (I : mI) (L : mJ) (l0 : Nat) (l1 : Int32) (l2 : Int64) :
  evk zcod none d zc_X10_scanLetters 7 [(0, .ref l0), (1, .int l1), (2, .long l2)] [] (S, I, L) =
  if kK S l0 = 10 then
 (if kK S l0 = 10 then
 (if (I l0 6) ≤ (I l0 7) then
 evk zcod none d zc_X10_scanLetters 58 [(0, .ref l0), (1, .int l1), (2, .long l2)] [] (S, I, L)
 else
 if kK S l0 = 10 then
 (if kK S l0 = 10 then
 (bI (evM zcod d 42 [.ref l0, .int (I l0 7)] (S, I, L)) fun x1 M1 =>
 if M1.1.1 = S.1 then
 (bI (evM zcod d 44 [.int x1] M1) fun x2 M2 =>
 if M2.1.1 = M1.1.1 then
 (if x2 = (nI 0) then
 evk zcod none d zc_X10_scanLetters 58 [(0, .ref l0), (1, .int l1), (2, .long l2)] [] M2
 else
 if kK M2.1 l0 = 10 then
 (if kK M2.1 l0 = 10 then
 (bI (evM zcod d 42 [.ref l0, .int (M2.2.1 l0 7)] M2) fun x3 M3 =>
 if M3.1.1 = M2.1.1 then
 (bL (evM zcod d 46 [.long l2, .int x3] M3) fun x4 M4 =>
 if M4.1.1 = M3.1.1 then
 (evk zcod none d zc_X10_scanLetters 45 [(0, .ref l0), (1, .int l1), (2, .long x4)] [] M4) else none) else none) else none) else none) else none) else none) else none) else none) else none) else none :=
  (blk_ok zcod none d zc_X10_scanLetters [(8, .getfield 36, 11, [10, 7, 0, 116, 0], none), (11, .aload_n 0, 12, [], none), (12, .getfield 33, 15, [10, 6, 0, 115, 0], none), (15, .if_icmp .ge 43, 18, [58], none), (18, .aload_n 0, 19, [], none), (19, .aload_n 0, 20, [], none), (20, .getfield 36, 23, [10, 7, 0, 116, 0], none), (23, .invokevirtual 64, 26, [42, 1, 1, 10, 131, 132, 133, 126], none), (26, .invokestatic 76, 29, [44, 1, 1, 0, 139, 140, 126], none), (29, .ifCond .eq 29, 32, [58], none), (32, .lload_n 2, 33, [], none), (33, .aload_n 0, 34, [], none), (34, .aload_n 0, 35, [], none), (35, .getfield 36, 38, [10, 7, 0, 116, 0], none), (38, .invokevirtual 64, 41, [42, 1, 1, 10, 131, 132, 133, 126], none), (41, .invokestatic 51, 44, [46, 2, 2, 0, 124, 125, 126], none), (44, .lstore_n 2, 45, [], none)] (7, .aload_n 0, 8, [], some [0, 1, 2]) (by decide +kernel) _ _ _).trans rfl
set_option maxRecDepth 20000 in
set_option maxHeartbeats 4000000 in
theorem B_X10_scanLetters_45 (d : Nat) (S : mS) (I : mI) (L : mJ) (l0 : Nat) (l1 : Int32) (l2 : Int64) :
  evk zcod none d zc_X10_scanLetters 45 [(0, .ref l0), (1, .int l1), (2, .long l2)] [] (S, I, L) =
  if kK S l0 = 10 then
 (if kK S l0 = 10 then
 (evk zcod none d zc_X10_scanLetters 7 [(0, .ref l0), (1, .int l1), (2, .long l2)] [] (S, (uI I l0 7 ((I l0 7) + (nI 1))), L)) else none) else none :=
  (blk_ok zcod none d zc_X10_scanLetters [(46, .dup, 47, [], none), (47, .getfield 36, 50, [10, 7, 0, 116, 0], none), (50, .iconst 1, 51, [], none), (51, .iadd, 52, [], none), (52, .putfield 36, 55, [10, 7, 0, 116, 0, 0], none), (55, .goto (-48), 58, [7], none)] (45, .aload_n 0, 46, [], some [0, 1, 2]) (by decide +kernel) _ _ _).trans rfl
set_option maxRecDepth 20000 in
set_option maxHeartbeats 4000000 in
theorem B_X10_scanLetters_58 (d : Nat) (S : mS) (I : mI) (L : mJ) (l0 : Nat) (l1 : Int32) (l2 : Int64) :
  evk zcod none d zc_X10_scanLetters 58 [(0, .ref l0), (1, .int l1), (2, .long l2)] [] (S, I, L) =
  if kK S l0 = 10 then
 (if ((I l0 7) - l1) ≤ (nI 8) then
 evk zcod none d zc_X10_scanLetters 74 [(0, .ref l0), (1, .int l1), (2, .long l2)] [.ref l0] (S, I, L)
 else
 evk zcod none d zc_X10_scanLetters 79 [(1, .int l1), (2, .long l2)] [.int (nI 1), .ref l0] (S, I, L)) else none :=
  (blk_ok zcod none d zc_X10_scanLetters [(59, .aload_n 0, 60, [], none), (60, .getfield 36, 63, [10, 7, 0, 116, 0], none), (63, .iload_n 1, 64, [], none), (64, .isub, 65, [], none), (65, .bipush 8, 67, [], none), (67, .if_icmp .le 7, 70, [74], none), (70, .iconst 1, 71, [], none), (71, .goto 8, 74, [79], none)] (58, .aload_n 0, 59, [], some [0, 1, 2]) (by decide +kernel) _ _ _).trans rfl
set_option maxRecDepth 20000 in
set_option maxHeartbeats 4000000 in
theorem B_X10_scanLetters_74 (d : Nat) (S : mS) (I : mI) (L : mJ) (l0 : Nat) (l1 : Int32) (l2 : Int64) (s0 : Nat) :
  evk zcod none d zc_X10_scanLetters 74 [(0, .ref l0), (1, .int l1), (2, .long l2)] [.ref s0] (S, I, L) =
  if kK S l0 = 10 then
 (bI (evM zcod d 48 [.ref l0, .long l2] (S, I, L)) fun x1 M1 =>
 if M1.1.1 = S.1 then
 (evk zcod none d zc_X10_scanLetters 79 [(1, .int l1), (2, .long l2)] [.int x1, .ref s0] M1) else none) else none :=
  (blk_ok zcod none d zc_X10_scanLetters [(75, .lload_n 2, 76, [], none), (76, .invokevirtual 95, 79, [48, 1, 1, 10, 153, 154, 155, 126], none)] (74, .aload_n 0, 75, [], some [0, 1, 2]) (by decide +kernel) _ _ _).trans rfl
set_option maxRecDepth 20000 in
set_option maxHeartbeats 4000000 in
theorem B_X10_scanLetters_79 (d : Nat) (S : mS) (I : mI) (L : mJ) (l1 : Int32) (l2 : Int64) (s0 : Nat) (s1 : Int32) :
  evk zcod none d zc_X10_scanLetters 79 [(1, .int l1), (2, .long l2)] [.int s1, .ref s0] (S, I, L) =
  if kK S s0 = 10 then
 (bV (evM zcod d 41 [.ref s0, .int s1, .int l1, .long l2] (S, I, L)) fun M1 =>
 if M1.1.1 = S.1 then
 (some (none, M1)) else none) else none :=
  (blk_ok zcod none d zc_X10_scanLetters [(80, .lload_n 2, 81, [], none), (81, .invokevirtual 72, 84, [41, 3, 0, 10, 136, 137, 138, 126], none), (84, .return_, 85, [], none)] (79, .iload_n 1, 80, [], some [1, 2]) (by decide +kernel) _ _ _).trans rfl
theorem E_X10_kindOf (d : Nat) (M : zM) (l0 : Nat) (l1 : Int64) : evM zcod (d + 1) 48 [.ref l0, .long l1] M = evk zcod none d zc_X10_kindOf 0 [(0, .ref l0), (1, .long l1)] [] M := evM_eq zcod d 48 _ M (Nat.le_of_ble_eq_true rfl)
set_option maxRecDepth 20000 in
set_option maxHeartbeats 4000000 in
theorem B_X10_kindOf_0 (d : Nat) (S : mS) (I : mI) (L : mJ) (l0 : Nat) (l1 : Int64) :
  evk zcod none d zc_X10_kindOf 0 [(0, .ref l0), (1, .long l1)] [] (S, I, L) =
  evk zcod none d zc_X10_kindOf 2 [(0, .ref l0), (1, .long l1), (3, .int (nI 0))] [] (S, I, L) :=
  (blk_ok zcod none d zc_X10_kindOf [(1, .istore_n 3, 2, [], none)] (0, .iconst 0, 1, [], none) (by decide +kernel) _ _ _).trans rfl
set_option maxRecDepth 20000 in
set_option maxHeartbeats 4000000 in
theorem B_X10_kindOf_2 (d : Nat) (S : mS) (I : mI) (L : mJ) (l0 : Nat) (l1 : Int64) (l3 : Int32) :
  evk zcod none d zc_X10_kindOf 2 [(0, .ref l0), (1, .long l1), (3, .int l3)] [] (S, I, L) =
  if kK S l0 = 10 then
 (if kK S (kR S l0 0) = 23 then
 (if (nI (kN S (kR S l0 0))) ≤ l3 then
 evk zcod none d zc_X10_kindOf 34 [] [] (S, I, L)
 else
 if kK S l0 = 10 then
 (if kK S (kR S l0 0) = 23 ∧ zin l3 (kN S (kR S l0 0)) then
 (if ¬ (lg_cmp (L (kR S l0 0) (zix l3)) l1) = (nI 0) then
 evk zcod none d zc_X10_kindOf 28 [(0, .ref l0), (1, .long l1), (3, .int l3)] [] (S, I, L)
 else
 some (some (.int ((nI 128) + l3)), (S, I, L))) else none) else none) else none) else none :=
  (blk_ok zcod none d zc_X10_kindOf [(3, .aload_n 0, 4, [], none), (4, .getfield 11, 7, [10, 0, 2, 108, 0], none), (7, .arraylength, 8, [23], none), (8, .if_icmp .ge 26, 11, [34], none), (11, .aload_n 0, 12, [], none), (12, .getfield 11, 15, [10, 0, 2, 108, 0], none), (15, .iload_n 3, 16, [], none), (16, .laload, 17, [23], none), (17, .lload_n 1, 18, [], none), (18, .lcmp, 19, [], none), (19, .ifCond .ne 9, 22, [28], none), (22, .sipush 128, 25, [], none), (25, .iload_n 3, 26, [], none), (26, .iadd, 27, [], none), (27, .ireturn, 28, [0], none)] (2, .iload_n 3, 3, [], some [0, 1, 3]) (by decide +kernel) _ _ _).trans rfl
set_option maxRecDepth 20000 in
set_option maxHeartbeats 4000000 in
theorem B_X10_kindOf_28 (d : Nat) (S : mS) (I : mI) (L : mJ) (l0 : Nat) (l1 : Int64) (l3 : Int32) :
  evk zcod none d zc_X10_kindOf 28 [(0, .ref l0), (1, .long l1), (3, .int l3)] [] (S, I, L) =
  evk zcod none d zc_X10_kindOf 2 [(0, .ref l0), (1, .long l1), (3, .int (l3 + (nI 1)))] [] (S, I, L) :=
  (blk_ok zcod none d zc_X10_kindOf [(31, .goto (-29), 34, [2], none)] (28, .iinc 3 1, 31, [], some [0, 1, 3]) (by decide +kernel) _ _ _).trans rfl
set_option maxRecDepth 20000 in
set_option maxHeartbeats 4000000 in
theorem B_X10_kindOf_34 (d : Nat) (S : mS) (I : mI) (L : mJ)  :
  evk zcod none d zc_X10_kindOf 34 [] [] (S, I, L) =
  some (some (.int (nI 2)), (S, I, L)) :=
  (blk_ok zcod none d zc_X10_kindOf [(35, .ireturn, 36, [0], none)] (34, .iconst 2, 35, [], some []) (by decide +kernel) _ _ _).trans rfl
theorem E_X10_scanDigits (d : Nat) (M : zM) (l0 : Nat) : evM zcod (d + 1) 49 [.ref l0] M = evk zcod none d zc_X10_scanDigits 0 [(0, .ref l0)] [] M := evM_eq zcod d 49 _ M (Nat.le_of_ble_eq_true rfl)
set_option maxRecDepth 20000 in
set_option maxHeartbeats 4000000 in
theorem B_X10_scanDigits_0 (d : Nat) (S : mS) (I : mI) (L : mJ) (l0 : Nat) :
  evk zcod none d zc_X10_scanDigits 0 [(0, .ref l0)] [] (S, I, L) =
  if kK S l0 = 10 then
 (evk zcod none d zc_X10_scanDigits 7 [(0, .ref l0), (1, .int (I l0 7)), (2, .int (nI 0))] [] (S, I, L)) else none :=
  (blk_ok zcod none d zc_X10_scanDigits [(1, .getfield 36, 4, [10, 7, 0, 116, 0], none), (4, .istore_n 1, 5, [], none), (5, .iconst 0, 6, [], none), (6, .istore_n 2, 7, [], none)] (0, .aload_n 0, 1, [], none) (by decide +kernel) _ _ _).trans rfl
set_option maxRecDepth 20000 in
set_option maxHeartbeats 4000000 in
theorem B_X10_scanDigits_7 (d : Nat) (S : mS) (I : mI) (L : mJ) (l0 : Nat) (l1 : Int32) (l2 : Int32) :
  evk zcod none d zc_X10_scanDigits 7 [(0, .ref l0), (1, .int l1), (2, .int l2)] [] (S, I, L) =
  if kK S l0 = 10 then
 (if kK S l0 = 10 then
 (if (I l0 6) ≤ (I l0 7) then
 evk zcod none d zc_X10_scanDigits 62 [(0, .ref l0), (1, .int l1), (2, .int l2)] [] (S, I, L)
 else
 if kK S l0 = 10 then
 (if kK S l0 = 10 then
 (bI (evM zcod d 42 [.ref l0, .int (I l0 7)] (S, I, L)) fun x1 M1 =>
 if M1.1.1 = S.1 then
 (bI (evM zcod d 45 [.int x1] M1) fun x2 M2 =>
 if M2.1.1 = M1.1.1 then
 (if x2 = (nI 0) then
 evk zcod none d zc_X10_scanDigits 62 [(0, .ref l0), (1, .int l1), (2, .int l2)] [] M2
 else
 if kK M2.1 l0 = 10 then
 (if kK M2.1 l0 = 10 then
 (bI (evM zcod d 42 [.ref l0, .int (M2.2.1 l0 7)] M2) fun x3 M3 =>
 if M3.1.1 = M2.1.1 then
 (if kK M3.1 l0 = 10 then
 (if kK M3.1 l0 = 10 then
 (evk zcod none d zc_X10_scanDigits 59 [(0, .ref l0), (1, .int l1), (2, .int ((l2 * (nI 10)) + (x3 - (nI 48))))] [] (M3.1, (uI M3.2.1 l0 7 ((M3.2.1 l0 7) + (nI 1))), M3.2.2)) else none) else none) else none) else none) else none) else none) else none) else none) else none) else none) else none :=
  (blk_ok zcod none d zc_X10_scanDigits [(8, .getfield 36, 11, [10, 7, 0, 116, 0], none), (11, .aload_n 0, 12, [], none), (12, .getfield 33, 15, [10, 6, 0, 115, 0], none), (15, .if_icmp .ge 47, 18, [62], none), (18, .aload_n 0, 19, [], none), (19, .aload_n 0, 20, [], none), (20, .getfield 36, 23, [10, 7, 0, 116, 0], none), (23, .invokevirtual 64, 26, [42, 1, 1, 10, 131, 132, 133, 126], none), (26, .invokestatic 82, 29, [45, 1, 1, 0, 144, 145, 126], none), (29, .ifCond .eq 33, 32, [62], none), (32, .iload_n 2, 33, [], none), (33, .bipush 10, 35, [], none), (35, .imul, 36, [], none), (36, .aload_n 0, 37, [], none), (37, .aload_n 0, 38, [], none), (38, .getfield 36, 41, [10, 7, 0, 116, 0], none), (41, .invokevirtual 64, 44, [42, 1, 1, 10, 131, 132, 133, 126], none), (44, .bipush 48, 46, [], none), (46, .isub, 47, [], none), (47, .iadd, 48, [], none), (48, .istore_n 2, 49, [], none), (49, .aload_n 0, 50, [], none), (50, .dup, 51, [], none), (51, .getfield 36, 54, [10, 7, 0, 116, 0], none), (54, .iconst 1, 55, [], none), (55, .iadd, 56, [], none), (56, .putfield 36, 59, [10, 7, 0, 116, 0, 0], none)] (7, .aload_n 0, 8, [], some [0, 1, 2]) (by decide +kernel) _ _ _).trans rfl
set_option maxRecDepth 20000 in
set_option maxHeartbeats 4000000 in
theorem B_X10_scanDigits_59 (d : Nat) (S : mS) (I : mI) (L : mJ) (l0 : Nat) (l1 : Int32) (l2 : Int32) :
  evk zcod none d zc_X10_scanDigits 59 [(0, .ref l0), (1, .int l1), (2, .int l2)] [] (S, I, L) =
  evk zcod none d zc_X10_scanDigits 7 [(0, .ref l0), (1, .int l1), (2, .int l2)] [] (S, I, L) :=
  (blk_ok zcod none d zc_X10_scanDigits [] (59, .goto (-52), 62, [7], some [0, 1, 2]) (by decide +kernel) _ _ _).trans rfl
set_option maxRecDepth 20000 in
set_option maxHeartbeats 4000000 in
theorem B_X10_scanDigits_62 (d : Nat) (S : mS) (I : mI) (L : mJ) (l0 : Nat) (l1 : Int32) (l2 : Int32) :
  evk zcod none d zc_X10_scanDigits 62 [(0, .ref l0), (1, .int l1), (2, .int l2)] [] (S, I, L) =
  if kK S l0 = 10 then
 (if ((I l0 7) - l1) ≤ (nI 4) then
 evk zcod none d zc_X10_scanDigits 77 [(1, .int l1), (2, .int l2)] [.ref l0] (S, I, L)
 else
 evk zcod none d zc_X10_scanDigits 78 [(1, .int l1), (2, .int l2)] [.int (nI 1), .ref l0] (S, I, L)) else none :=
  (blk_ok zcod none d zc_X10_scanDigits [(63, .aload_n 0, 64, [], none), (64, .getfield 36, 67, [10, 7, 0, 116, 0], none), (67, .iload_n 1, 68, [], none), (68, .isub, 69, [], none), (69, .iconst 4, 70, [], none), (70, .if_icmp .le 7, 73, [77], none), (73, .iconst 1, 74, [], none), (74, .goto 4, 77, [78], none)] (62, .aload_n 0, 63, [], some [0, 1, 2]) (by decide +kernel) _ _ _).trans rfl
set_option maxRecDepth 20000 in
set_option maxHeartbeats 4000000 in
theorem B_X10_scanDigits_77 (d : Nat) (S : mS) (I : mI) (L : mJ) (l1 : Int32) (l2 : Int32) (s0 : Nat) :
  evk zcod none d zc_X10_scanDigits 77 [(1, .int l1), (2, .int l2)] [.ref s0] (S, I, L) =
  evk zcod none d zc_X10_scanDigits 78 [(1, .int l1), (2, .int l2)] [.int (nI 3), .ref s0] (S, I, L) :=
  (blk_ok zcod none d zc_X10_scanDigits [] (77, .iconst 3, 78, [], some [1, 2]) (by decide +kernel) _ _ _).trans rfl
set_option maxRecDepth 20000 in
set_option maxHeartbeats 4000000 in
theorem B_X10_scanDigits_78 (d : Nat) (S : mS) (I : mI) (L : mJ) (l1 : Int32) (l2 : Int32) (s0 : Nat) (s1 : Int32) :
  evk zcod none d zc_X10_scanDigits 78 [(1, .int l1), (2, .int l2)] [.int s1, .ref s0] (S, I, L) =
  if kK S s0 = 10 then
 (bV (evM zcod d 41 [.ref s0, .int s1, .int l1, .long l2.toInt64] (S, I, L)) fun M1 =>
 if M1.1.1 = S.1 then
 (some (none, M1)) else none) else none :=
  (blk_ok zcod none d zc_X10_scanDigits [(79, .iload_n 2, 80, [], none), (80, .i2l, 81, [], none), (81, .invokevirtual 72, 84, [41, 3, 0, 10, 136, 137, 138, 126], none), (84, .return_, 85, [], none)] (78, .iload_n 1, 79, [], some [1, 2]) (by decide +kernel) _ _ _).trans rfl
theorem E_X6_faultPlace (d : Nat) (M : zM) (l0 : Nat) : evM zcod (d + 1) 51 [.ref l0] M = evk zcod none d zc_X6_faultPlace 0 [(0, .ref l0)] [] M := evM_eq zcod d 51 _ M (Nat.le_of_ble_eq_true rfl)
set_option maxRecDepth 20000 in
set_option maxHeartbeats 4000000 in
theorem B_X6_faultPlace_0 (d : Nat) (S : mS) (I : mI) (L : mJ) (l0 : Nat) :
  evk zcod none d zc_X6_faultPlace 0 [(0, .ref l0)] [] (S, I, L) =
  if kK S l0 = 6 then
 (some (some (.int (I l0 7)), (S, I, L))) else none :=
  (blk_ok zcod none d zc_X6_faultPlace [(1, .getfield 39, 4, [6, 7, 0, 168, 0], none), (4, .ireturn, 5, [0], none)] (0, .aload_n 0, 1, [], none) (by decide +kernel) _ _ _).trans rfl
theorem E_X6_faultOf (d : Nat) (M : zM) (l0 : Nat) (l1 : Nat) (l2 : Int32) : evM zcod (d + 1) 52 [.ref l0, .ref l1, .int l2] M = evk zcod none d zc_X6_faultOf 0 [(0, .ref l0), (1, .ref l1), (2, .int l2)] [] M := evM_eq zcod d 52 _ M (Nat.le_of_ble_eq_true rfl)
set_option maxRecDepth 20000 in
set_option maxHeartbeats 4000000 in
theorem B_X6_faultOf_0 (d : Nat) (S : mS) (I : mI) (L : mJ) (l0 : Nat) (l1 : Nat) (l2 : Int32) :
  evk zcod none d zc_X6_faultOf 0 [(0, .ref l0), (1, .ref l1), (2, .int l2)] [] (S, I, L) =
  if kK S l0 = 6 then
 (if kK S (kR S l0 1) = 5 then
 (bV (evM zcod d 33 [.ref (kR S l0 1)] (S, I, L)) fun M1 =>
 if M1.1.1 = S.1 then
 (if kK M1.1 l0 = 6 then
 (if kK M1.1 l0 = 6 then
 (if kK M1.1 l0 = 6 then
 (evk zcod none d zc_X6_faultOf 22 [(0, .ref l0), (1, .ref l1), (2, .int l2)] [] (M1.1, (uI (uI (uI M1.2.1 l0 3 (nI 0)) l0 4 (nI 0)) l0 6 (nI 0)), M1.2.2)) else none) else none) else none) else none) else none) else none :=
  (blk_ok zcod none d zc_X6_faultOf [(1, .getfield 18, 4, [6, 1, 2, 162, 0], none), (4, .invokevirtual 48, 7, [33, 0, 0, 5, 171, 88, 89, 90], none), (7, .aload_n 0, 8, [], none), (8, .iconst 0, 9, [], none), (9, .putfield 26, 12, [6, 3, 0, 164, 0, 0], none), (12, .aload_n 0, 13, [], none), (13, .iconst 0, 14, [], none), (14, .putfield 30, 17, [6, 4, 0, 165, 0, 0], none), (17, .aload_n 0, 18, [], none), (18, .iconst 0, 19, [], none), (19, .putfield 36, 22, [6, 6, 0, 167, 0, 0], none)] (0, .aload_n 0, 1, [], none) (by decide +kernel) _ _ _).trans rfl
set_option maxRecDepth 20000 in
set_option maxHeartbeats 4000000 in
theorem R_X6_faultOf_22 (d : Nat) (S : mS) (I : mI) (L : mJ) (l0 : Nat) (l1 : Nat) (l2 : Int32) :
  evk zcod none d zc_X6_faultOf 22 [(0, .ref l0), (1, .ref l1), (2, .int l2)] [] (S, I, L) =
  if kK S l0 = 6 then
 (if kK S l0 = 6 then
 (if kK S l0 = 6 then
 (if kK S l0 = 6 then
 (if kK S (kR S l0 0) = 10 then
 (bV (evM zcod d 36 [.ref (kR S l0 0), .ref l1, .int l2] (S, (uI (uI (uI I l0 7 (Int32.ofInt (-1))) l0 8 (nI 0)) l0 9 (Int32.ofInt (-1))), L)) fun M1 =>
 if M1.1.1 = S.1 then
 (evk zcod none d zc_X6_faultOf 46 [(0, .ref l0)] [] M1) else none) else none) else none) else none) else none) else none :=
  (blk_ok zcod none d zc_X6_faultOf [(23, .iconst (-1), 24, [], none), (24, .putfield 39, 27, [6, 7, 0, 168, 0, 0], none), (27, .aload_n 0, 28, [], none), (28, .iconst 0, 29, [], none), (29, .putfield 42, 32, [6, 8, 0, 169, 0, 0], none), (32, .aload_n 0, 33, [], none), (33, .iconst (-1), 34, [], none), (34, .putfield 45, 37, [6, 9, 0, 170, 0, 0], none), (37, .aload_n 0, 38, [], none), (38, .getfield 12, 41, [6, 0, 2, 161, 0], none), (41, .aload_n 1, 42, [], none), (42, .iload_n 2, 43, [], none), (43, .invokevirtual 53, 46, [36, 2, 0, 10, 172, 173, 174, 126], none)] (22, .aload_n 0, 23, [], some [0, 1, 2]) (by decide +kernel) _ _ _).trans rfl
theorem B_X6_faultOf_22 (d : Nat) (S : mS) (I : mI) (L : mJ) (l0 : Nat) (l1 : Nat) (l2 : Int32) :
  evk zcod none d zc_X6_faultOf 22 [(0, .ref l0), (1, .ref l1), (2, .int l2)] [] (S, I, L) =
  if kK S l0 = 6 then
 (if kK S l0 = 6 then
 (if kK S l0 = 6 then
 (if kK S l0 = 6 then
 (if kK S (kR S l0 0) = 10 then
 (bV (evM zcod d 36 [.ref (kR S l0 0), .ref l1, .int l2] (S, (uI (uI (uI I l0 7 (-1 : Int32)) l0 8 (nI 0)) l0 9 (-1 : Int32)), L)) fun M1 =>
 if M1.1.1 = S.1 then
 (evk zcod none d zc_X6_faultOf 46 [(0, .ref l0)] [] M1) else none) else none) else none) else none) else none) else none := by
  simpa only [cvN] using R_X6_faultOf_22 d S I L l0 l1 l2
set_option maxRecDepth 20000 in
set_option maxHeartbeats 4000000 in
theorem B_X6_faultOf_46 (d : Nat) (S : mS) (I : mI) (L : mJ) (l0 : Nat) :
  evk zcod none d zc_X6_faultOf 46 [(0, .ref l0)] [] (S, I, L) =
  if kK S l0 = 6 then
 (if kK S (kR S l0 0) = 10 then
 (bI (evM zcod d 37 [.ref (kR S l0 0), .int (nI 0)] (S, I, L)) fun x1 M1 =>
 if M1.1.1 = S.1 then
 (if kK M1.1 l0 = 6 then
 (evk zcod none d zc_X6_faultOf 60 [(0, .ref l0), (3, .int (nI 0))] [] (M1.1, (uI M1.2.1 l0 5 x1), M1.2.2)) else none) else none) else none) else none :=
  (blk_ok zcod none d zc_X6_faultOf [(47, .aload_n 0, 48, [], none), (48, .getfield 12, 51, [6, 0, 2, 161, 0], none), (51, .iconst 0, 52, [], none), (52, .invokevirtual 57, 55, [37, 1, 1, 10, 175, 176, 177, 126], none), (55, .putfield 33, 58, [6, 5, 0, 166, 0, 0], none), (58, .iconst 0, 59, [], none), (59, .istore_n 3, 60, [], none)] (46, .aload_n 0, 47, [], some [0]) (by decide +kernel) _ _ _).trans rfl
set_option maxRecDepth 20000 in
set_option maxHeartbeats 4000000 in
theorem B_X6_faultOf_60 (d : Nat) (S : mS) (I : mI) (L : mJ) (l0 : Nat) (l3 : Int32) :
  evk zcod none d zc_X6_faultOf 60 [(0, .ref l0), (3, .int l3)] [] (S, I, L) =
  if (nI 400) < l3 then
 evk zcod none d zc_X6_faultOf 91 [(0, .ref l0)] [] (S, I, L)
 else
 if kK S l0 = 6 then
 (if ¬ (I l0 6) = (nI 0) then
 evk zcod none d zc_X6_faultOf 91 [(0, .ref l0)] [] (S, I, L)
 else
 if kK S l0 = 6 then
 (if (I l0 5) = (nI 0) then
 evk zcod none d zc_X6_faultOf 91 [(0, .ref l0)] [] (S, I, L)
 else
 if kK S l0 = 6 then
 (bV (evM zcod d 53 [.ref l0] (S, I, L)) fun M1 =>
 if M1.1.1 = S.1 then
 (evk zcod none d zc_X6_faultOf 60 [(0, .ref l0), (3, .int (l3 + (nI 1)))] [] M1) else none) else none) else none) else none :=
  (blk_ok zcod none d zc_X6_faultOf [(61, .sipush 400, 64, [], none), (64, .if_icmp .gt 27, 67, [91], none), (67, .aload_n 0, 68, [], none), (68, .getfield 36, 71, [6, 6, 0, 167, 0], none), (71, .ifCond .ne 20, 74, [91], none), (74, .aload_n 0, 75, [], none), (75, .getfield 33, 78, [6, 5, 0, 166, 0], none), (78, .ifCond .eq 13, 81, [91], none), (81, .aload_n 0, 82, [], none), (82, .invokevirtual 61, 85, [53, 0, 0, 6, 178, 179, 180, 181], none), (85, .iinc 3 1, 88, [], none), (88, .goto (-28), 91, [60], none)] (60, .iload_n 3, 61, [], some [0, 3]) (by decide +kernel) _ _ _).trans rfl
set_option maxRecDepth 20000 in
set_option maxHeartbeats 4000000 in
theorem B_X6_faultOf_91 (d : Nat) (S : mS) (I : mI) (L : mJ) (l0 : Nat) :
  evk zcod none d zc_X6_faultOf 91 [(0, .ref l0)] [] (S, I, L) =
  if kK S l0 = 6 then
 (if ¬ (I l0 6) = (nI 0) then
 evk zcod none d zc_X6_faultOf 114 [(0, .ref l0)] [] (S, I, L)
 else
 if kK S l0 = 6 then
 (if kK S l0 = 6 then
 (if kK S l0 = 6 then
 (if kK S l0 = 6 then
 (evk zcod none d zc_X6_faultOf 114 [(0, .ref l0)] [] (S, (uI (uI I l0 6 (I l0 8)) l0 7 ((uI I l0 6 (I l0 8)) l0 9)), L)) else none) else none) else none) else none) else none :=
  (blk_ok zcod none d zc_X6_faultOf [(92, .getfield 36, 95, [6, 6, 0, 167, 0], none), (95, .ifCond .ne 19, 98, [114], none), (98, .aload_n 0, 99, [], none), (99, .aload_n 0, 100, [], none), (100, .getfield 42, 103, [6, 8, 0, 169, 0], none), (103, .putfield 36, 106, [6, 6, 0, 167, 0, 0], none), (106, .aload_n 0, 107, [], none), (107, .aload_n 0, 108, [], none), (108, .getfield 45, 111, [6, 9, 0, 170, 0], none), (111, .putfield 39, 114, [6, 7, 0, 168, 0, 0], none)] (91, .aload_n 0, 92, [], some [0]) (by decide +kernel) _ _ _).trans rfl
set_option maxRecDepth 20000 in
set_option maxHeartbeats 4000000 in
theorem B_X6_faultOf_114 (d : Nat) (S : mS) (I : mI) (L : mJ) (l0 : Nat) :
  evk zcod none d zc_X6_faultOf 114 [(0, .ref l0)] [] (S, I, L) =
  if kK S l0 = 6 then
 (some (some (.int (I l0 6)), (S, I, L))) else none :=
  (blk_ok zcod none d zc_X6_faultOf [(115, .getfield 36, 118, [6, 6, 0, 167, 0], none), (118, .ireturn, 119, [0], none)] (114, .aload_n 0, 115, [], some [0]) (by decide +kernel) _ _ _).trans rfl
theorem E_X6_statement (d : Nat) (M : zM) (l0 : Nat) : evM zcod (d + 1) 53 [.ref l0] M = evk zcod none d zc_X6_statement 0 [(0, .ref l0)] [] M := evM_eq zcod d 53 _ M (Nat.le_of_ble_eq_true rfl)
set_option maxRecDepth 20000 in
set_option maxHeartbeats 4000000 in
theorem B_X6_statement_0 (d : Nat) (S : mS) (I : mI) (L : mJ) (l0 : Nat) :
  evk zcod none d zc_X6_statement 0 [(0, .ref l0)] [] (S, I, L) =
  if kK S l0 = 6 then
 (if (I l0 5) = (nI 128) then evk zcod none d zc_X6_statement 60 [(0, .ref l0)] [] (S, I, L) else
 if (I l0 5) = (nI 129) then evk zcod none d zc_X6_statement 67 [(0, .ref l0)] [] (S, I, L) else
 if (I l0 5) = (nI 130) then evk zcod none d zc_X6_statement 74 [(0, .ref l0)] [] (S, I, L) else
 if (I l0 5) = (nI 131) then evk zcod none d zc_X6_statement 133 [(0, .ref l0)] [] (S, I, L) else
 if (I l0 5) = (nI 132) then evk zcod none d zc_X6_statement 133 [(0, .ref l0)] [] (S, I, L) else
 if (I l0 5) = (nI 133) then evk zcod none d zc_X6_statement 133 [(0, .ref l0)] [] (S, I, L) else
 if (I l0 5) = (nI 134) then evk zcod none d zc_X6_statement 133 [(0, .ref l0)] [] (S, I, L) else
 if (I l0 5) = (nI 135) then evk zcod none d zc_X6_statement 81 [(0, .ref l0)] [] (S, I, L) else
 if (I l0 5) = (nI 136) then evk zcod none d zc_X6_statement 98 [(0, .ref l0)] [] (S, I, L) else
 if (I l0 5) = (nI 137) then evk zcod none d zc_X6_statement 115 [(0, .ref l0)] [] (S, I, L) else
 evk zcod none d zc_X6_statement 133 [(0, .ref l0)] [] (S, I, L)) else none :=
  (blk_ok zcod none d zc_X6_statement [(1, .getfield 33, 4, [6, 5, 0, 166, 0], none), (4, .tableswitch 129 128 137 #[56, 63, 70, 129, 129, 129, 129, 77, 94, 111], 60, [133, 60, 67, 74, 133, 133, 133, 133, 81, 98, 115], none)] (0, .aload_n 0, 1, [], none) (by decide +kernel) _ _ _).trans rfl
set_option maxRecDepth 20000 in
set_option maxHeartbeats 4000000 in
theorem B_X6_statement_60 (d : Nat) (S : mS) (I : mI) (L : mJ) (l0 : Nat) :
  evk zcod none d zc_X6_statement 60 [(0, .ref l0)] [] (S, I, L) =
  if kK S l0 = 6 then
 (bV (evM zcod d 54 [.ref l0] (S, I, L)) fun M1 =>
 if M1.1.1 = S.1 then
 (evk zcod none d zc_X6_statement 145 [(0, .ref l0)] [] M1) else none) else none :=
  (blk_ok zcod none d zc_X6_statement [(61, .invokevirtual 64, 64, [54, 0, 0, 6, 182, 183, 184, 181], none), (64, .goto 81, 67, [145], none)] (60, .aload_n 0, 61, [], some [0]) (by decide +kernel) _ _ _).trans rfl
set_option maxRecDepth 20000 in
set_option maxHeartbeats 4000000 in
theorem B_X6_statement_67 (d : Nat) (S : mS) (I : mI) (L : mJ) (l0 : Nat) :
  evk zcod none d zc_X6_statement 67 [(0, .ref l0)] [] (S, I, L) =
  if kK S l0 = 6 then
 (bV (evM zcod d 55 [.ref l0] (S, I, L)) fun M1 =>
 if M1.1.1 = S.1 then
 (evk zcod none d zc_X6_statement 145 [(0, .ref l0)] [] M1) else none) else none :=
  (blk_ok zcod none d zc_X6_statement [(68, .invokevirtual 67, 71, [55, 0, 0, 6, 185, 186, 187, 181], none), (71, .goto 74, 74, [145], none)] (67, .aload_n 0, 68, [], some [0]) (by decide +kernel) _ _ _).trans rfl
set_option maxRecDepth 20000 in
set_option maxHeartbeats 4000000 in
theorem B_X6_statement_74 (d : Nat) (S : mS) (I : mI) (L : mJ) (l0 : Nat) :
  evk zcod none d zc_X6_statement 74 [(0, .ref l0)] [] (S, I, L) =
  if kK S l0 = 6 then
 (bV (evM zcod d 56 [.ref l0] (S, I, L)) fun M1 =>
 if M1.1.1 = S.1 then
 (evk zcod none d zc_X6_statement 145 [(0, .ref l0)] [] M1) else none) else none :=
  (blk_ok zcod none d zc_X6_statement [(75, .invokevirtual 70, 78, [56, 0, 0, 6, 188, 189, 190, 181], none), (78, .goto 67, 81, [145], none)] (74, .aload_n 0, 75, [], some [0]) (by decide +kernel) _ _ _).trans rfl
set_option maxRecDepth 20000 in
set_option maxHeartbeats 4000000 in
theorem B_X6_statement_81 (d : Nat) (S : mS) (I : mI) (L : mJ) (l0 : Nat) :
  evk zcod none d zc_X6_statement 81 [(0, .ref l0)] [] (S, I, L) =
  if kK S l0 = 6 then
 (if kK S l0 = 6 then
 (bI (evM zcod d 57 [.ref l0, .int (nI 1), .int (nI 99)] (S, I, L)) fun x1 M1 =>
 if M1.1.1 = S.1 then
 (if kK M1.1 (kR S l0 1) = 5 then
 (evk zcod none d zc_X6_statement 145 [(0, .ref l0)] [] (M1.1, (uI M1.2.1 (kR S l0 1) 2 x1), M1.2.2)) else none) else none) else none) else none :=
  (blk_ok zcod none d zc_X6_statement [(82, .getfield 18, 85, [6, 1, 2, 162, 0], none), (85, .aload_n 0, 86, [], none), (86, .iconst 1, 87, [], none), (87, .bipush 99, 89, [], none), (89, .invokevirtual 73, 92, [57, 2, 1, 6, 191, 192, 193, 181], none), (92, .putfield 77, 95, [5, 2, 0, 194, 1, 0], none), (95, .goto 50, 98, [145], none)] (81, .aload_n 0, 82, [], some [0]) (by decide +kernel) _ _ _).trans rfl
set_option maxRecDepth 20000 in
set_option maxHeartbeats 4000000 in
theorem B_X6_statement_98 (d : Nat) (S : mS) (I : mI) (L : mJ) (l0 : Nat) :
  evk zcod none d zc_X6_statement 98 [(0, .ref l0)] [] (S, I, L) =
  if kK S l0 = 6 then
 (if kK S l0 = 6 then
 (bI (evM zcod d 57 [.ref l0, .int (nI 0), .int (nI 100)] (S, I, L)) fun x1 M1 =>
 if M1.1.1 = S.1 then
 (if kK M1.1 (kR S l0 1) = 5 then
 (evk zcod none d zc_X6_statement 145 [(0, .ref l0)] [] (M1.1, (uI M1.2.1 (kR S l0 1) 3 x1), M1.2.2)) else none) else none) else none) else none :=
  (blk_ok zcod none d zc_X6_statement [(99, .getfield 18, 102, [6, 1, 2, 162, 0], none), (102, .aload_n 0, 103, [], none), (103, .iconst 0, 104, [], none), (104, .bipush 100, 106, [], none), (106, .invokevirtual 73, 109, [57, 2, 1, 6, 191, 192, 193, 181], none), (109, .putfield 80, 112, [5, 3, 0, 195, 1, 0], none), (112, .goto 33, 115, [145], none)] (98, .aload_n 0, 99, [], some [0]) (by decide +kernel) _ _ _).trans rfl
set_option maxRecDepth 20000 in
set_option maxHeartbeats 4000000 in
theorem B_X6_statement_115 (d : Nat) (S : mS) (I : mI) (L : mJ) (l0 : Nat) :
  evk zcod none d zc_X6_statement 115 [(0, .ref l0)] [] (S, I, L) =
  if kK S l0 = 6 then
 (if kK S l0 = 6 then
 (bI (evM zcod d 57 [.ref l0, .int (nI 0), .int (nI 9999)] (S, I, L)) fun x1 M1 =>
 if M1.1.1 = S.1 then
 (if kK M1.1 (kR S l0 1) = 5 then
 (evk zcod none d zc_X6_statement 145 [(0, .ref l0)] [] (M1.1, (uI M1.2.1 (kR S l0 1) 4 x1), M1.2.2)) else none) else none) else none) else none :=
  (blk_ok zcod none d zc_X6_statement [(116, .getfield 18, 119, [6, 1, 2, 162, 0], none), (119, .aload_n 0, 120, [], none), (120, .iconst 0, 121, [], none), (121, .sipush 9999, 124, [], none), (124, .invokevirtual 73, 127, [57, 2, 1, 6, 191, 192, 193, 181], none), (127, .putfield 83, 130, [5, 4, 0, 196, 1, 0], none), (130, .goto 15, 133, [145], none)] (115, .aload_n 0, 116, [], some [0]) (by decide +kernel) _ _ _).trans rfl
set_option maxRecDepth 20000 in
set_option maxHeartbeats 4000000 in
theorem B_X6_statement_133 (d : Nat) (S : mS) (I : mI) (L : mJ) (l0 : Nat) :
  evk zcod none d zc_X6_statement 133 [(0, .ref l0)] [] (S, I, L) =
  if kK S l0 = 6 then
 (if kK S l0 = 6 then
 (bV (evM zcod d 58 [.ref l0, .int ((I l0 5) - (nI 131))] (S, I, L)) fun M1 =>
 if M1.1.1 = S.1 then
 (evk zcod none d zc_X6_statement 145 [(0, .ref l0)] [] M1) else none) else none) else none :=
  (blk_ok zcod none d zc_X6_statement [(134, .aload_n 0, 135, [], none), (135, .getfield 33, 138, [6, 5, 0, 166, 0], none), (138, .sipush 131, 141, [], none), (141, .isub, 142, [], none), (142, .invokevirtual 86, 145, [58, 1, 0, 6, 197, 198, 199, 181], none)] (133, .aload_n 0, 134, [], some [0]) (by decide +kernel) _ _ _).trans rfl
set_option maxRecDepth 20000 in
set_option maxHeartbeats 4000000 in
theorem B_X6_statement_145 (d : Nat) (S : mS) (I : mI) (L : mJ) (l0 : Nat) :
  evk zcod none d zc_X6_statement 145 [(0, .ref l0)] [] (S, I, L) =
  if kK S l0 = 6 then
 (bI (evM zcod d 62 [.ref l0, .int (nI 59)] (S, I, L)) fun x1 M1 =>
 if M1.1.1 = S.1 then
 (some (none, M1)) else none) else none :=
  (blk_ok zcod none d zc_X6_statement [(146, .bipush 59, 148, [], none), (148, .invokevirtual 90, 151, [62, 1, 1, 6, 200, 201, 202, 181], none), (151, .pop, 152, [], none), (152, .return_, 153, [], none)] (145, .aload_n 0, 146, [], some [0]) (by decide +kernel) _ _ _).trans rfl
theorem E_X6_loadStatement (d : Nat) (M : zM) (l0 : Nat) : evM zcod (d + 1) 54 [.ref l0] M = evk zcod none d zc_X6_loadStatement 0 [(0, .ref l0)] [] M := evM_eq zcod d 54 _ M (Nat.le_of_ble_eq_true rfl)
set_option maxRecDepth 20000 in
set_option maxHeartbeats 4000000 in
theorem B_X6_loadStatement_0 (d : Nat) (S : mS) (I : mI) (L : mJ) (l0 : Nat) :
  evk zcod none d zc_X6_loadStatement 0 [(0, .ref l0)] [] (S, I, L) =
  if kK S l0 = 6 then
 (if kK S (kR S l0 1) = 5 then
 (if kK S (kR S (kR S l0 1) 0) = 8 then
 (if kK S l0 = 6 then
 (bV (evM zcod d 63 [.ref l0, .ref (kR S (kR S (kR S l0 1) 0) 0)] (S, I, L)) fun M1 =>
 if M1.1.1 = S.1 then
 (if kK M1.1 l0 = 6 then
 (bV (evM zcod d 64 [.ref l0] M1) fun M2 =>
 if M2.1.1 = M1.1.1 then
 (if kK M2.1 (kR S (kR S (kR S l0 1) 0) 0) = 9 then
 (bI (evM zcod d 7 [.ref (kR S (kR S (kR S l0 1) 0) 0)] M2) fun x3 M3 =>
 if M3.1.1 = M2.1.1 then
 (if kK M3.1 l0 = 6 then
 (bI (evM zcod d 65 [.ref l0, .int (nI 1), .int (nI 0), .int (nI 19)] M3) fun x4 M4 =>
 if M4.1.1 = M3.1.1 then
 (if kK M4.1 (kR S (kR S (kR S l0 1) 0) 0) = 9 then
 (bV (evM zcod d 6 [.ref (kR S (kR S (kR S l0 1) 0) 0), .int x3, .int (nI 0), .int x4] M4) fun M5 =>
 if M5.1.1 = M4.1.1 then
 (evk zcod none d zc_X6_loadStatement 39 [(0, .ref l0), (1, .ref (kR S (kR S (kR S l0 1) 0) 0)), (2, .int x3)] [] M5) else none) else none) else none) else none) else none) else none) else none) else none) else none) else none) else none) else none) else none :=
  (blk_ok zcod none d zc_X6_loadStatement [(1, .getfield 18, 4, [6, 1, 2, 162, 0], none), (4, .getfield 94, 7, [5, 0, 2, 203, 1], none), (7, .getfield 98, 10, [8, 0, 2, 204, 1], none), (10, .astore_n 1, 11, [], none), (11, .aload_n 0, 12, [], none), (12, .aload_n 1, 13, [], none), (13, .invokevirtual 104, 16, [63, 1, 0, 6, 205, 206, 207, 181], none), (16, .aload_n 0, 17, [], none), (17, .invokevirtual 108, 20, [64, 0, 0, 6, 208, 209, 210, 181], none), (20, .aload_n 1, 21, [], none), (21, .invokevirtual 111, 24, [7, 0, 1, 9, 211, 212, 213, 11], none), (24, .istore_n 2, 25, [], none), (25, .aload_n 1, 26, [], none), (26, .iload_n 2, 27, [], none), (27, .iconst 0, 28, [], none), (28, .aload_n 0, 29, [], none), (29, .iconst 1, 30, [], none), (30, .iconst 0, 31, [], none), (31, .bipush 19, 33, [], none), (33, .invokevirtual 117, 36, [65, 3, 1, 6, 214, 215, 216, 181], none), (36, .invokevirtual 121, 39, [6, 3, 0, 9, 217, 13, 14, 11], none)] (0, .aload_n 0, 1, [], none) (by decide +kernel) _ _ _).trans rfl
set_option maxRecDepth 20000 in
set_option maxHeartbeats 4000000 in
theorem B_X6_loadStatement_39 (d : Nat) (S : mS) (I : mI) (L : mJ) (l0 : Nat) (l1 : Nat) (l2 : Int32) :
  evk zcod none d zc_X6_loadStatement 39 [(0, .ref l0), (1, .ref l1), (2, .int l2)] [] (S, I, L) =
  if kK S l0 = 6 then
 (bI (evM zcod d 65 [.ref l0, .int (nI 1), .int (nI 1), .int (nI 9)] (S, I, L)) fun x1 M1 =>
 if M1.1.1 = S.1 then
 (if kK M1.1 l1 = 9 then
 (bV (evM zcod d 6 [.ref l1, .int l2, .int (nI 1), .int x1] M1) fun M2 =>
 if M2.1.1 = M1.1.1 then
 (if kK M2.1 l0 = 6 then
 (bI (evM zcod d 65 [.ref l0, .int (nI 1), .int (nI 0), .int (nI 99)] M2) fun x3 M3 =>
 if M3.1.1 = M2.1.1 then
 (if kK M3.1 l1 = 9 then
 (bV (evM zcod d 6 [.ref l1, .int l2, .int (nI 2), .int x3] M3) fun M4 =>
 if M4.1.1 = M3.1.1 then
 (evk zcod none d zc_X6_loadStatement 67 [(1, .ref l1), (2, .int l2)] [] M4) else none) else none) else none) else none) else none) else none) else none) else none :=
  (blk_ok zcod none d zc_X6_loadStatement [(40, .iload_n 2, 41, [], none), (41, .iconst 1, 42, [], none), (42, .aload_n 0, 43, [], none), (43, .iconst 1, 44, [], none), (44, .iconst 1, 45, [], none), (45, .bipush 9, 47, [], none), (47, .invokevirtual 117, 50, [65, 3, 1, 6, 214, 215, 216, 181], none), (50, .invokevirtual 121, 53, [6, 3, 0, 9, 217, 13, 14, 11], none), (53, .aload_n 1, 54, [], none), (54, .iload_n 2, 55, [], none), (55, .iconst 2, 56, [], none), (56, .aload_n 0, 57, [], none), (57, .iconst 1, 58, [], none), (58, .iconst 0, 59, [], none), (59, .bipush 99, 61, [], none), (61, .invokevirtual 117, 64, [65, 3, 1, 6, 214, 215, 216, 181], none), (64, .invokevirtual 121, 67, [6, 3, 0, 9, 217, 13, 14, 11], none)] (39, .aload_n 1, 40, [], some [0, 1, 2]) (by decide +kernel) _ _ _).trans rfl
set_option maxRecDepth 20000 in
set_option maxHeartbeats 4000000 in
theorem R_X6_loadStatement_67 (d : Nat) (S : mS) (I : mI) (L : mJ) (l1 : Nat) (l2 : Int32) :
  evk zcod none d zc_X6_loadStatement 67 [(1, .ref l1), (2, .int l2)] [] (S, I, L) =
  if kK S l1 = 9 then
 (bV (evM zcod d 6 [.ref l1, .int l2, .int (nI 3), .int (nI 0)] (S, I, L)) fun M1 =>
 if M1.1.1 = S.1 then
 (if kK M1.1 l1 = 9 then
 (bV (evM zcod d 6 [.ref l1, .int l2, .int (nI 5), .int ((Int8.ofInt (-2)).toInt32)] M1) fun M2 =>
 if M2.1.1 = M1.1.1 then
 (if kK M2.1 l1 = 9 then
 (bV (evM zcod d 6 [.ref l1, .int l2, .int (nI 6), .int ((Int8.ofInt (-2)).toInt32)] M2) fun M3 =>
 if M3.1.1 = M2.1.1 then
 (some (none, M3)) else none) else none) else none) else none) else none) else none :=
  (blk_ok zcod none d zc_X6_loadStatement [(68, .iload_n 2, 69, [], none), (69, .iconst 3, 70, [], none), (70, .iconst 0, 71, [], none), (71, .invokevirtual 121, 74, [6, 3, 0, 9, 217, 13, 14, 11], none), (74, .aload_n 1, 75, [], none), (75, .iload_n 2, 76, [], none), (76, .iconst 5, 77, [], none), (77, .bipush (-2), 79, [], none), (79, .invokevirtual 121, 82, [6, 3, 0, 9, 217, 13, 14, 11], none), (82, .aload_n 1, 83, [], none), (83, .iload_n 2, 84, [], none), (84, .bipush 6, 86, [], none), (86, .bipush (-2), 88, [], none), (88, .invokevirtual 121, 91, [6, 3, 0, 9, 217, 13, 14, 11], none), (91, .return_, 92, [], none)] (67, .aload_n 1, 68, [], some [1, 2]) (by decide +kernel) _ _ _).trans rfl
theorem B_X6_loadStatement_67 (d : Nat) (S : mS) (I : mI) (L : mJ) (l1 : Nat) (l2 : Int32) :
  evk zcod none d zc_X6_loadStatement 67 [(1, .ref l1), (2, .int l2)] [] (S, I, L) =
  if kK S l1 = 9 then
 (bV (evM zcod d 6 [.ref l1, .int l2, .int (nI 3), .int (nI 0)] (S, I, L)) fun M1 =>
 if M1.1.1 = S.1 then
 (if kK M1.1 l1 = 9 then
 (bV (evM zcod d 6 [.ref l1, .int l2, .int (nI 5), .int (-2 : Int32)] M1) fun M2 =>
 if M2.1.1 = M1.1.1 then
 (if kK M2.1 l1 = 9 then
 (bV (evM zcod d 6 [.ref l1, .int l2, .int (nI 6), .int (-2 : Int32)] M2) fun M3 =>
 if M3.1.1 = M2.1.1 then
 (some (none, M3)) else none) else none) else none) else none) else none) else none := by
  simpa only [cvN] using R_X6_loadStatement_67 d S I L l1 l2
theorem E_X6_silkStatement (d : Nat) (M : zM) (l0 : Nat) : evM zcod (d + 1) 55 [.ref l0] M = evk zcod none d zc_X6_silkStatement 0 [(0, .ref l0)] [] M := evM_eq zcod d 55 _ M (Nat.le_of_ble_eq_true rfl)
set_option maxRecDepth 20000 in
set_option maxHeartbeats 4000000 in
theorem B_X6_silkStatement_0 (d : Nat) (S : mS) (I : mI) (L : mJ) (l0 : Nat) :
  evk zcod none d zc_X6_silkStatement 0 [(0, .ref l0)] [] (S, I, L) =
  if kK S l0 = 6 then
 (if kK S (kR S l0 1) = 5 then
 (if kK S (kR S (kR S l0 1) 0) = 8 then
 (if kK S l0 = 6 then
 (bV (evM zcod d 63 [.ref l0, .ref (kR S (kR S (kR S l0 1) 0) 1)] (S, I, L)) fun M1 =>
 if M1.1.1 = S.1 then
 (if kK M1.1 l0 = 6 then
 (bV (evM zcod d 64 [.ref l0] M1) fun M2 =>
 if M2.1.1 = M1.1.1 then
 (if kK M2.1 (kR S (kR S (kR S l0 1) 0) 1) = 9 then
 (bI (evM zcod d 7 [.ref (kR S (kR S (kR S l0 1) 0) 1)] M2) fun x3 M3 =>
 if M3.1.1 = M2.1.1 then
 (if kK M3.1 l0 = 6 then
 (bI (evM zcod d 65 [.ref l0, .int (nI 1), .int (nI 1), .int (nI 9)] M3) fun x4 M4 =>
 if M4.1.1 = M3.1.1 then
 (if kK M4.1 (kR S (kR S (kR S l0 1) 0) 1) = 9 then
 (bV (evM zcod d 6 [.ref (kR S (kR S (kR S l0 1) 0) 1), .int x3, .int (nI 0), .int x4] M4) fun M5 =>
 if M5.1.1 = M4.1.1 then
 (evk zcod none d zc_X6_silkStatement 39 [(0, .ref l0), (1, .ref (kR S (kR S (kR S l0 1) 0) 1)), (2, .int x3)] [] M5) else none) else none) else none) else none) else none) else none) else none) else none) else none) else none) else none) else none) else none :=
  (blk_ok zcod none d zc_X6_silkStatement [(1, .getfield 18, 4, [6, 1, 2, 162, 0], none), (4, .getfield 94, 7, [5, 0, 2, 203, 1], none), (7, .getfield 125, 10, [8, 1, 2, 218, 1], none), (10, .astore_n 1, 11, [], none), (11, .aload_n 0, 12, [], none), (12, .aload_n 1, 13, [], none), (13, .invokevirtual 104, 16, [63, 1, 0, 6, 205, 206, 207, 181], none), (16, .aload_n 0, 17, [], none), (17, .invokevirtual 108, 20, [64, 0, 0, 6, 208, 209, 210, 181], none), (20, .aload_n 1, 21, [], none), (21, .invokevirtual 111, 24, [7, 0, 1, 9, 211, 212, 213, 11], none), (24, .istore_n 2, 25, [], none), (25, .aload_n 1, 26, [], none), (26, .iload_n 2, 27, [], none), (27, .iconst 0, 28, [], none), (28, .aload_n 0, 29, [], none), (29, .iconst 1, 30, [], none), (30, .iconst 1, 31, [], none), (31, .bipush 9, 33, [], none), (33, .invokevirtual 117, 36, [65, 3, 1, 6, 214, 215, 216, 181], none), (36, .invokevirtual 121, 39, [6, 3, 0, 9, 217, 13, 14, 11], none)] (0, .aload_n 0, 1, [], none) (by decide +kernel) _ _ _).trans rfl
set_option maxRecDepth 20000 in
set_option maxHeartbeats 4000000 in
theorem R_X6_silkStatement_39 (d : Nat) (S : mS) (I : mI) (L : mJ) (l0 : Nat) (l1 : Nat) (l2 : Int32) :
  evk zcod none d zc_X6_silkStatement 39 [(0, .ref l0), (1, .ref l1), (2, .int l2)] [] (S, I, L) =
  if kK S l0 = 6 then
 (if ¬ (I l0 5) = (nI 45) then
 evk zcod none d zc_X6_silkStatement 59 [(0, .ref l0), (1, .ref l1), (2, .int l2), (3, .int (nI 1))] [] (S, I, L)
 else
 if kK S l0 = 6 then
 (bI (evM zcod d 62 [.ref l0, .int (nI 45)] (S, I, L)) fun x1 M1 =>
 if M1.1.1 = S.1 then
 (evk zcod none d zc_X6_silkStatement 59 [(0, .ref l0), (1, .ref l1), (2, .int l2), (3, .int (Int32.ofInt (-1)))] [] M1) else none) else none) else none :=
  (blk_ok zcod none d zc_X6_silkStatement [(40, .istore_n 3, 41, [], none), (41, .aload_n 0, 42, [], none), (42, .getfield 33, 45, [6, 5, 0, 166, 0], none), (45, .bipush 45, 47, [], none), (47, .if_icmp .ne 12, 50, [59], none), (50, .aload_n 0, 51, [], none), (51, .bipush 45, 53, [], none), (53, .invokevirtual 90, 56, [62, 1, 1, 6, 200, 201, 202, 181], none), (56, .pop, 57, [], none), (57, .iconst (-1), 58, [], none), (58, .istore_n 3, 59, [], none)] (39, .iconst 1, 40, [], some [0, 1, 2]) (by decide +kernel) _ _ _).trans rfl
theorem B_X6_silkStatement_39 (d : Nat) (S : mS) (I : mI) (L : mJ) (l0 : Nat) (l1 : Nat) (l2 : Int32) :
  evk zcod none d zc_X6_silkStatement 39 [(0, .ref l0), (1, .ref l1), (2, .int l2)] [] (S, I, L) =
  if kK S l0 = 6 then
 (if ¬ (I l0 5) = (nI 45) then
 evk zcod none d zc_X6_silkStatement 59 [(0, .ref l0), (1, .ref l1), (2, .int l2), (3, .int (nI 1))] [] (S, I, L)
 else
 if kK S l0 = 6 then
 (bI (evM zcod d 62 [.ref l0, .int (nI 45)] (S, I, L)) fun x1 M1 =>
 if M1.1.1 = S.1 then
 (evk zcod none d zc_X6_silkStatement 59 [(0, .ref l0), (1, .ref l1), (2, .int l2), (3, .int (-1 : Int32))] [] M1) else none) else none) else none := by
  simpa only [cvN] using R_X6_silkStatement_39 d S I L l0 l1 l2
set_option maxRecDepth 20000 in
set_option maxHeartbeats 4000000 in
theorem R_X6_silkStatement_59 (d : Nat) (S : mS) (I : mI) (L : mJ) (l0 : Nat) (l1 : Nat) (l2 : Int32) (l3 : Int32) :
  evk zcod none d zc_X6_silkStatement 59 [(0, .ref l0), (1, .ref l1), (2, .int l2), (3, .int l3)] [] (S, I, L) =
  if kK S l0 = 6 then
 (bI (evM zcod d 65 [.ref l0, .int l3, .int ((Int8.ofInt (-3)).toInt32), .int (nI 3)] (S, I, L)) fun x1 M1 =>
 if M1.1.1 = S.1 then
 (if kK M1.1 l1 = 9 then
 (bV (evM zcod d 6 [.ref l1, .int l2, .int (nI 3), .int x1] M1) fun M2 =>
 if M2.1.1 = M1.1.1 then
 (if kK M2.1 l1 = 9 then
 (bV (evM zcod d 6 [.ref l1, .int l2, .int (nI 1), .int ((Int8.ofInt (-2)).toInt32)] M2) fun M3 =>
 if M3.1.1 = M2.1.1 then
 (some (none, M3)) else none) else none) else none) else none) else none) else none :=
  (blk_ok zcod none d zc_X6_silkStatement [(60, .iload_n 2, 61, [], none), (61, .iconst 3, 62, [], none), (62, .aload_n 0, 63, [], none), (63, .iload_n 3, 64, [], none), (64, .bipush (-3), 66, [], none), (66, .iconst 3, 67, [], none), (67, .invokevirtual 117, 70, [65, 3, 1, 6, 214, 215, 216, 181], none), (70, .invokevirtual 121, 73, [6, 3, 0, 9, 217, 13, 14, 11], none), (73, .aload_n 1, 74, [], none), (74, .iload_n 2, 75, [], none), (75, .iconst 1, 76, [], none), (76, .bipush (-2), 78, [], none), (78, .invokevirtual 121, 81, [6, 3, 0, 9, 217, 13, 14, 11], none), (81, .return_, 82, [], none)] (59, .aload_n 1, 60, [], some [0, 1, 2, 3]) (by decide +kernel) _ _ _).trans rfl
theorem B_X6_silkStatement_59 (d : Nat) (S : mS) (I : mI) (L : mJ) (l0 : Nat) (l1 : Nat) (l2 : Int32) (l3 : Int32) :
  evk zcod none d zc_X6_silkStatement 59 [(0, .ref l0), (1, .ref l1), (2, .int l2), (3, .int l3)] [] (S, I, L) =
  if kK S l0 = 6 then
 (bI (evM zcod d 65 [.ref l0, .int l3, .int (-3 : Int32), .int (nI 3)] (S, I, L)) fun x1 M1 =>
 if M1.1.1 = S.1 then
 (if kK M1.1 l1 = 9 then
 (bV (evM zcod d 6 [.ref l1, .int l2, .int (nI 3), .int x1] M1) fun M2 =>
 if M2.1.1 = M1.1.1 then
 (if kK M2.1 l1 = 9 then
 (bV (evM zcod d 6 [.ref l1, .int l2, .int (nI 1), .int (-2 : Int32)] M2) fun M3 =>
 if M3.1.1 = M2.1.1 then
 (some (none, M3)) else none) else none) else none) else none) else none) else none := by
  simpa only [cvN] using R_X6_silkStatement_59 d S I L l0 l1 l2 l3
theorem E_X6_hookStatement (d : Nat) (M : zM) (l0 : Nat) : evM zcod (d + 1) 56 [.ref l0] M = evk zcod none d zc_X6_hookStatement 0 [(0, .ref l0)] [] M := evM_eq zcod d 56 _ M (Nat.le_of_ble_eq_true rfl)
set_option maxRecDepth 20000 in
set_option maxHeartbeats 4000000 in
theorem B_X6_hookStatement_0 (d : Nat) (S : mS) (I : mI) (L : mJ) (l0 : Nat) :
  evk zcod none d zc_X6_hookStatement 0 [(0, .ref l0)] [] (S, I, L) =
  if kK S l0 = 6 then
 (if kK S (kR S l0 1) = 5 then
 (if kK S (kR S (kR S l0 1) 0) = 8 then
 (if kK S l0 = 6 then
 (bV (evM zcod d 63 [.ref l0, .ref (kR S (kR S (kR S l0 1) 0) 2)] (S, I, L)) fun M1 =>
 if M1.1.1 = S.1 then
 (if kK M1.1 l0 = 6 then
 (bV (evM zcod d 64 [.ref l0] M1) fun M2 =>
 if M2.1.1 = M1.1.1 then
 (if kK M2.1 (kR S (kR S (kR S l0 1) 0) 2) = 9 then
 (bI (evM zcod d 7 [.ref (kR S (kR S (kR S l0 1) 0) 2)] M2) fun x3 M3 =>
 if M3.1.1 = M2.1.1 then
 (if kK M3.1 l0 = 6 then
 (bI (evM zcod d 65 [.ref l0, .int (nI 1), .int (nI 0), .int (nI 19)] M3) fun x4 M4 =>
 if M4.1.1 = M3.1.1 then
 (if kK M4.1 (kR S (kR S (kR S l0 1) 0) 2) = 9 then
 (bV (evM zcod d 6 [.ref (kR S (kR S (kR S l0 1) 0) 2), .int x3, .int (nI 0), .int x4] M4) fun M5 =>
 if M5.1.1 = M4.1.1 then
 (evk zcod none d zc_X6_hookStatement 39 [(0, .ref l0), (1, .ref (kR S (kR S (kR S l0 1) 0) 2)), (2, .int x3)] [] M5) else none) else none) else none) else none) else none) else none) else none) else none) else none) else none) else none) else none) else none :=
  (blk_ok zcod none d zc_X6_hookStatement [(1, .getfield 18, 4, [6, 1, 2, 162, 0], none), (4, .getfield 94, 7, [5, 0, 2, 203, 1], none), (7, .getfield 128, 10, [8, 2, 2, 219, 1], none), (10, .astore_n 1, 11, [], none), (11, .aload_n 0, 12, [], none), (12, .aload_n 1, 13, [], none), (13, .invokevirtual 104, 16, [63, 1, 0, 6, 205, 206, 207, 181], none), (16, .aload_n 0, 17, [], none), (17, .invokevirtual 108, 20, [64, 0, 0, 6, 208, 209, 210, 181], none), (20, .aload_n 1, 21, [], none), (21, .invokevirtual 111, 24, [7, 0, 1, 9, 211, 212, 213, 11], none), (24, .istore_n 2, 25, [], none), (25, .aload_n 1, 26, [], none), (26, .iload_n 2, 27, [], none), (27, .iconst 0, 28, [], none), (28, .aload_n 0, 29, [], none), (29, .iconst 1, 30, [], none), (30, .iconst 0, 31, [], none), (31, .bipush 19, 33, [], none), (33, .invokevirtual 117, 36, [65, 3, 1, 6, 214, 215, 216, 181], none), (36, .invokevirtual 121, 39, [6, 3, 0, 9, 217, 13, 14, 11], none)] (0, .aload_n 0, 1, [], none) (by decide +kernel) _ _ _).trans rfl
set_option maxRecDepth 20000 in
set_option maxHeartbeats 4000000 in
theorem B_X6_hookStatement_39 (d : Nat) (S : mS) (I : mI) (L : mJ) (l0 : Nat) (l1 : Nat) (l2 : Int32) :
  evk zcod none d zc_X6_hookStatement 39 [(0, .ref l0), (1, .ref l1), (2, .int l2)] [] (S, I, L) =
  if kK S l0 = 6 then
 (bI (evM zcod d 65 [.ref l0, .int (nI 1), .int (nI 0), .int (nI 5)] (S, I, L)) fun x1 M1 =>
 if M1.1.1 = S.1 then
 (if kK M1.1 l1 = 9 then
 (bV (evM zcod d 6 [.ref l1, .int l2, .int (nI 1), .int x1] M1) fun M2 =>
 if M2.1.1 = M1.1.1 then
 (if kK M2.1 l0 = 6 then
 (bI (evM zcod d 65 [.ref l0, .int (nI 1), .int (nI 1), .int (nI 9)] M2) fun x3 M3 =>
 if M3.1.1 = M2.1.1 then
 (if kK M3.1 l1 = 9 then
 (bV (evM zcod d 6 [.ref l1, .int l2, .int (nI 2), .int x3] M3) fun M4 =>
 if M4.1.1 = M3.1.1 then
 (evk zcod none d zc_X6_hookStatement 66 [] [] M4) else none) else none) else none) else none) else none) else none) else none) else none :=
  (blk_ok zcod none d zc_X6_hookStatement [(40, .iload_n 2, 41, [], none), (41, .iconst 1, 42, [], none), (42, .aload_n 0, 43, [], none), (43, .iconst 1, 44, [], none), (44, .iconst 0, 45, [], none), (45, .iconst 5, 46, [], none), (46, .invokevirtual 117, 49, [65, 3, 1, 6, 214, 215, 216, 181], none), (49, .invokevirtual 121, 52, [6, 3, 0, 9, 217, 13, 14, 11], none), (52, .aload_n 1, 53, [], none), (53, .iload_n 2, 54, [], none), (54, .iconst 2, 55, [], none), (55, .aload_n 0, 56, [], none), (56, .iconst 1, 57, [], none), (57, .iconst 1, 58, [], none), (58, .bipush 9, 60, [], none), (60, .invokevirtual 117, 63, [65, 3, 1, 6, 214, 215, 216, 181], none), (63, .invokevirtual 121, 66, [6, 3, 0, 9, 217, 13, 14, 11], none)] (39, .aload_n 1, 40, [], some [0, 1, 2]) (by decide +kernel) _ _ _).trans rfl
set_option maxRecDepth 20000 in
set_option maxHeartbeats 4000000 in
theorem B_X6_hookStatement_66 (d : Nat) (S : mS) (I : mI) (L : mJ)  :
  evk zcod none d zc_X6_hookStatement 66 [] [] (S, I, L) =
  some (none, (S, I, L)) :=
  (blk_ok zcod none d zc_X6_hookStatement [] (66, .return_, 67, [], some []) (by decide +kernel) _ _ _).trans rfl
theorem E_X6_setting (d : Nat) (M : zM) (l0 : Nat) (l1 : Int32) (l2 : Int32) : evM zcod (d + 1) 57 [.ref l0, .int l1, .int l2] M = evk zcod none d zc_X6_setting 0 [(0, .ref l0), (1, .int l1), (2, .int l2)] [] M := evM_eq zcod d 57 _ M (Nat.le_of_ble_eq_true rfl)
set_option maxRecDepth 20000 in
set_option maxHeartbeats 4000000 in
theorem B_X6_setting_0 (d : Nat) (S : mS) (I : mI) (L : mJ) (l0 : Nat) (l1 : Int32) (l2 : Int32) :
  evk zcod none d zc_X6_setting 0 [(0, .ref l0), (1, .int l1), (2, .int l2)] [] (S, I, L) =
  if kK S l0 = 6 then
 (if kK S l0 = 6 then
 (bI (evM zcod d 62 [.ref l0, .int (I l0 5)] (S, I, L)) fun x1 M1 =>
 if M1.1.1 = S.1 then
 (if kK M1.1 l0 = 6 then
 (bI (evM zcod d 65 [.ref l0, .int (nI 1), .int l1, .int l2] M1) fun x2 M2 =>
 if M2.1.1 = M1.1.1 then
 (some (some (.int x2), M2)) else none) else none) else none) else none) else none :=
  (blk_ok zcod none d zc_X6_setting [(1, .aload_n 0, 2, [], none), (2, .getfield 33, 5, [6, 5, 0, 166, 0], none), (5, .invokevirtual 90, 8, [62, 1, 1, 6, 200, 201, 202, 181], none), (8, .pop, 9, [], none), (9, .aload_n 0, 10, [], none), (10, .iconst 1, 11, [], none), (11, .iload_n 1, 12, [], none), (12, .iload_n 2, 13, [], none), (13, .invokevirtual 117, 16, [65, 3, 1, 6, 214, 215, 216, 181], none), (16, .ireturn, 17, [0], none)] (0, .aload_n 0, 1, [], none) (by decide +kernel) _ _ _).trans rfl
theorem E_X6_lawStatement (d : Nat) (M : zM) (l0 : Nat) (l1 : Int32) : evM zcod (d + 1) 58 [.ref l0, .int l1] M = evk zcod none d zc_X6_lawStatement 0 [(0, .ref l0), (1, .int l1)] [] M := evM_eq zcod d 58 _ M (Nat.le_of_ble_eq_true rfl)
set_option maxRecDepth 20000 in
set_option maxHeartbeats 4000000 in
theorem B_X6_lawStatement_0 (d : Nat) (S : mS) (I : mI) (L : mJ) (l0 : Nat) (l1 : Int32) :
  evk zcod none d zc_X6_lawStatement 0 [(0, .ref l0), (1, .int l1)] [] (S, I, L) =
  bI (evM zcod d 145 [.int l1, .int (nI 0), .int (nI 3)] (S, I, L)) fun x1 M1 =>
 if M1.1.1 = S.1 then
 (if ¬ x1 = (nI 0) then
 evk zcod none d zc_X6_lawStatement 15 [(0, .ref l0), (1, .int l1)] [] M1
 else
 if kK M1.1 l0 = 6 then
 (bV (evM zcod d 66 [.ref l0, .int (nI 1)] M1) fun M2 =>
 if M2.1.1 = M1.1.1 then
 (some (none, M2)) else none) else none) else none :=
  (blk_ok zcod none d zc_X6_lawStatement [(1, .iconst 0, 2, [], none), (2, .iconst 3, 3, [], none), (3, .invokestatic 131, 6, [145, 3, 1, 1, 220, 221, 222], none), (6, .ifCond .ne 9, 9, [15], none), (9, .aload_n 0, 10, [], none), (10, .iconst 1, 11, [], none), (11, .invokevirtual 135, 14, [66, 1, 0, 6, 223, 224, 225, 181], none), (14, .return_, 15, [], none)] (0, .iload_n 1, 1, [], none) (by decide +kernel) _ _ _).trans rfl
set_option maxRecDepth 20000 in
set_option maxHeartbeats 4000000 in
theorem B_X6_lawStatement_15 (d : Nat) (S : mS) (I : mI) (L : mJ) (l0 : Nat) (l1 : Int32) :
  evk zcod none d zc_X6_lawStatement 15 [(0, .ref l0), (1, .int l1)] [] (S, I, L) =
  if kK S l0 = 6 then
 (if kK S l0 = 6 then
 (bI (evM zcod d 62 [.ref l0, .int (I l0 5)] (S, I, L)) fun x1 M1 =>
 if M1.1.1 = S.1 then
 (if kK M1.1 l0 = 6 then
 (bI (evM zcod d 62 [.ref l0, .int (nI 61)] M1) fun x2 M2 =>
 if M2.1.1 = M1.1.1 then
 (if kK M2.1 l0 = 6 then
 (if kK M2.1 (kR M2.1 l0 1) = 5 then
 (if kK M2.1 (kR M2.1 (kR M2.1 l0 1) 1) = 3 then
 (bV (evM zcod d 12 [.ref (kR M2.1 (kR M2.1 l0 1) 1), .int l1] M2) fun M3 =>
 if M3.1.1 = M2.1.1 then
 (evk zcod none d zc_X6_lawStatement 44 [(0, .ref l0), (2, .int (nI 0))] [] M3) else none) else none) else none) else none) else none) else none) else none) else none) else none :=
  (blk_ok zcod none d zc_X6_lawStatement [(16, .aload_n 0, 17, [], none), (17, .getfield 33, 20, [6, 5, 0, 166, 0], none), (20, .invokevirtual 90, 23, [62, 1, 1, 6, 200, 201, 202, 181], none), (23, .pop, 24, [], none), (24, .aload_n 0, 25, [], none), (25, .bipush 61, 27, [], none), (27, .invokevirtual 90, 30, [62, 1, 1, 6, 200, 201, 202, 181], none), (30, .pop, 31, [], none), (31, .aload_n 0, 32, [], none), (32, .getfield 18, 35, [6, 1, 2, 162, 0], none), (35, .getfield 138, 38, [5, 1, 2, 226, 1], none), (38, .iload_n 1, 39, [], none), (39, .invokevirtual 142, 42, [12, 1, 0, 3, 227, 27, 28, 29], none), (42, .iconst 0, 43, [], none), (43, .istore_n 2, 44, [], none)] (15, .aload_n 0, 16, [], some [0, 1]) (by decide +kernel) _ _ _).trans rfl
set_option maxRecDepth 20000 in
set_option maxHeartbeats 4000000 in
theorem B_X6_lawStatement_44 (d : Nat) (S : mS) (I : mI) (L : mJ) (l0 : Nat) (l2 : Int32) :
  evk zcod none d zc_X6_lawStatement 44 [(0, .ref l0), (2, .int l2)] [] (S, I, L) =
  if (nI 4) < l2 then
 evk zcod none d zc_X6_lawStatement 162 [(0, .ref l0)] [] (S, I, L)
 else
 if kK S l0 = 6 then
 (if ¬ (I l0 6) = (nI 0) then
 evk zcod none d zc_X6_lawStatement 162 [(0, .ref l0)] [] (S, I, L)
 else
 if kK S l0 = 6 then
 (if ¬ (I l0 5) = (nI 138) then
 evk zcod none d zc_X6_lawStatement 162 [(0, .ref l0)] [] (S, I, L)
 else
 if l2 < (nI 4) then
 evk zcod none d zc_X6_lawStatement 76 [(0, .ref l0), (2, .int l2)] [] (S, I, L)
 else
 if kK S l0 = 6 then
 (bV (evM zcod d 66 [.ref l0, .int (nI 2)] (S, I, L)) fun M1 =>
 if M1.1.1 = S.1 then
 (evk zcod none d zc_X6_lawStatement 76 [(0, .ref l0), (2, .int l2)] [] M1) else none) else none) else none) else none :=
  (blk_ok zcod none d zc_X6_lawStatement [(45, .iconst 4, 46, [], none), (46, .if_icmp .gt 116, 49, [162], none), (49, .aload_n 0, 50, [], none), (50, .getfield 36, 53, [6, 6, 0, 167, 0], none), (53, .ifCond .ne 109, 56, [162], none), (56, .aload_n 0, 57, [], none), (57, .getfield 33, 60, [6, 5, 0, 166, 0], none), (60, .sipush 138, 63, [], none), (63, .if_icmp .ne 99, 66, [162], none), (66, .iload_n 2, 67, [], none), (67, .iconst 4, 68, [], none), (68, .if_icmp .lt 8, 71, [76], none), (71, .aload_n 0, 72, [], none), (72, .iconst 2, 73, [], none), (73, .invokevirtual 135, 76, [66, 1, 0, 6, 223, 224, 225, 181], none)] (44, .iload_n 2, 45, [], some [0, 2]) (by decide +kernel) _ _ _).trans rfl
set_option maxRecDepth 20000 in
set_option maxHeartbeats 4000000 in
theorem B_X6_lawStatement_76 (d : Nat) (S : mS) (I : mI) (L : mJ) (l0 : Nat) (l2 : Int32) :
  evk zcod none d zc_X6_lawStatement 76 [(0, .ref l0), (2, .int l2)] [] (S, I, L) =
  if kK S l0 = 6 then
 (bI (evM zcod d 62 [.ref l0, .int (nI 138)] (S, I, L)) fun x1 M1 =>
 if M1.1.1 = S.1 then
 (if kK M1.1 l0 = 6 then
 (bV (evM zcod d 59 [.ref l0, .int (nI 0)] M1) fun M2 =>
 if M2.1.1 = M1.1.1 then
 (if kK M2.1 l0 = 6 then
 (bI (evM zcod d 62 [.ref l0, .int (nI 60)] M2) fun x3 M3 =>
 if M3.1.1 = M2.1.1 then
 (if kK M3.1 l0 = 6 then
 (bV (evM zcod d 59 [.ref l0, .int (nI 0)] M3) fun M4 =>
 if M4.1.1 = M3.1.1 then
 (evk zcod none d zc_X6_lawStatement 101 [(0, .ref l0), (2, .int l2)] [] M4) else none) else none) else none) else none) else none) else none) else none) else none :=
  (blk_ok zcod none d zc_X6_lawStatement [(77, .sipush 138, 80, [], none), (80, .invokevirtual 90, 83, [62, 1, 1, 6, 200, 201, 202, 181], none), (83, .pop, 84, [], none), (84, .aload_n 0, 85, [], none), (85, .iconst 0, 86, [], none), (86, .invokevirtual 147, 89, [59, 1, 0, 6, 228, 229, 230, 181], none), (89, .aload_n 0, 90, [], none), (90, .bipush 60, 92, [], none), (92, .invokevirtual 90, 95, [62, 1, 1, 6, 200, 201, 202, 181], none), (95, .pop, 96, [], none), (96, .aload_n 0, 97, [], none), (97, .iconst 0, 98, [], none), (98, .invokevirtual 147, 101, [59, 1, 0, 6, 228, 229, 230, 181], none)] (76, .aload_n 0, 77, [], some [0, 2]) (by decide +kernel) _ _ _).trans rfl
set_option maxRecDepth 20000 in
set_option maxHeartbeats 4000000 in
theorem B_X6_lawStatement_101 (d : Nat) (S : mS) (I : mI) (L : mJ) (l0 : Nat) (l2 : Int32) :
  evk zcod none d zc_X6_lawStatement 101 [(0, .ref l0), (2, .int l2)] [] (S, I, L) =
  if kK S l0 = 6 then
 (bI (evM zcod d 62 [.ref l0, .int (nI 139)] (S, I, L)) fun x1 M1 =>
 if M1.1.1 = S.1 then
 (if kK M1.1 l0 = 6 then
 (if kK M1.1 (kR M1.1 l0 1) = 5 then
 (if kK M1.1 (kR M1.1 (kR M1.1 l0 1) 1) = 3 then
 (bI (evM zcod d 15 [.ref (kR M1.1 (kR M1.1 l0 1) 1)] M1) fun x2 M2 =>
 if M2.1.1 = M1.1.1 then
 (if kK M2.1 l0 = 6 then
 (bV (evM zcod d 59 [.ref l0, .int (nI 0)] M2) fun M3 =>
 if M3.1.1 = M2.1.1 then
 (if kK M3.1 l0 = 6 then
 (bI (evM zcod d 62 [.ref l0, .int (nI 140)] M3) fun x4 M4 =>
 if M4.1.1 = M3.1.1 then
 (evk zcod none d zc_X6_lawStatement 133 [(0, .ref l0), (2, .int l2), (3, .int x2)] [] M4) else none) else none) else none) else none) else none) else none) else none) else none) else none) else none :=
  (blk_ok zcod none d zc_X6_lawStatement [(102, .sipush 139, 105, [], none), (105, .invokevirtual 90, 108, [62, 1, 1, 6, 200, 201, 202, 181], none), (108, .pop, 109, [], none), (109, .aload_n 0, 110, [], none), (110, .getfield 18, 113, [6, 1, 2, 162, 0], none), (113, .getfield 138, 116, [5, 1, 2, 226, 1], none), (116, .invokevirtual 150, 119, [15, 0, 1, 3, 231, 232, 233, 29], none), (119, .istore_n 3, 120, [], none), (120, .aload_n 0, 121, [], none), (121, .iconst 0, 122, [], none), (122, .invokevirtual 147, 125, [59, 1, 0, 6, 228, 229, 230, 181], none), (125, .aload_n 0, 126, [], none), (126, .sipush 140, 129, [], none), (129, .invokevirtual 90, 132, [62, 1, 1, 6, 200, 201, 202, 181], none), (132, .pop, 133, [], none)] (101, .aload_n 0, 102, [], some [0, 2]) (by decide +kernel) _ _ _).trans rfl
set_option maxRecDepth 20000 in
set_option maxHeartbeats 4000000 in
theorem R_X6_lawStatement_133 (d : Nat) (S : mS) (I : mI) (L : mJ) (l0 : Nat) (l2 : Int32) (l3 : Int32) :
  evk zcod none d zc_X6_lawStatement 133 [(0, .ref l0), (2, .int l2), (3, .int l3)] [] (S, I, L) =
  if kK S l0 = 6 then
 (if kK S (kR S l0 1) = 5 then
 (if kK S (kR S (kR S l0 1) 1) = 3 then
 (bV (evM zcod d 14 [.ref (kR S (kR S l0 1) 1), .int ((Int8.ofInt (-6)).toInt32)] (S, I, L)) fun M1 =>
 if M1.1.1 = S.1 then
 (if kK M1.1 l0 = 6 then
 (if kK M1.1 (kR M1.1 l0 1) = 5 then
 (if kK M1.1 (kR M1.1 (kR M1.1 l0 1) 1) = 3 then
 (bV (evM zcod d 16 [.ref (kR M1.1 (kR M1.1 l0 1) 1), .int l3] M1) fun M2 =>
 if M2.1.1 = M1.1.1 then
 (evk zcod none d zc_X6_lawStatement 44 [(0, .ref l0), (2, .int (l2 + (nI 1)))] [] M2) else none) else none) else none) else none) else none) else none) else none) else none :=
  (blk_ok zcod none d zc_X6_lawStatement [(134, .getfield 18, 137, [6, 1, 2, 162, 0], none), (137, .getfield 138, 140, [5, 1, 2, 226, 1], none), (140, .bipush (-6), 142, [], none), (142, .invokevirtual 153, 145, [14, 1, 0, 3, 234, 31, 32, 29], none), (145, .aload_n 0, 146, [], none), (146, .getfield 18, 149, [6, 1, 2, 162, 0], none), (149, .getfield 138, 152, [5, 1, 2, 226, 1], none), (152, .iload_n 3, 153, [], none), (153, .invokevirtual 155, 156, [16, 1, 0, 3, 235, 236, 237, 29], none), (156, .iinc 2 1, 159, [], none), (159, .goto (-115), 162, [44], none)] (133, .aload_n 0, 134, [], some [0, 2, 3]) (by decide +kernel) _ _ _).trans rfl
theorem B_X6_lawStatement_133 (d : Nat) (S : mS) (I : mI) (L : mJ) (l0 : Nat) (l2 : Int32) (l3 : Int32) :
  evk zcod none d zc_X6_lawStatement 133 [(0, .ref l0), (2, .int l2), (3, .int l3)] [] (S, I, L) =
  if kK S l0 = 6 then
 (if kK S (kR S l0 1) = 5 then
 (if kK S (kR S (kR S l0 1) 1) = 3 then
 (bV (evM zcod d 14 [.ref (kR S (kR S l0 1) 1), .int (-6 : Int32)] (S, I, L)) fun M1 =>
 if M1.1.1 = S.1 then
 (if kK M1.1 l0 = 6 then
 (if kK M1.1 (kR M1.1 l0 1) = 5 then
 (if kK M1.1 (kR M1.1 (kR M1.1 l0 1) 1) = 3 then
 (bV (evM zcod d 16 [.ref (kR M1.1 (kR M1.1 l0 1) 1), .int l3] M1) fun M2 =>
 if M2.1.1 = M1.1.1 then
 (evk zcod none d zc_X6_lawStatement 44 [(0, .ref l0), (2, .int (l2 + (nI 1)))] [] M2) else none) else none) else none) else none) else none) else none) else none) else none := by
  simpa only [cvN] using R_X6_lawStatement_133 d S I L l0 l2 l3
set_option maxRecDepth 20000 in
set_option maxHeartbeats 4000000 in
theorem R_X6_lawStatement_162 (d : Nat) (S : mS) (I : mI) (L : mJ) (l0 : Nat) :
  evk zcod none d zc_X6_lawStatement 162 [(0, .ref l0)] [] (S, I, L) =
  if kK S l0 = 6 then
 (bV (evM zcod d 59 [.ref l0, .int (nI 0)] (S, I, L)) fun M1 =>
 if M1.1.1 = S.1 then
 (if kK M1.1 l0 = 6 then
 (if kK M1.1 (kR M1.1 l0 1) = 5 then
 (if kK M1.1 (kR M1.1 (kR M1.1 l0 1) 1) = 3 then
 (bV (evM zcod d 14 [.ref (kR M1.1 (kR M1.1 l0 1) 1), .int ((Int8.ofInt (-6)).toInt32)] M1) fun M2 =>
 if M2.1.1 = M1.1.1 then
 (some (none, M2)) else none) else none) else none) else none) else none) else none :=
  (blk_ok zcod none d zc_X6_lawStatement [(163, .iconst 0, 164, [], none), (164, .invokevirtual 147, 167, [59, 1, 0, 6, 228, 229, 230, 181], none), (167, .aload_n 0, 168, [], none), (168, .getfield 18, 171, [6, 1, 2, 162, 0], none), (171, .getfield 138, 174, [5, 1, 2, 226, 1], none), (174, .bipush (-6), 176, [], none), (176, .invokevirtual 153, 179, [14, 1, 0, 3, 234, 31, 32, 29], none), (179, .return_, 180, [], none)] (162, .aload_n 0, 163, [], some [0]) (by decide +kernel) _ _ _).trans rfl
theorem B_X6_lawStatement_162 (d : Nat) (S : mS) (I : mI) (L : mJ) (l0 : Nat) :
  evk zcod none d zc_X6_lawStatement 162 [(0, .ref l0)] [] (S, I, L) =
  if kK S l0 = 6 then
 (bV (evM zcod d 59 [.ref l0, .int (nI 0)] (S, I, L)) fun M1 =>
 if M1.1.1 = S.1 then
 (if kK M1.1 l0 = 6 then
 (if kK M1.1 (kR M1.1 l0 1) = 5 then
 (if kK M1.1 (kR M1.1 (kR M1.1 l0 1) 1) = 3 then
 (bV (evM zcod d 14 [.ref (kR M1.1 (kR M1.1 l0 1) 1), .int (-6 : Int32)] M1) fun M2 =>
 if M2.1.1 = M1.1.1 then
 (some (none, M2)) else none) else none) else none) else none) else none) else none := by
  simpa only [cvN] using R_X6_lawStatement_162 d S I L l0
theorem E_X6_sum (d : Nat) (M : zM) (l0 : Nat) (l1 : Int32) : evM zcod (d + 1) 59 [.ref l0, .int l1] M = evk zcod none d zc_X6_sum 0 [(0, .ref l0), (1, .int l1)] [] M := evM_eq zcod d 59 _ M (Nat.le_of_ble_eq_true rfl)
set_option maxRecDepth 20000 in
set_option maxHeartbeats 4000000 in
theorem B_X6_sum_0 (d : Nat) (S : mS) (I : mI) (L : mJ) (l0 : Nat) (l1 : Int32) :
  evk zcod none d zc_X6_sum 0 [(0, .ref l0), (1, .int l1)] [] (S, I, L) =
  if kK S l0 = 6 then
 (bV (evM zcod d 60 [.ref l0, .int l1] (S, I, L)) fun M1 =>
 if M1.1.1 = S.1 then
 (evk zcod none d zc_X6_sum 7 [(0, .ref l0), (1, .int l1), (2, .int (nI 0))] [] M1) else none) else none :=
  (blk_ok zcod none d zc_X6_sum [(1, .iload_n 1, 2, [], none), (2, .invokevirtual 158, 5, [60, 1, 0, 6, 238, 239, 240, 181], none), (5, .iconst 0, 6, [], none), (6, .istore_n 2, 7, [], none)] (0, .aload_n 0, 1, [], none) (by decide +kernel) _ _ _).trans rfl
set_option maxRecDepth 20000 in
set_option maxHeartbeats 4000000 in
theorem B_X6_sum_7 (d : Nat) (S : mS) (I : mI) (L : mJ) (l0 : Nat) (l1 : Int32) (l2 : Int32) :
  evk zcod none d zc_X6_sum 7 [(0, .ref l0), (1, .int l1), (2, .int l2)] [] (S, I, L) =
  if (nI 400) ≤ l2 then
 evk zcod none d zc_X6_sum 86 [] [] (S, I, L)
 else
 if kK S l0 = 6 then
 (if ¬ (I l0 6) = (nI 0) then
 evk zcod none d zc_X6_sum 86 [] [] (S, I, L)
 else
 if kK S l0 = 6 then
 (if (I l0 5) = (nI 43) then
 evk zcod none d zc_X6_sum 39 [(0, .ref l0), (1, .int l1), (2, .int l2)] [] (S, I, L)
 else
 if kK S l0 = 6 then
 (if ¬ (I l0 5) = (nI 45) then
 evk zcod none d zc_X6_sum 86 [] [] (S, I, L)
 else
 evk zcod none d zc_X6_sum 39 [(0, .ref l0), (1, .int l1), (2, .int l2)] [] (S, I, L)) else none) else none) else none :=
  (blk_ok zcod none d zc_X6_sum [(8, .sipush 400, 11, [], none), (11, .if_icmp .ge 75, 14, [86], none), (14, .aload_n 0, 15, [], none), (15, .getfield 36, 18, [6, 6, 0, 167, 0], none), (18, .ifCond .ne 68, 21, [86], none), (21, .aload_n 0, 22, [], none), (22, .getfield 33, 25, [6, 5, 0, 166, 0], none), (25, .bipush 43, 27, [], none), (27, .if_icmp .eq 12, 30, [39], none), (30, .aload_n 0, 31, [], none), (31, .getfield 33, 34, [6, 5, 0, 166, 0], none), (34, .bipush 45, 36, [], none), (36, .if_icmp .ne 50, 39, [86], none)] (7, .iload_n 2, 8, [], some [0, 1, 2]) (by decide +kernel) _ _ _).trans rfl
set_option maxRecDepth 20000 in
set_option maxHeartbeats 4000000 in
theorem R_X6_sum_39 (d : Nat) (S : mS) (I : mI) (L : mJ) (l0 : Nat) (l1 : Int32) (l2 : Int32) :
  evk zcod none d zc_X6_sum 39 [(0, .ref l0), (1, .int l1), (2, .int l2)] [] (S, I, L) =
  if kK S l0 = 6 then
 (if ¬ (I l0 5) = (nI 43) then
 evk zcod none d zc_X6_sum 52 [(0, .ref l0), (1, .int l1), (2, .int l2)] [] (S, I, L)
 else
 evk zcod none d zc_X6_sum 54 [(0, .ref l0), (1, .int l1), (2, .int l2)] [.int (Int32.ofInt (-1))] (S, I, L)) else none :=
  (blk_ok zcod none d zc_X6_sum [(40, .getfield 33, 43, [6, 5, 0, 166, 0], none), (43, .bipush 43, 45, [], none), (45, .if_icmp .ne 7, 48, [52], none), (48, .iconst (-1), 49, [], none), (49, .goto 5, 52, [54], none)] (39, .aload_n 0, 40, [], some [0, 1, 2]) (by decide +kernel) _ _ _).trans rfl
theorem B_X6_sum_39 (d : Nat) (S : mS) (I : mI) (L : mJ) (l0 : Nat) (l1 : Int32) (l2 : Int32) :
  evk zcod none d zc_X6_sum 39 [(0, .ref l0), (1, .int l1), (2, .int l2)] [] (S, I, L) =
  if kK S l0 = 6 then
 (if ¬ (I l0 5) = (nI 43) then
 evk zcod none d zc_X6_sum 52 [(0, .ref l0), (1, .int l1), (2, .int l2)] [] (S, I, L)
 else
 evk zcod none d zc_X6_sum 54 [(0, .ref l0), (1, .int l1), (2, .int l2)] [.int (-1 : Int32)] (S, I, L)) else none := by
  simpa only [cvN] using R_X6_sum_39 d S I L l0 l1 l2
set_option maxRecDepth 20000 in
set_option maxHeartbeats 4000000 in
theorem R_X6_sum_52 (d : Nat) (S : mS) (I : mI) (L : mJ) (l0 : Nat) (l1 : Int32) (l2 : Int32) :
  evk zcod none d zc_X6_sum 52 [(0, .ref l0), (1, .int l1), (2, .int l2)] [] (S, I, L) =
  evk zcod none d zc_X6_sum 54 [(0, .ref l0), (1, .int l1), (2, .int l2)] [.int ((Int8.ofInt (-2)).toInt32)] (S, I, L) :=
  (blk_ok zcod none d zc_X6_sum [] (52, .bipush (-2), 54, [], some [0, 1, 2]) (by decide +kernel) _ _ _).trans rfl
theorem B_X6_sum_52 (d : Nat) (S : mS) (I : mI) (L : mJ) (l0 : Nat) (l1 : Int32) (l2 : Int32) :
  evk zcod none d zc_X6_sum 52 [(0, .ref l0), (1, .int l1), (2, .int l2)] [] (S, I, L) =
  evk zcod none d zc_X6_sum 54 [(0, .ref l0), (1, .int l1), (2, .int l2)] [.int (-2 : Int32)] (S, I, L) := by
  simpa only [cvN] using R_X6_sum_52 d S I L l0 l1 l2
set_option maxRecDepth 20000 in
set_option maxHeartbeats 4000000 in
theorem B_X6_sum_54 (d : Nat) (S : mS) (I : mI) (L : mJ) (l0 : Nat) (l1 : Int32) (l2 : Int32) (s0 : Int32) :
  evk zcod none d zc_X6_sum 54 [(0, .ref l0), (1, .int l1), (2, .int l2)] [.int s0] (S, I, L) =
  if kK S l0 = 6 then
 (if kK S l0 = 6 then
 (bI (evM zcod d 62 [.ref l0, .int (I l0 5)] (S, I, L)) fun x1 M1 =>
 if M1.1.1 = S.1 then
 (if kK M1.1 l0 = 6 then
 (bV (evM zcod d 60 [.ref l0, .int l1] M1) fun M2 =>
 if M2.1.1 = M1.1.1 then
 (if kK M2.1 l0 = 6 then
 (if kK M2.1 (kR M2.1 l0 1) = 5 then
 (if kK M2.1 (kR M2.1 (kR M2.1 l0 1) 1) = 3 then
 (bV (evM zcod d 14 [.ref (kR M2.1 (kR M2.1 l0 1) 1), .int s0] M2) fun M3 =>
 if M3.1.1 = M2.1.1 then
 (evk zcod none d zc_X6_sum 7 [(0, .ref l0), (1, .int l1), (2, .int (l2 + (nI 1)))] [] M3) else none) else none) else none) else none) else none) else none) else none) else none) else none :=
  (blk_ok zcod none d zc_X6_sum [(55, .aload_n 0, 56, [], none), (56, .aload_n 0, 57, [], none), (57, .getfield 33, 60, [6, 5, 0, 166, 0], none), (60, .invokevirtual 90, 63, [62, 1, 1, 6, 200, 201, 202, 181], none), (63, .pop, 64, [], none), (64, .aload_n 0, 65, [], none), (65, .iload_n 1, 66, [], none), (66, .invokevirtual 158, 69, [60, 1, 0, 6, 238, 239, 240, 181], none), (69, .aload_n 0, 70, [], none), (70, .getfield 18, 73, [6, 1, 2, 162, 0], none), (73, .getfield 138, 76, [5, 1, 2, 226, 1], none), (76, .iload_n 3, 77, [], none), (77, .invokevirtual 153, 80, [14, 1, 0, 3, 234, 31, 32, 29], none), (80, .iinc 2 1, 83, [], none), (83, .goto (-76), 86, [7], none)] (54, .istore_n 3, 55, [], some [0, 1, 2]) (by decide +kernel) _ _ _).trans rfl
set_option maxRecDepth 20000 in
set_option maxHeartbeats 4000000 in
theorem B_X6_sum_86 (d : Nat) (S : mS) (I : mI) (L : mJ)  :
  evk zcod none d zc_X6_sum 86 [] [] (S, I, L) =
  some (none, (S, I, L)) :=
  (blk_ok zcod none d zc_X6_sum [] (86, .return_, 87, [], some []) (by decide +kernel) _ _ _).trans rfl
theorem E_X6_product (d : Nat) (M : zM) (l0 : Nat) (l1 : Int32) : evM zcod (d + 1) 60 [.ref l0, .int l1] M = evk zcod none d zc_X6_product 0 [(0, .ref l0), (1, .int l1)] [] M := evM_eq zcod d 60 _ M (Nat.le_of_ble_eq_true rfl)
set_option maxRecDepth 20000 in
set_option maxHeartbeats 4000000 in
theorem B_X6_product_0 (d : Nat) (S : mS) (I : mI) (L : mJ) (l0 : Nat) (l1 : Int32) :
  evk zcod none d zc_X6_product 0 [(0, .ref l0), (1, .int l1)] [] (S, I, L) =
  if kK S l0 = 6 then
 (bV (evM zcod d 61 [.ref l0, .int l1] (S, I, L)) fun M1 =>
 if M1.1.1 = S.1 then
 (evk zcod none d zc_X6_product 7 [(0, .ref l0), (1, .int l1), (2, .int (nI 0))] [] M1) else none) else none :=
  (blk_ok zcod none d zc_X6_product [(1, .iload_n 1, 2, [], none), (2, .invokevirtual 161, 5, [61, 1, 0, 6, 241, 242, 243, 181], none), (5, .iconst 0, 6, [], none), (6, .istore_n 2, 7, [], none)] (0, .aload_n 0, 1, [], none) (by decide +kernel) _ _ _).trans rfl
set_option maxRecDepth 20000 in
set_option maxHeartbeats 4000000 in
theorem B_X6_product_7 (d : Nat) (S : mS) (I : mI) (L : mJ) (l0 : Nat) (l1 : Int32) (l2 : Int32) :
  evk zcod none d zc_X6_product 7 [(0, .ref l0), (1, .int l1), (2, .int l2)] [] (S, I, L) =
  if (nI 400) ≤ l2 then
 evk zcod none d zc_X6_product 87 [] [] (S, I, L)
 else
 if kK S l0 = 6 then
 (if ¬ (I l0 6) = (nI 0) then
 evk zcod none d zc_X6_product 87 [] [] (S, I, L)
 else
 if kK S l0 = 6 then
 (if (I l0 5) = (nI 42) then
 evk zcod none d zc_X6_product 39 [(0, .ref l0), (1, .int l1), (2, .int l2)] [] (S, I, L)
 else
 if kK S l0 = 6 then
 (if ¬ (I l0 5) = (nI 47) then
 evk zcod none d zc_X6_product 87 [] [] (S, I, L)
 else
 evk zcod none d zc_X6_product 39 [(0, .ref l0), (1, .int l1), (2, .int l2)] [] (S, I, L)) else none) else none) else none :=
  (blk_ok zcod none d zc_X6_product [(8, .sipush 400, 11, [], none), (11, .if_icmp .ge 76, 14, [87], none), (14, .aload_n 0, 15, [], none), (15, .getfield 36, 18, [6, 6, 0, 167, 0], none), (18, .ifCond .ne 69, 21, [87], none), (21, .aload_n 0, 22, [], none), (22, .getfield 33, 25, [6, 5, 0, 166, 0], none), (25, .bipush 42, 27, [], none), (27, .if_icmp .eq 12, 30, [39], none), (30, .aload_n 0, 31, [], none), (31, .getfield 33, 34, [6, 5, 0, 166, 0], none), (34, .bipush 47, 36, [], none), (36, .if_icmp .ne 51, 39, [87], none)] (7, .iload_n 2, 8, [], some [0, 1, 2]) (by decide +kernel) _ _ _).trans rfl
set_option maxRecDepth 20000 in
set_option maxHeartbeats 4000000 in
theorem R_X6_product_39 (d : Nat) (S : mS) (I : mI) (L : mJ) (l0 : Nat) (l1 : Int32) (l2 : Int32) :
  evk zcod none d zc_X6_product 39 [(0, .ref l0), (1, .int l1), (2, .int l2)] [] (S, I, L) =
  if kK S l0 = 6 then
 (if ¬ (I l0 5) = (nI 42) then
 evk zcod none d zc_X6_product 53 [(0, .ref l0), (1, .int l1), (2, .int l2)] [] (S, I, L)
 else
 evk zcod none d zc_X6_product 55 [(0, .ref l0), (1, .int l1), (2, .int l2)] [.int ((Int8.ofInt (-3)).toInt32)] (S, I, L)) else none :=
  (blk_ok zcod none d zc_X6_product [(40, .getfield 33, 43, [6, 5, 0, 166, 0], none), (43, .bipush 42, 45, [], none), (45, .if_icmp .ne 8, 48, [53], none), (48, .bipush (-3), 50, [], none), (50, .goto 5, 53, [55], none)] (39, .aload_n 0, 40, [], some [0, 1, 2]) (by decide +kernel) _ _ _).trans rfl
theorem B_X6_product_39 (d : Nat) (S : mS) (I : mI) (L : mJ) (l0 : Nat) (l1 : Int32) (l2 : Int32) :
  evk zcod none d zc_X6_product 39 [(0, .ref l0), (1, .int l1), (2, .int l2)] [] (S, I, L) =
  if kK S l0 = 6 then
 (if ¬ (I l0 5) = (nI 42) then
 evk zcod none d zc_X6_product 53 [(0, .ref l0), (1, .int l1), (2, .int l2)] [] (S, I, L)
 else
 evk zcod none d zc_X6_product 55 [(0, .ref l0), (1, .int l1), (2, .int l2)] [.int (-3 : Int32)] (S, I, L)) else none := by
  simpa only [cvN] using R_X6_product_39 d S I L l0 l1 l2
set_option maxRecDepth 20000 in
set_option maxHeartbeats 4000000 in
theorem R_X6_product_53 (d : Nat) (S : mS) (I : mI) (L : mJ) (l0 : Nat) (l1 : Int32) (l2 : Int32) :
  evk zcod none d zc_X6_product 53 [(0, .ref l0), (1, .int l1), (2, .int l2)] [] (S, I, L) =
  evk zcod none d zc_X6_product 55 [(0, .ref l0), (1, .int l1), (2, .int l2)] [.int ((Int8.ofInt (-4)).toInt32)] (S, I, L) :=
  (blk_ok zcod none d zc_X6_product [] (53, .bipush (-4), 55, [], some [0, 1, 2]) (by decide +kernel) _ _ _).trans rfl
theorem B_X6_product_53 (d : Nat) (S : mS) (I : mI) (L : mJ) (l0 : Nat) (l1 : Int32) (l2 : Int32) :
  evk zcod none d zc_X6_product 53 [(0, .ref l0), (1, .int l1), (2, .int l2)] [] (S, I, L) =
  evk zcod none d zc_X6_product 55 [(0, .ref l0), (1, .int l1), (2, .int l2)] [.int (-4 : Int32)] (S, I, L) := by
  simpa only [cvN] using R_X6_product_53 d S I L l0 l1 l2
set_option maxRecDepth 20000 in
set_option maxHeartbeats 4000000 in
theorem B_X6_product_55 (d : Nat) (S : mS) (I : mI) (L : mJ) (l0 : Nat) (l1 : Int32) (l2 : Int32) (s0 : Int32) :
  evk zcod none d zc_X6_product 55 [(0, .ref l0), (1, .int l1), (2, .int l2)] [.int s0] (S, I, L) =
  if kK S l0 = 6 then
 (if kK S l0 = 6 then
 (bI (evM zcod d 62 [.ref l0, .int (I l0 5)] (S, I, L)) fun x1 M1 =>
 if M1.1.1 = S.1 then
 (if kK M1.1 l0 = 6 then
 (bV (evM zcod d 61 [.ref l0, .int l1] M1) fun M2 =>
 if M2.1.1 = M1.1.1 then
 (if kK M2.1 l0 = 6 then
 (if kK M2.1 (kR M2.1 l0 1) = 5 then
 (if kK M2.1 (kR M2.1 (kR M2.1 l0 1) 1) = 3 then
 (bV (evM zcod d 14 [.ref (kR M2.1 (kR M2.1 l0 1) 1), .int s0] M2) fun M3 =>
 if M3.1.1 = M2.1.1 then
 (evk zcod none d zc_X6_product 7 [(0, .ref l0), (1, .int l1), (2, .int (l2 + (nI 1)))] [] M3) else none) else none) else none) else none) else none) else none) else none) else none) else none :=
  (blk_ok zcod none d zc_X6_product [(56, .aload_n 0, 57, [], none), (57, .aload_n 0, 58, [], none), (58, .getfield 33, 61, [6, 5, 0, 166, 0], none), (61, .invokevirtual 90, 64, [62, 1, 1, 6, 200, 201, 202, 181], none), (64, .pop, 65, [], none), (65, .aload_n 0, 66, [], none), (66, .iload_n 1, 67, [], none), (67, .invokevirtual 161, 70, [61, 1, 0, 6, 241, 242, 243, 181], none), (70, .aload_n 0, 71, [], none), (71, .getfield 18, 74, [6, 1, 2, 162, 0], none), (74, .getfield 138, 77, [5, 1, 2, 226, 1], none), (77, .iload_n 3, 78, [], none), (78, .invokevirtual 153, 81, [14, 1, 0, 3, 234, 31, 32, 29], none), (81, .iinc 2 1, 84, [], none), (84, .goto (-77), 87, [7], none)] (55, .istore_n 3, 56, [], some [0, 1, 2]) (by decide +kernel) _ _ _).trans rfl
set_option maxRecDepth 20000 in
set_option maxHeartbeats 4000000 in
theorem B_X6_product_87 (d : Nat) (S : mS) (I : mI) (L : mJ)  :
  evk zcod none d zc_X6_product 87 [] [] (S, I, L) =
  some (none, (S, I, L)) :=
  (blk_ok zcod none d zc_X6_product [] (87, .return_, 88, [], some []) (by decide +kernel) _ _ _).trans rfl
theorem E_X6_unit (d : Nat) (M : zM) (l0 : Nat) (l1 : Int32) : evM zcod (d + 1) 61 [.ref l0, .int l1] M = evk zcod none d zc_X6_unit 0 [(0, .ref l0), (1, .int l1)] [] M := evM_eq zcod d 61 _ M (Nat.le_of_ble_eq_true rfl)
set_option maxRecDepth 20000 in
set_option maxHeartbeats 4000000 in
theorem B_X6_unit_0 (d : Nat) (S : mS) (I : mI) (L : mJ) (l0 : Nat) (l1 : Int32) :
  evk zcod none d zc_X6_unit 0 [(0, .ref l0), (1, .int l1)] [] (S, I, L) =
  if kK S l0 = 6 then
 (if (I l0 6) = (nI 0) then
 evk zcod none d zc_X6_unit 8 [(0, .ref l0), (1, .int l1)] [] (S, I, L)
 else
 some (none, (S, I, L))) else none :=
  (blk_ok zcod none d zc_X6_unit [(1, .getfield 36, 4, [6, 6, 0, 167, 0], none), (4, .ifCond .eq 4, 7, [8], none), (7, .return_, 8, [], none)] (0, .aload_n 0, 1, [], none) (by decide +kernel) _ _ _).trans rfl
set_option maxRecDepth 20000 in
set_option maxHeartbeats 4000000 in
theorem B_X6_unit_8 (d : Nat) (S : mS) (I : mI) (L : mJ) (l0 : Nat) (l1 : Int32) :
  evk zcod none d zc_X6_unit 8 [(0, .ref l0), (1, .int l1)] [] (S, I, L) =
  if kK S l0 = 6 then
 (if kK S l0 = 6 then
 (if ¬ (I l0 5) = (nI 3) then
 evk zcod none d zc_X6_unit 56 [(0, .ref l0), (1, .int l1), (2, .int ((I l0 5) - (nI 141)))] [] (S, I, L)
 else
 if kK S l0 = 6 then
 (if kK S (kR S l0 1) = 5 then
 (if kK S l0 = 6 then
 (if kK S l0 = 6 then
 (if kK S (kR S l0 0) = 10 then
 (bL (evM zcod d 39 [.ref (kR S l0 0), .int (I l0 4)] (S, I, L)) fun x1 M1 =>
 if M1.1.1 = S.1 then
 (if kK M1.1 (kR S (kR S l0 1) 1) = 3 then
 (bV (evM zcod d 14 [.ref (kR S (kR S l0 1) 1), .int x1.toInt32] M1) fun M2 =>
 if M2.1.1 = M1.1.1 then
 (if kK M2.1 l0 = 6 then
 (bI (evM zcod d 62 [.ref l0, .int (nI 3)] M2) fun x3 M3 =>
 if M3.1.1 = M2.1.1 then
 (evk zcod none d zc_X6_unit 144 [] [] M3) else none) else none) else none) else none) else none) else none) else none) else none) else none) else none) else none) else none :=
  (blk_ok zcod none d zc_X6_unit [(9, .getfield 33, 12, [6, 5, 0, 166, 0], none), (12, .sipush 141, 15, [], none), (15, .isub, 16, [], none), (16, .istore_n 2, 17, [], none), (17, .aload_n 0, 18, [], none), (18, .getfield 33, 21, [6, 5, 0, 166, 0], none), (21, .iconst 3, 22, [], none), (22, .if_icmp .ne 34, 25, [56], none), (25, .aload_n 0, 26, [], none), (26, .getfield 18, 29, [6, 1, 2, 162, 0], none), (29, .getfield 138, 32, [5, 1, 2, 226, 1], none), (32, .aload_n 0, 33, [], none), (33, .getfield 12, 36, [6, 0, 2, 161, 0], none), (36, .aload_n 0, 37, [], none), (37, .getfield 30, 40, [6, 4, 0, 165, 0], none), (40, .invokevirtual 164, 43, [39, 1, 2, 10, 244, 245, 246, 126], none), (43, .l2i, 44, [], none), (44, .invokevirtual 153, 47, [14, 1, 0, 3, 234, 31, 32, 29], none), (47, .aload_n 0, 48, [], none), (48, .iconst 3, 49, [], none), (49, .invokevirtual 90, 52, [62, 1, 1, 6, 200, 201, 202, 181], none), (52, .pop, 53, [], none), (53, .goto 91, 56, [144], none)] (8, .aload_n 0, 9, [], some [0, 1]) (by decide +kernel) _ _ _).trans rfl
set_option maxRecDepth 20000 in
set_option maxHeartbeats 4000000 in
theorem R_X6_unit_56 (d : Nat) (S : mS) (I : mI) (L : mJ) (l0 : Nat) (l1 : Int32) (l2 : Int32) :
  evk zcod none d zc_X6_unit 56 [(0, .ref l0), (1, .int l1), (2, .int l2)] [] (S, I, L) =
  bI (evM zcod d 145 [.int l2, .int (nI 0), .int (nI 8)] (S, I, L)) fun x1 M1 =>
 if M1.1.1 = S.1 then
 (if x1 = (nI 0) then
 evk zcod none d zc_X6_unit 92 [(0, .ref l0), (1, .int l1)] [] M1
 else
 if kK M1.1 l0 = 6 then
 (if kK M1.1 (kR M1.1 l0 1) = 5 then
 (if kK M1.1 (kR M1.1 (kR M1.1 l0 1) 1) = 3 then
 (bV (evM zcod d 14 [.ref (kR M1.1 (kR M1.1 l0 1) 1), .int (((Int8.ofInt (-10)).toInt32) - l2)] M1) fun M2 =>
 if M2.1.1 = M1.1.1 then
 (if kK M2.1 l0 = 6 then
 (if kK M2.1 l0 = 6 then
 (bI (evM zcod d 62 [.ref l0, .int (M2.2.1 l0 5)] M2) fun x3 M3 =>
 if M3.1.1 = M2.1.1 then
 (evk zcod none d zc_X6_unit 144 [] [] M3) else none) else none) else none) else none) else none) else none) else none) else none :=
  (blk_ok zcod none d zc_X6_unit [(57, .iconst 0, 58, [], none), (58, .bipush 8, 60, [], none), (60, .invokestatic 131, 63, [145, 3, 1, 1, 220, 221, 222], none), (63, .ifCond .eq 29, 66, [92], none), (66, .aload_n 0, 67, [], none), (67, .getfield 18, 70, [6, 1, 2, 162, 0], none), (70, .getfield 138, 73, [5, 1, 2, 226, 1], none), (73, .bipush (-10), 75, [], none), (75, .iload_n 2, 76, [], none), (76, .isub, 77, [], none), (77, .invokevirtual 153, 80, [14, 1, 0, 3, 234, 31, 32, 29], none), (80, .aload_n 0, 81, [], none), (81, .aload_n 0, 82, [], none), (82, .getfield 33, 85, [6, 5, 0, 166, 0], none), (85, .invokevirtual 90, 88, [62, 1, 1, 6, 200, 201, 202, 181], none), (88, .pop, 89, [], none), (89, .goto 55, 92, [144], none)] (56, .iload_n 2, 57, [], some [0, 1, 2]) (by decide +kernel) _ _ _).trans rfl
theorem B_X6_unit_56 (d : Nat) (S : mS) (I : mI) (L : mJ) (l0 : Nat) (l1 : Int32) (l2 : Int32) :
  evk zcod none d zc_X6_unit 56 [(0, .ref l0), (1, .int l1), (2, .int l2)] [] (S, I, L) =
  bI (evM zcod d 145 [.int l2, .int (nI 0), .int (nI 8)] (S, I, L)) fun x1 M1 =>
 if M1.1.1 = S.1 then
 (if x1 = (nI 0) then
 evk zcod none d zc_X6_unit 92 [(0, .ref l0), (1, .int l1)] [] M1
 else
 if kK M1.1 l0 = 6 then
 (if kK M1.1 (kR M1.1 l0 1) = 5 then
 (if kK M1.1 (kR M1.1 (kR M1.1 l0 1) 1) = 3 then
 (bV (evM zcod d 14 [.ref (kR M1.1 (kR M1.1 l0 1) 1), .int ((-10 : Int32) - l2)] M1) fun M2 =>
 if M2.1.1 = M1.1.1 then
 (if kK M2.1 l0 = 6 then
 (if kK M2.1 l0 = 6 then
 (bI (evM zcod d 62 [.ref l0, .int (M2.2.1 l0 5)] M2) fun x3 M3 =>
 if M3.1.1 = M2.1.1 then
 (evk zcod none d zc_X6_unit 144 [] [] M3) else none) else none) else none) else none) else none) else none) else none) else none := by
  simpa only [cvN] using R_X6_unit_56 d S I L l0 l1 l2
set_option maxRecDepth 20000 in
set_option maxHeartbeats 4000000 in
theorem B_X6_unit_92 (d : Nat) (S : mS) (I : mI) (L : mJ) (l0 : Nat) (l1 : Int32) :
  evk zcod none d zc_X6_unit 92 [(0, .ref l0), (1, .int l1)] [] (S, I, L) =
  if kK S l0 = 6 then
 (if (I l0 5) = (nI 40) then
 evk zcod none d zc_X6_unit 109 [(0, .ref l0), (1, .int l1)] [] (S, I, L)
 else
 if kK S l0 = 6 then
 (bV (evM zcod d 66 [.ref l0, .int (nI 1)] (S, I, L)) fun M1 =>
 if M1.1.1 = S.1 then
 (evk zcod none d zc_X6_unit 144 [] [] M1) else none) else none) else none :=
  (blk_ok zcod none d zc_X6_unit [(93, .getfield 33, 96, [6, 5, 0, 166, 0], none), (96, .bipush 40, 98, [], none), (98, .if_icmp .eq 11, 101, [109], none), (101, .aload_n 0, 102, [], none), (102, .iconst 1, 103, [], none), (103, .invokevirtual 135, 106, [66, 1, 0, 6, 223, 224, 225, 181], none), (106, .goto 38, 109, [144], none)] (92, .aload_n 0, 93, [], some [0, 1]) (by decide +kernel) _ _ _).trans rfl
set_option maxRecDepth 20000 in
set_option maxHeartbeats 4000000 in
theorem B_X6_unit_109 (d : Nat) (S : mS) (I : mI) (L : mJ) (l0 : Nat) (l1 : Int32) :
  evk zcod none d zc_X6_unit 109 [(0, .ref l0), (1, .int l1)] [] (S, I, L) =
  if l1 < (nI 6) then
 evk zcod none d zc_X6_unit 123 [(0, .ref l0), (1, .int l1)] [] (S, I, L)
 else
 if kK S l0 = 6 then
 (bV (evM zcod d 66 [.ref l0, .int (nI 2)] (S, I, L)) fun M1 =>
 if M1.1.1 = S.1 then
 (evk zcod none d zc_X6_unit 144 [] [] M1) else none) else none :=
  (blk_ok zcod none d zc_X6_unit [(110, .bipush 6, 112, [], none), (112, .if_icmp .lt 11, 115, [123], none), (115, .aload_n 0, 116, [], none), (116, .iconst 2, 117, [], none), (117, .invokevirtual 135, 120, [66, 1, 0, 6, 223, 224, 225, 181], none), (120, .goto 24, 123, [144], none)] (109, .iload_n 1, 110, [], some [0, 1]) (by decide +kernel) _ _ _).trans rfl
set_option maxRecDepth 20000 in
set_option maxHeartbeats 4000000 in
theorem B_X6_unit_123 (d : Nat) (S : mS) (I : mI) (L : mJ) (l0 : Nat) (l1 : Int32) :
  evk zcod none d zc_X6_unit 123 [(0, .ref l0), (1, .int l1)] [] (S, I, L) =
  if kK S l0 = 6 then
 (bI (evM zcod d 62 [.ref l0, .int (nI 40)] (S, I, L)) fun x1 M1 =>
 if M1.1.1 = S.1 then
 (if kK M1.1 l0 = 6 then
 (bV (evM zcod d 59 [.ref l0, .int (l1 + (nI 1))] M1) fun M2 =>
 if M2.1.1 = M1.1.1 then
 (if kK M2.1 l0 = 6 then
 (bI (evM zcod d 62 [.ref l0, .int (nI 41)] M2) fun x3 M3 =>
 if M3.1.1 = M2.1.1 then
 (evk zcod none d zc_X6_unit 144 [] [] M3) else none) else none) else none) else none) else none) else none :=
  (blk_ok zcod none d zc_X6_unit [(124, .bipush 40, 126, [], none), (126, .invokevirtual 90, 129, [62, 1, 1, 6, 200, 201, 202, 181], none), (129, .pop, 130, [], none), (130, .aload_n 0, 131, [], none), (131, .iload_n 1, 132, [], none), (132, .iconst 1, 133, [], none), (133, .iadd, 134, [], none), (134, .invokevirtual 147, 137, [59, 1, 0, 6, 228, 229, 230, 181], none), (137, .aload_n 0, 138, [], none), (138, .bipush 41, 140, [], none), (140, .invokevirtual 90, 143, [62, 1, 1, 6, 200, 201, 202, 181], none), (143, .pop, 144, [], none)] (123, .aload_n 0, 124, [], some [0, 1]) (by decide +kernel) _ _ _).trans rfl
set_option maxRecDepth 20000 in
set_option maxHeartbeats 4000000 in
theorem B_X6_unit_144 (d : Nat) (S : mS) (I : mI) (L : mJ)  :
  evk zcod none d zc_X6_unit 144 [] [] (S, I, L) =
  some (none, (S, I, L)) :=
  (blk_ok zcod none d zc_X6_unit [] (144, .return_, 145, [], some []) (by decide +kernel) _ _ _).trans rfl
theorem E_X6_take (d : Nat) (M : zM) (l0 : Nat) (l1 : Int32) : evM zcod (d + 1) 62 [.ref l0, .int l1] M = evk zcod none d zc_X6_take 0 [(0, .ref l0), (1, .int l1)] [] M := evM_eq zcod d 62 _ M (Nat.le_of_ble_eq_true rfl)
set_option maxRecDepth 20000 in
set_option maxHeartbeats 4000000 in
theorem B_X6_take_0 (d : Nat) (S : mS) (I : mI) (L : mJ) (l0 : Nat) (l1 : Int32) :
  evk zcod none d zc_X6_take 0 [(0, .ref l0), (1, .int l1)] [] (S, I, L) =
  if kK S l0 = 6 then
 (if ¬ (I l0 6) = (nI 0) then
 evk zcod none d zc_X6_take 20 [(0, .ref l0)] [] (S, I, L)
 else
 if kK S l0 = 6 then
 (if (I l0 5) = l1 then
 evk zcod none d zc_X6_take 20 [(0, .ref l0)] [] (S, I, L)
 else
 if kK S l0 = 6 then
 (bV (evM zcod d 66 [.ref l0, .int (nI 1)] (S, I, L)) fun M1 =>
 if M1.1.1 = S.1 then
 (evk zcod none d zc_X6_take 20 [(0, .ref l0)] [] M1) else none) else none) else none) else none :=
  (blk_ok zcod none d zc_X6_take [(1, .getfield 36, 4, [6, 6, 0, 167, 0], none), (4, .ifCond .ne 16, 7, [20], none), (7, .aload_n 0, 8, [], none), (8, .getfield 33, 11, [6, 5, 0, 166, 0], none), (11, .iload_n 1, 12, [], none), (12, .if_icmp .eq 8, 15, [20], none), (15, .aload_n 0, 16, [], none), (16, .iconst 1, 17, [], none), (17, .invokevirtual 135, 20, [66, 1, 0, 6, 223, 224, 225, 181], none)] (0, .aload_n 0, 1, [], none) (by decide +kernel) _ _ _).trans rfl
set_option maxRecDepth 20000 in
set_option maxHeartbeats 4000000 in
theorem B_X6_take_20 (d : Nat) (S : mS) (I : mI) (L : mJ) (l0 : Nat) :
  evk zcod none d zc_X6_take 20 [(0, .ref l0)] [] (S, I, L) =
  if kK S l0 = 6 then
 (if ¬ (I l0 6) = (nI 0) then
 evk zcod none d zc_X6_take 42 [(0, .ref l0)] [] (S, I, L)
 else
 if kK S l0 = 6 then
 (if (I l0 4) < (nI 400) then
 evk zcod none d zc_X6_take 42 [(0, .ref l0)] [] (S, I, L)
 else
 if kK S l0 = 6 then
 (bV (evM zcod d 66 [.ref l0, .int (nI 2)] (S, I, L)) fun M1 =>
 if M1.1.1 = S.1 then
 (evk zcod none d zc_X6_take 42 [(0, .ref l0)] [] M1) else none) else none) else none) else none :=
  (blk_ok zcod none d zc_X6_take [(21, .getfield 36, 24, [6, 6, 0, 167, 0], none), (24, .ifCond .ne 18, 27, [42], none), (27, .aload_n 0, 28, [], none), (28, .getfield 30, 31, [6, 4, 0, 165, 0], none), (31, .sipush 400, 34, [], none), (34, .if_icmp .lt 8, 37, [42], none), (37, .aload_n 0, 38, [], none), (38, .iconst 2, 39, [], none), (39, .invokevirtual 135, 42, [66, 1, 0, 6, 223, 224, 225, 181], none)] (20, .aload_n 0, 21, [], some [0]) (by decide +kernel) _ _ _).trans rfl
set_option maxRecDepth 20000 in
set_option maxHeartbeats 4000000 in
theorem B_X6_take_42 (d : Nat) (S : mS) (I : mI) (L : mJ) (l0 : Nat) :
  evk zcod none d zc_X6_take 42 [(0, .ref l0)] [] (S, I, L) =
  if kK S l0 = 6 then
 (if (I l0 6) = (nI 0) then
 evk zcod none d zc_X6_take 51 [(0, .ref l0)] [] (S, I, L)
 else
 some (some (.int (nI 0)), (S, I, L))) else none :=
  (blk_ok zcod none d zc_X6_take [(43, .getfield 36, 46, [6, 6, 0, 167, 0], none), (46, .ifCond .eq 5, 49, [51], none), (49, .iconst 0, 50, [], none), (50, .ireturn, 51, [1], none)] (42, .aload_n 0, 43, [], some [0]) (by decide +kernel) _ _ _).trans rfl
set_option maxRecDepth 20000 in
set_option maxHeartbeats 4000000 in
theorem B_X6_take_51 (d : Nat) (S : mS) (I : mI) (L : mJ) (l0 : Nat) :
  evk zcod none d zc_X6_take 51 [(0, .ref l0)] [] (S, I, L) =
  if kK S l0 = 6 then
 (if kK S l0 = 6 then
 (if kK S l0 = 6 then
 (if kK S l0 = 6 then
 (if kK S (kR S l0 0) = 10 then
 (bI (evM zcod d 37 [.ref (kR S l0 0), .int ((uI I l0 4 ((I l0 4) + (nI 1))) l0 4)] (S, (uI I l0 4 ((I l0 4) + (nI 1))), L)) fun x1 M1 =>
 if M1.1.1 = S.1 then
 (if kK M1.1 l0 = 6 then
 (some (some (.int (nI 1)), (M1.1, (uI M1.2.1 l0 5 x1), M1.2.2))) else none) else none) else none) else none) else none) else none) else none :=
  (blk_ok zcod none d zc_X6_take [(52, .dup, 53, [], none), (53, .getfield 30, 56, [6, 4, 0, 165, 0], none), (56, .iconst 1, 57, [], none), (57, .iadd, 58, [], none), (58, .putfield 30, 61, [6, 4, 0, 165, 0, 0], none), (61, .aload_n 0, 62, [], none), (62, .aload_n 0, 63, [], none), (63, .getfield 12, 66, [6, 0, 2, 161, 0], none), (66, .aload_n 0, 67, [], none), (67, .getfield 30, 70, [6, 4, 0, 165, 0], none), (70, .invokevirtual 57, 73, [37, 1, 1, 10, 175, 176, 177, 126], none), (73, .putfield 33, 76, [6, 5, 0, 166, 0, 0], none), (76, .iconst 1, 77, [], none), (77, .ireturn, 78, [1], none)] (51, .aload_n 0, 52, [], some [0]) (by decide +kernel) _ _ _).trans rfl
theorem E_X6_takeFirst (d : Nat) (M : zM) (l0 : Nat) (l1 : Nat) : evM zcod (d + 1) 63 [.ref l0, .ref l1] M = evk zcod none d zc_X6_takeFirst 0 [(0, .ref l0), (1, .ref l1)] [] M := evM_eq zcod d 63 _ M (Nat.le_of_ble_eq_true rfl)
set_option maxRecDepth 20000 in
set_option maxHeartbeats 4000000 in
theorem B_X6_takeFirst_0 (d : Nat) (S : mS) (I : mI) (L : mJ) (l0 : Nat) (l1 : Nat) :
  evk zcod none d zc_X6_takeFirst 0 [(0, .ref l0), (1, .ref l1)] [] (S, I, L) =
  if kK S l1 = 9 then
 (bI (evM zcod d 3 [.ref l1] (S, I, L)) fun x1 M1 =>
 if M1.1.1 = S.1 then
 (if x1 = (nI 0) then
 evk zcod none d zc_X6_takeFirst 12 [(0, .ref l0)] [] M1
 else
 if kK M1.1 l0 = 6 then
 (bV (evM zcod d 66 [.ref l0, .int (nI 2)] M1) fun M2 =>
 if M2.1.1 = M1.1.1 then
 (evk zcod none d zc_X6_takeFirst 12 [(0, .ref l0)] [] M2) else none) else none) else none) else none :=
  (blk_ok zcod none d zc_X6_takeFirst [(1, .invokevirtual 168, 4, [3, 0, 1, 9, 247, 9, 10, 11], none), (4, .ifCond .eq 8, 7, [12], none), (7, .aload_n 0, 8, [], none), (8, .iconst 2, 9, [], none), (9, .invokevirtual 135, 12, [66, 1, 0, 6, 223, 224, 225, 181], none)] (0, .aload_n 1, 1, [], none) (by decide +kernel) _ _ _).trans rfl
set_option maxRecDepth 20000 in
set_option maxHeartbeats 4000000 in
theorem B_X6_takeFirst_12 (d : Nat) (S : mS) (I : mI) (L : mJ) (l0 : Nat) :
  evk zcod none d zc_X6_takeFirst 12 [(0, .ref l0)] [] (S, I, L) =
  if kK S l0 = 6 then
 (if kK S l0 = 6 then
 (bI (evM zcod d 62 [.ref l0, .int (I l0 5)] (S, I, L)) fun x1 M1 =>
 if M1.1.1 = S.1 then
 (some (none, M1)) else none) else none) else none :=
  (blk_ok zcod none d zc_X6_takeFirst [(13, .aload_n 0, 14, [], none), (14, .getfield 33, 17, [6, 5, 0, 166, 0], none), (17, .invokevirtual 90, 20, [62, 1, 1, 6, 200, 201, 202, 181], none), (20, .pop, 21, [], none), (21, .return_, 22, [], none)] (12, .aload_n 0, 13, [], some [0]) (by decide +kernel) _ _ _).trans rfl
theorem E_X6_takeName (d : Nat) (M : zM) (l0 : Nat) : evM zcod (d + 1) 64 [.ref l0] M = evk zcod none d zc_X6_takeName 0 [(0, .ref l0)] [] M := evM_eq zcod d 64 _ M (Nat.le_of_ble_eq_true rfl)
set_option maxRecDepth 20000 in
set_option maxHeartbeats 4000000 in
theorem B_X6_takeName_0 (d : Nat) (S : mS) (I : mI) (L : mJ) (l0 : Nat) :
  evk zcod none d zc_X6_takeName 0 [(0, .ref l0)] [] (S, I, L) =
  if kK S l0 = 6 then
 (if kK S l0 = 6 then
 (if kK S (kR S l0 0) = 10 then
 (bL (evM zcod d 39 [.ref (kR S l0 0), .int (I l0 4)] (S, I, L)) fun x1 M1 =>
 if M1.1.1 = S.1 then
 (if kK M1.1 l0 = 6 then
 (if kK M1.1 l0 = 6 then
 (if kK M1.1 (kR M1.1 l0 0) = 10 then
 (bI (evM zcod d 38 [.ref (kR M1.1 l0 0), .int (M1.2.1 l0 4)] M1) fun x2 M2 =>
 if M2.1.1 = M1.1.1 then
 (if kK M2.1 l0 = 6 then
 (bI (evM zcod d 62 [.ref l0, .int (nI 2)] M2) fun x3 M3 =>
 if M3.1.1 = M2.1.1 then
 (if ¬ x3 = (nI 0) then
 evk zcod none d zc_X6_takeName 33 [(0, .ref l0), (1, .long x1), (3, .int x2)] [] M3
 else
 some (none, M3)) else none) else none) else none) else none) else none) else none) else none) else none) else none) else none :=
  (blk_ok zcod none d zc_X6_takeName [(1, .getfield 12, 4, [6, 0, 2, 161, 0], none), (4, .aload_n 0, 5, [], none), (5, .getfield 30, 8, [6, 4, 0, 165, 0], none), (8, .invokevirtual 164, 11, [39, 1, 2, 10, 244, 245, 246, 126], none), (11, .lstore_n 1, 12, [], none), (12, .aload_n 0, 13, [], none), (13, .getfield 12, 16, [6, 0, 2, 161, 0], none), (16, .aload_n 0, 17, [], none), (17, .getfield 30, 20, [6, 4, 0, 165, 0], none), (20, .invokevirtual 172, 23, [38, 1, 1, 10, 248, 249, 250, 126], none), (23, .istore_n 3, 24, [], none), (24, .aload_n 0, 25, [], none), (25, .iconst 2, 26, [], none), (26, .invokevirtual 90, 29, [62, 1, 1, 6, 200, 201, 202, 181], none), (29, .ifCond .ne 4, 32, [33], none), (32, .return_, 33, [], none)] (0, .aload_n 0, 1, [], none) (by decide +kernel) _ _ _).trans rfl
set_option maxRecDepth 20000 in
set_option maxHeartbeats 4000000 in
theorem B_X6_takeName_33 (d : Nat) (S : mS) (I : mI) (L : mJ) (l0 : Nat) (l1 : Int64) (l3 : Int32) :
  evk zcod none d zc_X6_takeName 33 [(0, .ref l0), (1, .long l1), (3, .int l3)] [] (S, I, L) =
  evk zcod none d zc_X6_takeName 36 [(0, .ref l0), (1, .long l1), (3, .int l3), (4, .int (nI 0))] [] (S, I, L) :=
  (blk_ok zcod none d zc_X6_takeName [(34, .istore 4, 36, [], none)] (33, .iconst 0, 34, [], some [0, 1, 3]) (by decide +kernel) _ _ _).trans rfl
set_option maxRecDepth 20000 in
set_option maxHeartbeats 4000000 in
theorem B_X6_takeName_36 (d : Nat) (S : mS) (I : mI) (L : mJ) (l0 : Nat) (l1 : Int64) (l3 : Int32) (l4 : Int32) :
  evk zcod none d zc_X6_takeName 36 [(0, .ref l0), (1, .long l1), (3, .int l3), (4, .int l4)] [] (S, I, L) =
  if kK S l0 = 6 then
 (if (I l0 3) ≤ l4 then
 evk zcod none d zc_X6_takeName 79 [(0, .ref l0), (1, .long l1)] [] (S, I, L)
 else
 if kK S l0 = 6 then
 (if kK S (kR S l0 2) = 23 then
 (if (nI (kN S (kR S l0 2))) ≤ l4 then
 evk zcod none d zc_X6_takeName 79 [(0, .ref l0), (1, .long l1)] [] (S, I, L)
 else
 if kK S l0 = 6 then
 (if kK S (kR S l0 2) = 23 ∧ zin l4 (kN S (kR S l0 2)) then
 (if ¬ (lg_cmp (L (kR S l0 2) (zix l4)) l1) = (nI 0) then
 evk zcod none d zc_X6_takeName 73 [(0, .ref l0), (1, .long l1), (3, .int l3), (4, .int l4)] [] (S, I, L)
 else
 if kK S l0 = 6 then
 (bV (evM zcod d 67 [.ref l0, .int (nI 3), .int l3] (S, I, L)) fun M1 =>
 if M1.1.1 = S.1 then
 (evk zcod none d zc_X6_takeName 73 [(0, .ref l0), (1, .long l1), (3, .int l3), (4, .int l4)] [] M1) else none) else none) else none) else none) else none) else none) else none :=
  (blk_ok zcod none d zc_X6_takeName [(38, .aload_n 0, 39, [], none), (39, .getfield 26, 42, [6, 3, 0, 164, 0], none), (42, .if_icmp .ge 37, 45, [79], none), (45, .iload 4, 47, [], none), (47, .aload_n 0, 48, [], none), (48, .getfield 22, 51, [6, 2, 2, 163, 0], none), (51, .arraylength, 52, [23], none), (52, .if_icmp .ge 27, 55, [79], none), (55, .aload_n 0, 56, [], none), (56, .getfield 22, 59, [6, 2, 2, 163, 0], none), (59, .iload 4, 61, [], none), (61, .laload, 62, [23], none), (62, .lload_n 1, 63, [], none), (63, .lcmp, 64, [], none), (64, .ifCond .ne 9, 67, [73], none), (67, .aload_n 0, 68, [], none), (68, .iconst 3, 69, [], none), (69, .iload_n 3, 70, [], none), (70, .invokevirtual 175, 73, [67, 2, 0, 6, 251, 252, 253, 181], none)] (36, .iload 4, 38, [], some [0, 1, 3, 4]) (by decide +kernel) _ _ _).trans rfl
set_option maxRecDepth 20000 in
set_option maxHeartbeats 4000000 in
theorem B_X6_takeName_73 (d : Nat) (S : mS) (I : mI) (L : mJ) (l0 : Nat) (l1 : Int64) (l3 : Int32) (l4 : Int32) :
  evk zcod none d zc_X6_takeName 73 [(0, .ref l0), (1, .long l1), (3, .int l3), (4, .int l4)] [] (S, I, L) =
  evk zcod none d zc_X6_takeName 36 [(0, .ref l0), (1, .long l1), (3, .int l3), (4, .int (l4 + (nI 1)))] [] (S, I, L) :=
  (blk_ok zcod none d zc_X6_takeName [(76, .goto (-40), 79, [36], none)] (73, .iinc 4 1, 76, [], some [0, 1, 3, 4]) (by decide +kernel) _ _ _).trans rfl
set_option maxRecDepth 20000 in
set_option maxHeartbeats 4000000 in
theorem B_X6_takeName_79 (d : Nat) (S : mS) (I : mI) (L : mJ) (l0 : Nat) (l1 : Int64) :
  evk zcod none d zc_X6_takeName 79 [(0, .ref l0), (1, .long l1)] [] (S, I, L) =
  if kK S l0 = 6 then
 (if kK S l0 = 6 then
 (if kK S (kR S l0 2) = 23 then
 (if (nI (kN S (kR S l0 2))) ≤ (I l0 3) then
 evk zcod none d zc_X6_takeName 111 [] [] (S, I, L)
 else
 if kK S l0 = 6 then
 (if kK S l0 = 6 then
 (if kK S (kR S l0 2) = 23 ∧ zin (I l0 3) (kN S (kR S l0 2)) then
 (if kK S l0 = 6 then
 (if kK S l0 = 6 then
 (evk zcod none d zc_X6_takeName 111 [] [] (S, (uI I l0 3 ((I l0 3) + (nI 1))), (uL L (kR S l0 2) (zix (I l0 3)) l1))) else none) else none) else none) else none) else none) else none) else none) else none :=
  (blk_ok zcod none d zc_X6_takeName [(80, .getfield 26, 83, [6, 3, 0, 164, 0], none), (83, .aload_n 0, 84, [], none), (84, .getfield 22, 87, [6, 2, 2, 163, 0], none), (87, .arraylength, 88, [23], none), (88, .if_icmp .ge 23, 91, [111], none), (91, .aload_n 0, 92, [], none), (92, .getfield 22, 95, [6, 2, 2, 163, 0], none), (95, .aload_n 0, 96, [], none), (96, .getfield 26, 99, [6, 3, 0, 164, 0], none), (99, .lload_n 1, 100, [], none), (100, .lastore, 101, [23], none), (101, .aload_n 0, 102, [], none), (102, .dup, 103, [], none), (103, .getfield 26, 106, [6, 3, 0, 164, 0], none), (106, .iconst 1, 107, [], none), (107, .iadd, 108, [], none), (108, .putfield 26, 111, [6, 3, 0, 164, 0, 0], none)] (79, .aload_n 0, 80, [], some [0, 1]) (by decide +kernel) _ _ _).trans rfl
set_option maxRecDepth 20000 in
set_option maxHeartbeats 4000000 in
theorem B_X6_takeName_111 (d : Nat) (S : mS) (I : mI) (L : mJ)  :
  evk zcod none d zc_X6_takeName 111 [] [] (S, I, L) =
  some (none, (S, I, L)) :=
  (blk_ok zcod none d zc_X6_takeName [] (111, .return_, 112, [], some []) (by decide +kernel) _ _ _).trans rfl
theorem E_X6_takeNumber (d : Nat) (M : zM) (l0 : Nat) (l1 : Int32) (l2 : Int32) (l3 : Int32) : evM zcod (d + 1) 65 [.ref l0, .int l1, .int l2, .int l3] M = evk zcod none d zc_X6_takeNumber 0 [(0, .ref l0), (1, .int l1), (2, .int l2), (3, .int l3)] [] M := evM_eq zcod d 65 _ M (Nat.le_of_ble_eq_true rfl)
set_option maxRecDepth 20000 in
set_option maxHeartbeats 4000000 in
theorem B_X6_takeNumber_0 (d : Nat) (S : mS) (I : mI) (L : mJ) (l0 : Nat) (l1 : Int32) (l2 : Int32) (l3 : Int32) :
  evk zcod none d zc_X6_takeNumber 0 [(0, .ref l0), (1, .int l1), (2, .int l2), (3, .int l3)] [] (S, I, L) =
  if kK S l0 = 6 then
 (if kK S l0 = 6 then
 (if kK S (kR S l0 0) = 10 then
 (bL (evM zcod d 39 [.ref (kR S l0 0), .int (I l0 4)] (S, I, L)) fun x1 M1 =>
 if M1.1.1 = S.1 then
 (if kK M1.1 l0 = 6 then
 (if kK M1.1 l0 = 6 then
 (if kK M1.1 (kR M1.1 l0 0) = 10 then
 (bI (evM zcod d 38 [.ref (kR M1.1 l0 0), .int (M1.2.1 l0 4)] M1) fun x2 M2 =>
 if M2.1.1 = M1.1.1 then
 (if kK M2.1 l0 = 6 then
 (bI (evM zcod d 62 [.ref l0, .int (nI 3)] M2) fun x3 M3 =>
 if M3.1.1 = M2.1.1 then
 (if x3 = (nI 0) then
 evk zcod none d zc_X6_takeNumber 54 [(4, .int (l1 * x1.toInt32))] [] M3
 else
 bI (evM zcod d 145 [.int (l1 * x1.toInt32), .int l2, .int l3] M3) fun x4 M4 =>
 if M4.1.1 = M3.1.1 then
 (if ¬ x4 = (nI 0) then
 evk zcod none d zc_X6_takeNumber 54 [(4, .int (l1 * x1.toInt32))] [] M4
 else
 evk zcod none d zc_X6_takeNumber 47 [(0, .ref l0), (4, .int (l1 * x1.toInt32)), (5, .int x2)] [] M4) else none) else none) else none) else none) else none) else none) else none) else none) else none) else none) else none :=
  (blk_ok zcod none d zc_X6_takeNumber [(1, .aload_n 0, 2, [], none), (2, .getfield 12, 5, [6, 0, 2, 161, 0], none), (5, .aload_n 0, 6, [], none), (6, .getfield 30, 9, [6, 4, 0, 165, 0], none), (9, .invokevirtual 164, 12, [39, 1, 2, 10, 244, 245, 246, 126], none), (12, .l2i, 13, [], none), (13, .imul, 14, [], none), (14, .istore 4, 16, [], none), (16, .aload_n 0, 17, [], none), (17, .getfield 12, 20, [6, 0, 2, 161, 0], none), (20, .aload_n 0, 21, [], none), (21, .getfield 30, 24, [6, 4, 0, 165, 0], none), (24, .invokevirtual 172, 27, [38, 1, 1, 10, 248, 249, 250, 126], none), (27, .istore 5, 29, [], none), (29, .aload_n 0, 30, [], none), (30, .iconst 3, 31, [], none), (31, .invokevirtual 90, 34, [62, 1, 1, 6, 200, 201, 202, 181], none), (34, .ifCond .eq 20, 37, [54], none), (37, .iload 4, 39, [], none), (39, .iload_n 2, 40, [], none), (40, .iload_n 3, 41, [], none), (41, .invokestatic 131, 44, [145, 3, 1, 1, 220, 221, 222], none), (44, .ifCond .ne 10, 47, [54], none)] (0, .iload_n 1, 1, [], none) (by decide +kernel) _ _ _).trans rfl
set_option maxRecDepth 20000 in
set_option maxHeartbeats 4000000 in
theorem B_X6_takeNumber_47 (d : Nat) (S : mS) (I : mI) (L : mJ) (l0 : Nat) (l4 : Int32) (l5 : Int32) :
  evk zcod none d zc_X6_takeNumber 47 [(0, .ref l0), (4, .int l4), (5, .int l5)] [] (S, I, L) =
  if kK S l0 = 6 then
 (bV (evM zcod d 67 [.ref l0, .int (nI 5), .int l5] (S, I, L)) fun M1 =>
 if M1.1.1 = S.1 then
 (evk zcod none d zc_X6_takeNumber 54 [(4, .int l4)] [] M1) else none) else none :=
  (blk_ok zcod none d zc_X6_takeNumber [(48, .iconst 5, 49, [], none), (49, .iload 5, 51, [], none), (51, .invokevirtual 175, 54, [67, 2, 0, 6, 251, 252, 253, 181], none)] (47, .aload_n 0, 48, [], some [0, 4, 5]) (by decide +kernel) _ _ _).trans rfl
set_option maxRecDepth 20000 in
set_option maxHeartbeats 4000000 in
theorem B_X6_takeNumber_54 (d : Nat) (S : mS) (I : mI) (L : mJ) (l4 : Int32) :
  evk zcod none d zc_X6_takeNumber 54 [(4, .int l4)] [] (S, I, L) =
  some (some (.int l4), (S, I, L)) :=
  (blk_ok zcod none d zc_X6_takeNumber [(56, .ireturn, 57, [0], none)] (54, .iload 4, 56, [], some [4]) (by decide +kernel) _ _ _).trans rfl
theorem E_X6_fail (d : Nat) (M : zM) (l0 : Nat) (l1 : Int32) : evM zcod (d + 1) 66 [.ref l0, .int l1] M = evk zcod none d zc_X6_fail 0 [(0, .ref l0), (1, .int l1)] [] M := evM_eq zcod d 66 _ M (Nat.le_of_ble_eq_true rfl)
set_option maxRecDepth 20000 in
set_option maxHeartbeats 4000000 in
theorem B_X6_fail_0 (d : Nat) (S : mS) (I : mI) (L : mJ) (l0 : Nat) (l1 : Int32) :
  evk zcod none d zc_X6_fail 0 [(0, .ref l0), (1, .int l1)] [] (S, I, L) =
  if kK S l0 = 6 then
 (if ¬ (I l0 6) = (nI 0) then
 evk zcod none d zc_X6_fail 27 [] [] (S, I, L)
 else
 if kK S l0 = 6 then
 (if kK S l0 = 6 then
 (if kK S l0 = 6 then
 (if kK S (kR S l0 0) = 10 then
 (bI (evM zcod d 38 [.ref (kR S l0 0), .int ((uI I l0 6 l1) l0 4)] (S, (uI I l0 6 l1), L)) fun x1 M1 =>
 if M1.1.1 = S.1 then
 (if kK M1.1 l0 = 6 then
 (evk zcod none d zc_X6_fail 27 [] [] (M1.1, (uI M1.2.1 l0 7 x1), M1.2.2)) else none) else none) else none) else none) else none) else none) else none :=
  (blk_ok zcod none d zc_X6_fail [(1, .getfield 36, 4, [6, 6, 0, 167, 0], none), (4, .ifCond .ne 23, 7, [27], none), (7, .aload_n 0, 8, [], none), (8, .iload_n 1, 9, [], none), (9, .putfield 36, 12, [6, 6, 0, 167, 0, 0], none), (12, .aload_n 0, 13, [], none), (13, .aload_n 0, 14, [], none), (14, .getfield 12, 17, [6, 0, 2, 161, 0], none), (17, .aload_n 0, 18, [], none), (18, .getfield 30, 21, [6, 4, 0, 165, 0], none), (21, .invokevirtual 172, 24, [38, 1, 1, 10, 248, 249, 250, 126], none), (24, .putfield 39, 27, [6, 7, 0, 168, 0, 0], none)] (0, .aload_n 0, 1, [], none) (by decide +kernel) _ _ _).trans rfl
set_option maxRecDepth 20000 in
set_option maxHeartbeats 4000000 in
theorem B_X6_fail_27 (d : Nat) (S : mS) (I : mI) (L : mJ)  :
  evk zcod none d zc_X6_fail 27 [] [] (S, I, L) =
  some (none, (S, I, L)) :=
  (blk_ok zcod none d zc_X6_fail [] (27, .return_, 28, [], some []) (by decide +kernel) _ _ _).trans rfl
theorem E_X6_failLate (d : Nat) (M : zM) (l0 : Nat) (l1 : Int32) (l2 : Int32) : evM zcod (d + 1) 67 [.ref l0, .int l1, .int l2] M = evk zcod none d zc_X6_failLate 0 [(0, .ref l0), (1, .int l1), (2, .int l2)] [] M := evM_eq zcod d 67 _ M (Nat.le_of_ble_eq_true rfl)
set_option maxRecDepth 20000 in
set_option maxHeartbeats 4000000 in
theorem B_X6_failLate_0 (d : Nat) (S : mS) (I : mI) (L : mJ) (l0 : Nat) (l1 : Int32) (l2 : Int32) :
  evk zcod none d zc_X6_failLate 0 [(0, .ref l0), (1, .int l1), (2, .int l2)] [] (S, I, L) =
  if kK S l0 = 6 then
 (if ¬ (I l0 8) = (nI 0) then
 evk zcod none d zc_X6_failLate 17 [] [] (S, I, L)
 else
 if kK S l0 = 6 then
 (if kK S l0 = 6 then
 (evk zcod none d zc_X6_failLate 17 [] [] (S, (uI (uI I l0 8 l1) l0 9 l2), L)) else none) else none) else none :=
  (blk_ok zcod none d zc_X6_failLate [(1, .getfield 42, 4, [6, 8, 0, 169, 0], none), (4, .ifCond .ne 13, 7, [17], none), (7, .aload_n 0, 8, [], none), (8, .iload_n 1, 9, [], none), (9, .putfield 42, 12, [6, 8, 0, 169, 0, 0], none), (12, .aload_n 0, 13, [], none), (13, .iload_n 2, 14, [], none), (14, .putfield 45, 17, [6, 9, 0, 170, 0, 0], none)] (0, .aload_n 0, 1, [], none) (by decide +kernel) _ _ _).trans rfl
set_option maxRecDepth 20000 in
set_option maxHeartbeats 4000000 in
theorem B_X6_failLate_17 (d : Nat) (S : mS) (I : mI) (L : mJ)  :
  evk zcod none d zc_X6_failLate 17 [] [] (S, I, L) =
  some (none, (S, I, L)) :=
  (blk_ok zcod none d zc_X6_failLate [] (17, .return_, 18, [], some []) (by decide +kernel) _ _ _).trans rfl
