/-! block equations over (S, I, L): 59h.blkh -/
theorem E_X12_undo (d : Nat) (M : zM) (l0 : Nat) : evM zcod (d + 1) 230 [.ref l0] M = evk zcod none d zc_X12_undo 0 [(0, .ref l0)] [] M := evM_eq zcod d 230 _ M (Nat.le_of_ble_eq_true rfl)
set_option maxRecDepth 20000 in
set_option maxHeartbeats 4000000 in
theorem B_X12_undo_0 (d : Nat) (S : mS) (I : mI) (L : mJ) (l0 : Nat) :
  evk zcod none d zc_X12_undo 0 [(0, .ref l0)] [] (S, I, L) =
  if kK S l0 = 12 then
 (if ¬ (I l0 59) = (nI 0) then
 evk zcod none d zc_X12_undo 9 [(0, .ref l0)] [] (S, I, L)
 else
 some (some (.int (nI 0)), (S, I, L))) else none :=
  (blk_ok zcod none d zc_X12_undo [(1, .getfield 275, 4, [12, 59, 0, 719, 0], none), (4, .ifCond .ne 5, 7, [9], none), (7, .iconst 0, 8, [], none), (8, .ireturn, 9, [1], none)] (0, .aload_n 0, 1, [], none) (by decide +kernel) _ _ _).trans rfl
set_option maxRecDepth 20000 in
set_option maxHeartbeats 4000000 in
theorem B_X12_undo_9 (d : Nat) (S : mS) (I : mI) (L : mJ) (l0 : Nat) :
  evk zcod none d zc_X12_undo 9 [(0, .ref l0)] [] (S, I, L) =
  if kK S l0 = 12 then
 (if kK S l0 = 12 then
 (evk zcod none d zc_X12_undo 21 [(0, .ref l0), (1, .int (nI 0))] [] (S, (uI I l0 59 ((I l0 59) - (nI 1))), L)) else none) else none :=
  (blk_ok zcod none d zc_X12_undo [(10, .dup, 11, [], none), (11, .getfield 275, 14, [12, 59, 0, 719, 0], none), (14, .iconst 1, 15, [], none), (15, .isub, 16, [], none), (16, .putfield 275, 19, [12, 59, 0, 719, 0, 0], none), (19, .iconst 0, 20, [], none), (20, .istore_n 1, 21, [], none)] (9, .aload_n 0, 10, [], some [0]) (by decide +kernel) _ _ _).trans rfl
set_option maxRecDepth 20000 in
set_option maxHeartbeats 4000000 in
theorem B_X12_undo_21 (d : Nat) (S : mS) (I : mI) (L : mJ) (l0 : Nat) (l1 : Int32) :
  evk zcod none d zc_X12_undo 21 [(0, .ref l0), (1, .int l1)] [] (S, I, L) =
  if (nI 58) ≤ l1 then
 evk zcod none d zc_X12_undo 53 [] [] (S, I, L)
 else
 if kK S l0 = 12 then
 (if kK S l0 = 12 then
 (if kK S l0 = 12 then
 (if kK S (kR S l0 60) = 20 ∧ zin (((nI 58) * (I l0 59)) + l1) (kN S (kR S l0 60)) then
 (if kK S (kR S l0 52) = 20 ∧ zin l1 (kN S (kR S l0 52)) then
 (evk zcod none d zc_X12_undo 21 [(0, .ref l0), (1, .int (l1 + (nI 1)))] [] (S, (uI I (kR S l0 52) (zix l1) (I (kR S l0 60) (zix (((nI 58) * (I l0 59)) + l1)))), L)) else none) else none) else none) else none) else none :=
  (blk_ok zcod none d zc_X12_undo [(22, .bipush 58, 24, [], none), (24, .if_icmp .ge 29, 27, [53], none), (27, .aload_n 0, 28, [], none), (28, .getfield 122, 31, [12, 52, 2, 641, 0], none), (31, .iload_n 1, 32, [], none), (32, .aload_n 0, 33, [], none), (33, .getfield 140, 36, [12, 60, 2, 647, 0], none), (36, .bipush 58, 38, [], none), (38, .aload_n 0, 39, [], none), (39, .getfield 275, 42, [12, 59, 0, 719, 0], none), (42, .imul, 43, [], none), (43, .iload_n 1, 44, [], none), (44, .iadd, 45, [], none), (45, .iaload, 46, [20], none), (46, .iastore, 47, [20], none), (47, .iinc 1 1, 50, [], none), (50, .goto (-29), 53, [21], none)] (21, .iload_n 1, 22, [], some [0, 1]) (by decide +kernel) _ _ _).trans rfl
set_option maxRecDepth 20000 in
set_option maxHeartbeats 4000000 in
theorem B_X12_undo_53 (d : Nat) (S : mS) (I : mI) (L : mJ)  :
  evk zcod none d zc_X12_undo 53 [] [] (S, I, L) =
  some (some (.int (nI 1)), (S, I, L)) :=
  (blk_ok zcod none d zc_X12_undo [(54, .ireturn, 55, [1], none)] (53, .iconst 1, 54, [], some []) (by decide +kernel) _ _ _).trans rfl
theorem E_X12_beginsFlight (d : Nat) (M : zM) (l0 : Nat) (l1 : Int32) : evM zcod (d + 1) 231 [.ref l0, .int l1] M = evk zcod none d zc_X12_beginsFlight 0 [(0, .ref l0), (1, .int l1)] [] M := evM_eq zcod d 231 _ M (Nat.le_of_ble_eq_true rfl)
set_option maxRecDepth 20000 in
set_option maxHeartbeats 4000000 in
theorem R_X12_beginsFlight_0 (d : Nat) (S : mS) (I : mI) (L : mJ) (l0 : Nat) (l1 : Int32) :
  evk zcod none d zc_X12_beginsFlight 0 [(0, .ref l0), (1, .int l1)] [] (S, I, L) =
  if kK S l0 = 12 then
 (if kK S l0 = 12 then
 (if kK S l0 = 12 then
 (if kK S l0 = 12 then
 (evk zcod none d zc_X12_beginsFlight 21 [(0, .ref l0)] [] (S, (uI (uI (uI (uI I l0 61 (nI 0)) l0 62 (nI 0)) l0 63 ((Int8.ofInt (-2)).toInt32)) l0 64 l1), L)) else none) else none) else none) else none :=
  (blk_ok zcod none d zc_X12_beginsFlight [(1, .iconst 0, 2, [], none), (2, .putfield 437, 5, [12, 61, 0, 855, 0, 0], none), (5, .aload_n 0, 6, [], none), (6, .iconst 0, 7, [], none), (7, .putfield 440, 10, [12, 62, 0, 856, 0, 0], none), (10, .aload_n 0, 11, [], none), (11, .bipush (-2), 13, [], none), (13, .putfield 443, 16, [12, 63, 0, 857, 0, 0], none), (16, .aload_n 0, 17, [], none), (17, .iload_n 1, 18, [], none), (18, .putfield 446, 21, [12, 64, 0, 858, 0, 0], none)] (0, .aload_n 0, 1, [], none) (by decide +kernel) _ _ _).trans rfl
theorem B_X12_beginsFlight_0 (d : Nat) (S : mS) (I : mI) (L : mJ) (l0 : Nat) (l1 : Int32) :
  evk zcod none d zc_X12_beginsFlight 0 [(0, .ref l0), (1, .int l1)] [] (S, I, L) =
  if kK S l0 = 12 then
 (if kK S l0 = 12 then
 (if kK S l0 = 12 then
 (if kK S l0 = 12 then
 (evk zcod none d zc_X12_beginsFlight 21 [(0, .ref l0)] [] (S, (uI (uI (uI (uI I l0 61 (nI 0)) l0 62 (nI 0)) l0 63 (-2 : Int32)) l0 64 l1), L)) else none) else none) else none) else none := by
  simpa only [cvN] using R_X12_beginsFlight_0 d S I L l0 l1
set_option maxRecDepth 20000 in
set_option maxHeartbeats 4000000 in
theorem B_X12_beginsFlight_21 (d : Nat) (S : mS) (I : mI) (L : mJ) (l0 : Nat) :
  evk zcod none d zc_X12_beginsFlight 21 [(0, .ref l0)] [] (S, I, L) =
  if kK S l0 = 12 then
 (if kK S l0 = 12 then
 (if kK S l0 = 12 then
 (bV (evM zcod d 212 [.ref l0] (S, (uI (uI I l0 65 (nI 0)) l0 66 (nI 0)), L)) fun M1 =>
 if M1.1.1 = S.1 then
 (some (none, M1)) else none) else none) else none) else none :=
  (blk_ok zcod none d zc_X12_beginsFlight [(22, .iconst 0, 23, [], none), (23, .putfield 449, 26, [12, 65, 0, 859, 0, 0], none), (26, .aload_n 0, 27, [], none), (27, .iconst 0, 28, [], none), (28, .putfield 452, 31, [12, 66, 0, 860, 0, 0], none), (31, .aload_n 0, 32, [], none), (32, .invokevirtual 393, 35, [212, 0, 0, 12, 813, 814, 815, 662], none), (35, .return_, 36, [], none)] (21, .aload_n 0, 22, [], some [0]) (by decide +kernel) _ _ _).trans rfl
theorem E_X12_flies (d : Nat) (M : zM) (l0 : Nat) (l1 : Int32) (l2 : Int32) (l3 : Int32) (l4 : Int32) (l5 : Int32) : evM zcod (d + 1) 232 [.ref l0, .int l1, .int l2, .int l3, .int l4, .int l5] M = evk zcod none d zc_X12_flies 0 [(0, .ref l0), (1, .int l1), (2, .int l2), (3, .int l3), (4, .int l4), (5, .int l5)] [] M := evM_eq zcod d 232 _ M (Nat.le_of_ble_eq_true rfl)
set_option maxRecDepth 20000 in
set_option maxHeartbeats 4000000 in
theorem R_X12_flies_0 (d : Nat) (S : mS) (I : mI) (L : mJ) (l0 : Nat) (l1 : Int32) (l2 : Int32) (l3 : Int32) (l4 : Int32) (l5 : Int32) :
  evk zcod none d zc_X12_flies 0 [(0, .ref l0), (1, .int l1), (2, .int l2), (3, .int l3), (4, .int l4), (5, .int l5)] [] (S, I, L) =
  if kK S l0 = 12 then
 (if kK S l0 = 12 then
 (if kK S l0 = 12 then
 (bI (evM zcod d 208 [.ref l0, .int l1, .int (nI 1), .int (I l0 65), .int (I l0 64)] (S, I, L)) fun x1 M1 =>
 if M1.1.1 = S.1 then
 (if kK M1.1 l0 = 12 then
 (if kK M1.1 l0 = 12 then
 (if kK M1.1 l0 = 12 then
 (bI (evM zcod d 207 [.ref l0, .int l1, .int (nI 1), .int l3, .int l4, .int (M1.2.1 l0 65), .int (M1.2.1 l0 64)] M1) fun x2 M2 =>
 if M2.1.1 = M1.1.1 then
 (if ¬ l2 = (Int32.ofInt (-1)) then
 evk zcod none d zc_X12_flies 44 [(0, .ref l0), (1, .int l1), (2, .int l2), (5, .int l5), (6, .int x1), (7, .int x2)] [] M2
 else
 evk zcod none d zc_X12_flies 51 [(0, .ref l0), (5, .int l5), (6, .int x1), (7, .int x2)] [.int (nI 0)] M2) else none) else none) else none) else none) else none) else none) else none) else none :=
  (blk_ok zcod none d zc_X12_flies [(1, .iload_n 1, 2, [], none), (2, .iconst 1, 3, [], none), (3, .aload_n 0, 4, [], none), (4, .getfield 449, 7, [12, 65, 0, 859, 0], none), (7, .aload_n 0, 8, [], none), (8, .getfield 446, 11, [12, 64, 0, 858, 0], none), (11, .invokevirtual 378, 14, [208, 4, 1, 12, 801, 802, 803, 662], none), (14, .istore 6, 16, [], none), (16, .aload_n 0, 17, [], none), (17, .iload_n 1, 18, [], none), (18, .iconst 1, 19, [], none), (19, .iload_n 3, 20, [], none), (20, .iload 4, 22, [], none), (22, .aload_n 0, 23, [], none), (23, .getfield 449, 26, [12, 65, 0, 859, 0], none), (26, .aload_n 0, 27, [], none), (27, .getfield 446, 30, [12, 64, 0, 858, 0], none), (30, .invokevirtual 382, 33, [207, 6, 1, 12, 804, 805, 806, 662], none), (33, .istore 7, 35, [], none), (35, .iload_n 2, 36, [], none), (36, .iconst (-1), 37, [], none), (37, .if_icmp .ne 7, 40, [44], none), (40, .iconst 0, 41, [], none), (41, .goto 10, 44, [51], none)] (0, .aload_n 0, 1, [], none) (by decide +kernel) _ _ _).trans rfl
theorem B_X12_flies_0 (d : Nat) (S : mS) (I : mI) (L : mJ) (l0 : Nat) (l1 : Int32) (l2 : Int32) (l3 : Int32) (l4 : Int32) (l5 : Int32) :
  evk zcod none d zc_X12_flies 0 [(0, .ref l0), (1, .int l1), (2, .int l2), (3, .int l3), (4, .int l4), (5, .int l5)] [] (S, I, L) =
  if kK S l0 = 12 then
 (if kK S l0 = 12 then
 (if kK S l0 = 12 then
 (bI (evM zcod d 208 [.ref l0, .int l1, .int (nI 1), .int (I l0 65), .int (I l0 64)] (S, I, L)) fun x1 M1 =>
 if M1.1.1 = S.1 then
 (if kK M1.1 l0 = 12 then
 (if kK M1.1 l0 = 12 then
 (if kK M1.1 l0 = 12 then
 (bI (evM zcod d 207 [.ref l0, .int l1, .int (nI 1), .int l3, .int l4, .int (M1.2.1 l0 65), .int (M1.2.1 l0 64)] M1) fun x2 M2 =>
 if M2.1.1 = M1.1.1 then
 (if ¬ l2 = (-1 : Int32) then
 evk zcod none d zc_X12_flies 44 [(0, .ref l0), (1, .int l1), (2, .int l2), (5, .int l5), (6, .int x1), (7, .int x2)] [] M2
 else
 evk zcod none d zc_X12_flies 51 [(0, .ref l0), (5, .int l5), (6, .int x1), (7, .int x2)] [.int (nI 0)] M2) else none) else none) else none) else none) else none) else none) else none) else none := by
  simpa only [cvN] using R_X12_flies_0 d S I L l0 l1 l2 l3 l4 l5
set_option maxRecDepth 20000 in
set_option maxHeartbeats 4000000 in
theorem B_X12_flies_44 (d : Nat) (S : mS) (I : mI) (L : mJ) (l0 : Nat) (l1 : Int32) (l2 : Int32) (l5 : Int32) (l6 : Int32) (l7 : Int32) :
  evk zcod none d zc_X12_flies 44 [(0, .ref l0), (1, .int l1), (2, .int l2), (5, .int l5), (6, .int l6), (7, .int l7)] [] (S, I, L) =
  if kK S l0 = 12 then
 (bI (evM zcod d 210 [.ref l0, .int l1, .int (nI 1), .int l2] (S, I, L)) fun x1 M1 =>
 if M1.1.1 = S.1 then
 (evk zcod none d zc_X12_flies 51 [(0, .ref l0), (5, .int l5), (6, .int l6), (7, .int l7)] [.int x1] M1) else none) else none :=
  (blk_ok zcod none d zc_X12_flies [(45, .iload_n 1, 46, [], none), (46, .iconst 1, 47, [], none), (47, .iload_n 2, 48, [], none), (48, .invokevirtual 386, 51, [210, 3, 1, 12, 807, 808, 809, 662], none)] (44, .aload_n 0, 45, [], some [0, 1, 2, 5, 6, 7]) (by decide +kernel) _ _ _).trans rfl
set_option maxRecDepth 20000 in
set_option maxHeartbeats 4000000 in
theorem B_X12_flies_51 (d : Nat) (S : mS) (I : mI) (L : mJ) (l0 : Nat) (l5 : Int32) (l6 : Int32) (l7 : Int32) (s0 : Int32) :
  evk zcod none d zc_X12_flies 51 [(0, .ref l0), (5, .int l5), (6, .int l6), (7, .int l7)] [.int s0] (S, I, L) =
  if kK S l0 = 12 then
 (bI (evM zcod d 192 [.int (((I l0 64) + l5) + l6), .int (nI 0), .int (nI 19)] (S, I, L)) fun x1 M1 =>
 if M1.1.1 = S.1 then
 (if kK M1.1 l0 = 12 then
 (if kK M1.1 l0 = 12 then
 (if kK M1.1 l0 = 12 then
 (if kK M1.1 l0 = 12 then
 (if kK M1.1 l0 = 12 then
 (if kK M1.1 l0 = 12 then
 (if kK M1.1 (kR M1.1 l0 33) = 20 ∧ zin ((uI (uI M1.2.1 l0 64 x1) l0 65 (((uI M1.2.1 l0 64 x1) l0 65) + l7)) l0 18) (kN M1.1 (kR M1.1 l0 33)) then
 (if ((uI (uI M1.2.1 l0 64 x1) l0 65 (((uI M1.2.1 l0 64 x1) l0 65) + l7)) l0 65) < ((uI (uI M1.2.1 l0 64 x1) l0 65 (((uI M1.2.1 l0 64 x1) l0 65) + l7)) (kR M1.1 l0 33) (zix ((uI (uI M1.2.1 l0 64 x1) l0 65 (((uI M1.2.1 l0 64 x1) l0 65) + l7)) l0 18))) then
 evk zcod none d zc_X12_flies 148 [(0, .ref l0)] [] (M1.1, (uI (uI M1.2.1 l0 64 x1) l0 65 (((uI M1.2.1 l0 64 x1) l0 65) + l7)), M1.2.2)
 else
 if kK M1.1 l0 = 12 then
 (if kK M1.1 l0 = 12 then
 (bI (evM zcod d 211 [.ref l0, .int ((uI (uI M1.2.1 l0 64 x1) l0 65 (((uI M1.2.1 l0 64 x1) l0 65) + l7)) l0 64)] (M1.1, (uI (uI M1.2.1 l0 64 x1) l0 65 (((uI M1.2.1 l0 64 x1) l0 65) + l7)), M1.2.2)) fun x2 M2 =>
 if M2.1.1 = M1.1.1 then
 (if kK M2.1 l0 = 12 then
 (evk zcod none d zc_X12_flies 112 [(0, .ref l0), (8, .int s0)] [] (M2.1, (uI M2.2.1 l0 63 x2), M2.2.2)) else none) else none) else none) else none) else none) else none) else none) else none) else none) else none) else none) else none) else none :=
  (blk_ok zcod none d zc_X12_flies [(53, .aload_n 0, 54, [], none), (54, .aload_n 0, 55, [], none), (55, .getfield 446, 58, [12, 64, 0, 858, 0], none), (58, .iload 5, 60, [], none), (60, .iadd, 61, [], none), (61, .iload 6, 63, [], none), (63, .iadd, 64, [], none), (64, .iconst 0, 65, [], none), (65, .bipush 19, 67, [], none), (67, .invokestatic 366, 70, [192, 3, 1, 0, 791, 792, 662], none), (70, .putfield 446, 73, [12, 64, 0, 858, 0, 0], none), (73, .aload_n 0, 74, [], none), (74, .dup, 75, [], none), (75, .getfield 449, 78, [12, 65, 0, 859, 0], none), (78, .iload 7, 80, [], none), (80, .iadd, 81, [], none), (81, .putfield 449, 84, [12, 65, 0, 859, 0, 0], none), (84, .aload_n 0, 85, [], none), (85, .getfield 449, 88, [12, 65, 0, 859, 0], none), (88, .aload_n 0, 89, [], none), (89, .getfield 76, 92, [12, 33, 2, 625, 0], none), (92, .aload_n 0, 93, [], none), (93, .getfield 257, 96, [12, 18, 0, 711, 0], none), (96, .iaload, 97, [20], none), (97, .if_icmp .lt 51, 100, [148], none), (100, .aload_n 0, 101, [], none), (101, .aload_n 0, 102, [], none), (102, .aload_n 0, 103, [], none), (103, .getfield 446, 106, [12, 64, 0, 858, 0], none), (106, .invokevirtual 372, 109, [211, 1, 1, 12, 795, 796, 797, 662], none), (109, .putfield 443, 112, [12, 63, 0, 857, 0, 0], none)] (51, .istore 8, 53, [], some [0, 5, 6, 7]) (by decide +kernel) _ _ _).trans rfl
set_option maxRecDepth 20000 in
set_option maxHeartbeats 4000000 in
theorem B_X12_flies_112 (d : Nat) (S : mS) (I : mI) (L : mJ) (l0 : Nat) (l8 : Int32) :
  evk zcod none d zc_X12_flies 112 [(0, .ref l0), (8, .int l8)] [] (S, I, L) =
  if kK S l0 = 12 then
 (if (nI 0) ≤ (I l0 63) then
 evk zcod none d zc_X12_flies 124 [(0, .ref l0), (8, .int l8)] [.ref l0] (S, I, L)
 else
 evk zcod none d zc_X12_flies 125 [(0, .ref l0), (8, .int l8)] [.int (nI 2), .ref l0] (S, I, L)) else none :=
  (blk_ok zcod none d zc_X12_flies [(113, .aload_n 0, 114, [], none), (114, .getfield 443, 117, [12, 63, 0, 857, 0], none), (117, .ifCond .ge 7, 120, [124], none), (120, .iconst 2, 121, [], none), (121, .goto 4, 124, [125], none)] (112, .aload_n 0, 113, [], some [0, 8]) (by decide +kernel) _ _ _).trans rfl
set_option maxRecDepth 20000 in
set_option maxHeartbeats 4000000 in
theorem B_X12_flies_124 (d : Nat) (S : mS) (I : mI) (L : mJ) (l0 : Nat) (l8 : Int32) (s0 : Nat) :
  evk zcod none d zc_X12_flies 124 [(0, .ref l0), (8, .int l8)] [.ref s0] (S, I, L) =
  evk zcod none d zc_X12_flies 125 [(0, .ref l0), (8, .int l8)] [.int (nI 1), .ref s0] (S, I, L) :=
  (blk_ok zcod none d zc_X12_flies [] (124, .iconst 1, 125, [], some [0, 8]) (by decide +kernel) _ _ _).trans rfl
set_option maxRecDepth 20000 in
set_option maxHeartbeats 4000000 in
theorem B_X12_flies_125 (d : Nat) (S : mS) (I : mI) (L : mJ) (l0 : Nat) (l8 : Int32) (s0 : Nat) (s1 : Int32) :
  evk zcod none d zc_X12_flies 125 [(0, .ref l0), (8, .int l8)] [.int s1, .ref s0] (S, I, L) =
  if kK S s0 = 12 then
 (if kK S l0 = 12 then
 (if (nI 0) ≤ ((uI I s0 62 s1) l0 63) then
 evk zcod none d zc_X12_flies 140 [(8, .int l8)] [.ref l0] (S, (uI I s0 62 s1), L)
 else
 evk zcod none d zc_X12_flies 142 [] [.int (nI 0), .ref l0] (S, (uI I s0 62 s1), L)) else none) else none :=
  (blk_ok zcod none d zc_X12_flies [(128, .aload_n 0, 129, [], none), (129, .aload_n 0, 130, [], none), (130, .getfield 443, 133, [12, 63, 0, 857, 0], none), (133, .ifCond .ge 7, 136, [140], none), (136, .iconst 0, 137, [], none), (137, .goto 5, 140, [142], none)] (125, .putfield 440, 128, [12, 62, 0, 856, 0, 0], some [0, 8]) (by decide +kernel) _ _ _).trans rfl
set_option maxRecDepth 20000 in
set_option maxHeartbeats 4000000 in
theorem B_X12_flies_140 (d : Nat) (S : mS) (I : mI) (L : mJ) (l8 : Int32) (s0 : Nat) :
  evk zcod none d zc_X12_flies 140 [(8, .int l8)] [.ref s0] (S, I, L) =
  evk zcod none d zc_X12_flies 142 [] [.int l8, .ref s0] (S, I, L) :=
  (blk_ok zcod none d zc_X12_flies [] (140, .iload 8, 142, [], some [8]) (by decide +kernel) _ _ _).trans rfl
set_option maxRecDepth 20000 in
set_option maxHeartbeats 4000000 in
theorem B_X12_flies_142 (d : Nat) (S : mS) (I : mI) (L : mJ) (s0 : Nat) (s1 : Int32) :
  evk zcod none d zc_X12_flies 142 [] [.int s1, .ref s0] (S, I, L) =
  if kK S s0 = 12 then
 (evk zcod none d zc_X12_flies 160 [] [] (S, (uI I s0 66 s1), L)) else none :=
  (blk_ok zcod none d zc_X12_flies [(145, .goto 15, 148, [160], none)] (142, .putfield 452, 145, [12, 66, 0, 860, 0, 0], some []) (by decide +kernel) _ _ _).trans rfl
set_option maxRecDepth 20000 in
set_option maxHeartbeats 4000000 in
theorem B_X12_flies_148 (d : Nat) (S : mS) (I : mI) (L : mJ) (l0 : Nat) :
  evk zcod none d zc_X12_flies 148 [(0, .ref l0)] [] (S, I, L) =
  if kK S l0 = 12 then
 (if (nI 0) < (I l0 65) then
 evk zcod none d zc_X12_flies 160 [] [] (S, I, L)
 else
 if kK S l0 = 12 then
 (evk zcod none d zc_X12_flies 160 [] [] (S, (uI I l0 62 (nI 3)), L)) else none) else none :=
  (blk_ok zcod none d zc_X12_flies [(149, .getfield 449, 152, [12, 65, 0, 859, 0], none), (152, .ifCond .gt 8, 155, [160], none), (155, .aload_n 0, 156, [], none), (156, .iconst 3, 157, [], none), (157, .putfield 440, 160, [12, 62, 0, 856, 0, 0], none)] (148, .aload_n 0, 149, [], some [0]) (by decide +kernel) _ _ _).trans rfl
set_option maxRecDepth 20000 in
set_option maxHeartbeats 4000000 in
theorem B_X12_flies_160 (d : Nat) (S : mS) (I : mI) (L : mJ)  :
  evk zcod none d zc_X12_flies 160 [] [] (S, I, L) =
  some (none, (S, I, L)) :=
  (blk_ok zcod none d zc_X12_flies [] (160, .return_, 161, [], some []) (by decide +kernel) _ _ _).trans rfl
theorem E_X12_fliesOn (d : Nat) (M : zM) (l0 : Nat) (l1 : Int32) (l2 : Int32) (l3 : Int32) (l4 : Int32) (l5 : Int32) (l6 : Int32) : evM zcod (d + 1) 233 [.ref l0, .int l1, .int l2, .int l3, .int l4, .int l5, .int l6] M = evk zcod none d zc_X12_fliesOn 0 [(0, .ref l0), (1, .int l1), (2, .int l2), (3, .int l3), (4, .int l4), (5, .int l5), (6, .int l6)] [] M := evM_eq zcod d 233 _ M (Nat.le_of_ble_eq_true rfl)
set_option maxRecDepth 20000 in
set_option maxHeartbeats 4000000 in
theorem B_X12_fliesOn_0 (d : Nat) (S : mS) (I : mI) (L : mJ) (l0 : Nat) (l1 : Int32) (l2 : Int32) (l3 : Int32) (l4 : Int32) (l5 : Int32) (l6 : Int32) :
  evk zcod none d zc_X12_fliesOn 0 [(0, .ref l0), (1, .int l1), (2, .int l2), (3, .int l3), (4, .int l4), (5, .int l5), (6, .int l6)] [] (S, I, L) =
  if kK S l0 = 12 then
 (bV (evM zcod d 231 [.ref l0, .int l6] (S, I, L)) fun M1 =>
 if M1.1.1 = S.1 then
 (evk zcod none d zc_X12_fliesOn 9 [(0, .ref l0), (1, .int l1), (2, .int l2), (3, .int l3), (4, .int l4), (5, .int l5), (7, .int (nI 1))] [] M1) else none) else none :=
  (blk_ok zcod none d zc_X12_fliesOn [(1, .iload 6, 3, [], none), (3, .invokevirtual 455, 6, [231, 1, 0, 12, 861, 862, 863, 662], none), (6, .iconst 1, 7, [], none), (7, .istore 7, 9, [], none)] (0, .aload_n 0, 1, [], none) (by decide +kernel) _ _ _).trans rfl
set_option maxRecDepth 20000 in
set_option maxHeartbeats 4000000 in
theorem B_X12_fliesOn_9 (d : Nat) (S : mS) (I : mI) (L : mJ) (l0 : Nat) (l1 : Int32) (l2 : Int32) (l3 : Int32) (l4 : Int32) (l5 : Int32) (l7 : Int32) :
  evk zcod none d zc_X12_fliesOn 9 [(0, .ref l0), (1, .int l1), (2, .int l2), (3, .int l3), (4, .int l4), (5, .int l5), (7, .int l7)] [] (S, I, L) =
  if (nI 48) < l7 then
 evk zcod none d zc_X12_fliesOn 55 [] [] (S, I, L)
 else
 if kK S l0 = 12 then
 (bV (evM zcod d 232 [.ref l0, .int ((l1 + l7) - (nI 1)), .int l2, .int l3, .int l4, .int l5] (S, I, L)) fun M1 =>
 if M1.1.1 = S.1 then
 (if kK M1.1 l0 = 12 then
 (if ¬ (M1.2.1 l0 62) = (nI 0) then
 evk zcod none d zc_X12_fliesOn 42 [(0, .ref l0), (7, .int l7)] [] M1
 else
 evk zcod none d zc_X12_fliesOn 49 [(0, .ref l0), (1, .int l1), (2, .int l2), (3, .int l3), (4, .int l4), (5, .int l5), (7, .int l7)] [] M1) else none) else none) else none :=
  (blk_ok zcod none d zc_X12_fliesOn [(11, .bipush 48, 13, [], none), (13, .if_icmp .gt 42, 16, [55], none), (16, .aload_n 0, 17, [], none), (17, .iload_n 1, 18, [], none), (18, .iload 7, 20, [], none), (20, .iadd, 21, [], none), (21, .iconst 1, 22, [], none), (22, .isub, 23, [], none), (23, .iload_n 2, 24, [], none), (24, .iload_n 3, 25, [], none), (25, .iload 4, 27, [], none), (27, .iload 5, 29, [], none), (29, .invokevirtual 458, 32, [232, 5, 0, 12, 864, 865, 866, 662], none), (32, .aload_n 0, 33, [], none), (33, .getfield 440, 36, [12, 62, 0, 856, 0], none), (36, .ifCond .ne 6, 39, [42], none), (39, .goto 10, 42, [49], none)] (9, .iload 7, 11, [], some [0, 1, 2, 3, 4, 5, 7]) (by decide +kernel) _ _ _).trans rfl
set_option maxRecDepth 20000 in
set_option maxHeartbeats 4000000 in
theorem B_X12_fliesOn_42 (d : Nat) (S : mS) (I : mI) (L : mJ) (l0 : Nat) (l7 : Int32) :
  evk zcod none d zc_X12_fliesOn 42 [(0, .ref l0), (7, .int l7)] [] (S, I, L) =
  if kK S l0 = 12 then
 (some (none, (S, (uI I l0 61 l7), L))) else none :=
  (blk_ok zcod none d zc_X12_fliesOn [(43, .iload 7, 45, [], none), (45, .putfield 437, 48, [12, 61, 0, 855, 0, 0], none), (48, .return_, 49, [], none)] (42, .aload_n 0, 43, [], some [0, 7]) (by decide +kernel) _ _ _).trans rfl
set_option maxRecDepth 20000 in
set_option maxHeartbeats 4000000 in
theorem B_X12_fliesOn_49 (d : Nat) (S : mS) (I : mI) (L : mJ) (l0 : Nat) (l1 : Int32) (l2 : Int32) (l3 : Int32) (l4 : Int32) (l5 : Int32) (l7 : Int32) :
  evk zcod none d zc_X12_fliesOn 49 [(0, .ref l0), (1, .int l1), (2, .int l2), (3, .int l3), (4, .int l4), (5, .int l5), (7, .int l7)] [] (S, I, L) =
  evk zcod none d zc_X12_fliesOn 9 [(0, .ref l0), (1, .int l1), (2, .int l2), (3, .int l3), (4, .int l4), (5, .int l5), (7, .int (l7 + (nI 1)))] [] (S, I, L) :=
  (blk_ok zcod none d zc_X12_fliesOn [(52, .goto (-43), 55, [9], none)] (49, .iinc 7 1, 52, [], some [0, 1, 2, 3, 4, 5, 7]) (by decide +kernel) _ _ _).trans rfl
set_option maxRecDepth 20000 in
set_option maxHeartbeats 4000000 in
theorem B_X12_fliesOn_55 (d : Nat) (S : mS) (I : mI) (L : mJ)  :
  evk zcod none d zc_X12_fliesOn 55 [] [] (S, I, L) =
  some (none, (S, I, L)) :=
  (blk_ok zcod none d zc_X12_fliesOn [] (55, .return_, 56, [], some []) (by decide +kernel) _ _ _).trans rfl
theorem E_X12_fliesFrom (d : Nat) (M : zM) (l0 : Nat) (l1 : Int32) (l2 : Int32) (l3 : Int32) (l4 : Int32) : evM zcod (d + 1) 234 [.ref l0, .int l1, .int l2, .int l3, .int l4] M = evk zcod none d zc_X12_fliesFrom 0 [(0, .ref l0), (1, .int l1), (2, .int l2), (3, .int l3), (4, .int l4)] [] M := evM_eq zcod d 234 _ M (Nat.le_of_ble_eq_true rfl)
set_option maxRecDepth 20000 in
set_option maxHeartbeats 4000000 in
theorem B_X12_fliesFrom_0 (d : Nat) (S : mS) (I : mI) (L : mJ) (l0 : Nat) (l1 : Int32) (l2 : Int32) (l3 : Int32) (l4 : Int32) :
  evk zcod none d zc_X12_fliesFrom 0 [(0, .ref l0), (1, .int l1), (2, .int l2), (3, .int l3), (4, .int l4)] [] (S, I, L) =
  if kK S l0 = 12 then
 (if kK S (kR S l0 53) = 20 ∧ zin (nI 55) (kN S (kR S l0 53)) then
 (if kK S l0 = 12 then
 (if kK S l0 = 12 then
 (if kK S (kR S l0 27) = 20 ∧ zin (((nI 5) * (I l0 18)) + l2) (kN S (kR S l0 27)) then
 (if kK S l0 = 12 then
 (if kK S l0 = 12 then
 (if kK S (kR S l0 24) = 20 ∧ zin (((nI 7) * (I l0 18)) + l1) (kN S (kR S l0 24)) then
 (if kK S l0 = 12 then
 (if kK S (kR S l0 53) = 20 ∧ zin l1 (kN S (kR S l0 53)) then
 (if kK S l0 = 12 then
 (bV (evM zcod d 233 [.ref l0, .int ((I (kR S l0 53) (zix (nI 55))) + l3), .int l1, .int (I (kR S l0 27) (zix (((nI 5) * (I l0 18)) + l2))), .int (I (kR S l0 24) (zix (((nI 7) * (I l0 18)) + l1))), .int l4, .int (I (kR S l0 53) (zix l1))] (S, I, L)) fun M1 =>
 if M1.1.1 = S.1 then
 (some (none, M1)) else none) else none) else none) else none) else none) else none) else none) else none) else none) else none) else none) else none :=
  (blk_ok zcod none d zc_X12_fliesFrom [(1, .aload_n 0, 2, [], none), (2, .getfield 125, 5, [12, 53, 2, 642, 0], none), (5, .bipush 55, 7, [], none), (7, .iaload, 8, [20], none), (8, .iload_n 3, 9, [], none), (9, .iadd, 10, [], none), (10, .iload_n 1, 11, [], none), (11, .aload_n 0, 12, [], none), (12, .getfield 58, 15, [12, 27, 2, 619, 0], none), (15, .iconst 5, 16, [], none), (16, .aload_n 0, 17, [], none), (17, .getfield 257, 20, [12, 18, 0, 711, 0], none), (20, .imul, 21, [], none), (21, .iload_n 2, 22, [], none), (22, .iadd, 23, [], none), (23, .iaload, 24, [20], none), (24, .aload_n 0, 25, [], none), (25, .getfield 49, 28, [12, 24, 2, 616, 0], none), (28, .bipush 7, 30, [], none), (30, .aload_n 0, 31, [], none), (31, .getfield 257, 34, [12, 18, 0, 711, 0], none), (34, .imul, 35, [], none), (35, .iload_n 1, 36, [], none), (36, .iadd, 37, [], none), (37, .iaload, 38, [20], none), (38, .iload 4, 40, [], none), (40, .aload_n 0, 41, [], none), (41, .getfield 125, 44, [12, 53, 2, 642, 0], none), (44, .iload_n 1, 45, [], none), (45, .iaload, 46, [20], none), (46, .invokevirtual 462, 49, [233, 6, 0, 12, 867, 868, 869, 662], none), (49, .return_, 50, [], none)] (0, .aload_n 0, 1, [], none) (by decide +kernel) _ _ _).trans rfl
theorem E_X12_flight (d : Nat) (M : zM) (l0 : Nat) (l1 : Int32) (l2 : Int32) (l3 : Int32) (l4 : Int32) : evM zcod (d + 1) 235 [.ref l0, .int l1, .int l2, .int l3, .int l4] M = evk zcod none d zc_X12_flight 0 [(0, .ref l0), (1, .int l1), (2, .int l2), (3, .int l3), (4, .int l4)] [] M := evM_eq zcod d 235 _ M (Nat.le_of_ble_eq_true rfl)
set_option maxRecDepth 20000 in
set_option maxHeartbeats 4000000 in
theorem B_X12_flight_0 (d : Nat) (S : mS) (I : mI) (L : mJ) (l0 : Nat) (l1 : Int32) (l2 : Int32) (l3 : Int32) (l4 : Int32) :
  evk zcod none d zc_X12_flight 0 [(0, .ref l0), (1, .int l1), (2, .int l2), (3, .int l3), (4, .int l4)] [] (S, I, L) =
  if kK S l0 = 12 then
 (bI (evM zcod d 225 [.ref l0, .int l1, .int l2] (S, I, L)) fun x1 M1 =>
 if M1.1.1 = S.1 then
 (if x1 = (nI 0) then
 evk zcod none d zc_X12_flight 29 [] [] M1
 else
 bI (evM zcod d 191 [.int l3, .int (nI 0), .int (nI 24)] M1) fun x2 M2 =>
 if M2.1.1 = M1.1.1 then
 (if x2 = (nI 0) then
 evk zcod none d zc_X12_flight 29 [] [] M2
 else
 bI (evM zcod d 191 [.int l4, .int (nI 0), .int (nI 3)] M2) fun x3 M3 =>
 if M3.1.1 = M2.1.1 then
 (if ¬ x3 = (nI 0) then
 evk zcod none d zc_X12_flight 31 [(0, .ref l0), (1, .int l1), (2, .int l2), (3, .int l3), (4, .int l4)] [] M3
 else
 evk zcod none d zc_X12_flight 29 [] [] M3) else none) else none) else none) else none :=
  (blk_ok zcod none d zc_X12_flight [(1, .iload_n 1, 2, [], none), (2, .iload_n 2, 3, [], none), (3, .invokevirtual 424, 6, [225, 2, 1, 12, 843, 844, 845, 662], none), (6, .ifCond .eq 23, 9, [29], none), (9, .iload_n 3, 10, [], none), (10, .iconst 0, 11, [], none), (11, .bipush 24, 13, [], none), (13, .invokestatic 340, 16, [191, 3, 1, 0, 771, 772, 662], none), (16, .ifCond .eq 13, 19, [29], none), (19, .iload 4, 21, [], none), (21, .iconst 0, 22, [], none), (22, .iconst 3, 23, [], none), (23, .invokestatic 340, 26, [191, 3, 1, 0, 771, 772, 662], none), (26, .ifCond .ne 5, 29, [31], none)] (0, .aload_n 0, 1, [], none) (by decide +kernel) _ _ _).trans rfl
set_option maxRecDepth 20000 in
set_option maxHeartbeats 4000000 in
theorem R_X12_flight_29 (d : Nat) (S : mS) (I : mI) (L : mJ)  :
  evk zcod none d zc_X12_flight 29 [] [] (S, I, L) =
  some (some (.int (Int32.ofInt (-1))), (S, I, L)) :=
  (blk_ok zcod none d zc_X12_flight [(30, .ireturn, 31, [0], none)] (29, .iconst (-1), 30, [], some []) (by decide +kernel) _ _ _).trans rfl
theorem B_X12_flight_29 (d : Nat) (S : mS) (I : mI) (L : mJ)  :
  evk zcod none d zc_X12_flight 29 [] [] (S, I, L) =
  some (some (.int (-1 : Int32)), (S, I, L)) := by
  simpa only [cvN] using R_X12_flight_29 d S I L 
set_option maxRecDepth 20000 in
set_option maxHeartbeats 4000000 in
theorem R_X12_flight_31 (d : Nat) (S : mS) (I : mI) (L : mJ) (l0 : Nat) (l1 : Int32) (l2 : Int32) (l3 : Int32) (l4 : Int32) :
  evk zcod none d zc_X12_flight 31 [(0, .ref l0), (1, .int l1), (2, .int l2), (3, .int l3), (4, .int l4)] [] (S, I, L) =
  if kK S l0 = 12 then
 (bI (evM zcod d 224 [.ref l0, .int l1, .int l2] (S, I, L)) fun x1 M1 =>
 if M1.1.1 = S.1 then
 (if ¬ x1 = (nI 0) then
 evk zcod none d zc_X12_flight 43 [(0, .ref l0), (1, .int l1), (2, .int l2), (3, .int l3), (4, .int l4)] [] M1
 else
 some (some (.int ((Int8.ofInt (-2)).toInt32)), M1)) else none) else none :=
  (blk_ok zcod none d zc_X12_flight [(32, .iload_n 1, 33, [], none), (33, .iload_n 2, 34, [], none), (34, .invokevirtual 428, 37, [224, 2, 1, 12, 846, 847, 848, 662], none), (37, .ifCond .ne 6, 40, [43], none), (40, .bipush (-2), 42, [], none), (42, .ireturn, 43, [0], none)] (31, .aload_n 0, 32, [], some [0, 1, 2, 3, 4]) (by decide +kernel) _ _ _).trans rfl
theorem B_X12_flight_31 (d : Nat) (S : mS) (I : mI) (L : mJ) (l0 : Nat) (l1 : Int32) (l2 : Int32) (l3 : Int32) (l4 : Int32) :
  evk zcod none d zc_X12_flight 31 [(0, .ref l0), (1, .int l1), (2, .int l2), (3, .int l3), (4, .int l4)] [] (S, I, L) =
  if kK S l0 = 12 then
 (bI (evM zcod d 224 [.ref l0, .int l1, .int l2] (S, I, L)) fun x1 M1 =>
 if M1.1.1 = S.1 then
 (if ¬ x1 = (nI 0) then
 evk zcod none d zc_X12_flight 43 [(0, .ref l0), (1, .int l1), (2, .int l2), (3, .int l3), (4, .int l4)] [] M1
 else
 some (some (.int (-2 : Int32)), M1)) else none) else none := by
  simpa only [cvN] using R_X12_flight_31 d S I L l0 l1 l2 l3 l4
set_option maxRecDepth 20000 in
set_option maxHeartbeats 4000000 in
theorem B_X12_flight_43 (d : Nat) (S : mS) (I : mI) (L : mJ) (l0 : Nat) (l1 : Int32) (l2 : Int32) (l3 : Int32) (l4 : Int32) :
  evk zcod none d zc_X12_flight 43 [(0, .ref l0), (1, .int l1), (2, .int l2), (3, .int l3), (4, .int l4)] [] (S, I, L) =
  if kK S l0 = 12 then
 (bV (evM zcod d 200 [.ref l0] (S, I, L)) fun M1 =>
 if M1.1.1 = S.1 then
 (if kK M1.1 l0 = 12 then
 (if kK M1.1 (kR M1.1 l0 53) = 20 ∧ zin ((nI 40) + l2) (kN M1.1 (kR M1.1 l0 53)) then
 (if kK M1.1 l0 = 12 then
 (bV (evM zcod d 234 [.ref l0, .int l1, .int l2, .int l3, .int (M1.2.1 (kR M1.1 l0 53) (zix ((nI 40) + l2)))] M1) fun M2 =>
 if M2.1.1 = M1.1.1 then
 (if ¬ l4 = (nI 0) then
 evk zcod none d zc_X12_flight 75 [(0, .ref l0), (4, .int l4)] [] M2
 else
 if kK M2.1 l0 = 12 then
 (evk zcod none d zc_X12_flight 105 [] [.int (M2.2.1 l0 61)] M2) else none) else none) else none) else none) else none) else none) else none :=
  (blk_ok zcod none d zc_X12_flight [(44, .invokevirtual 415, 47, [200, 0, 0, 12, 834, 835, 836, 662], none), (47, .aload_n 0, 48, [], none), (48, .iload_n 1, 49, [], none), (49, .iload_n 2, 50, [], none), (50, .iload_n 3, 51, [], none), (51, .aload_n 0, 52, [], none), (52, .getfield 125, 55, [12, 53, 2, 642, 0], none), (55, .bipush 40, 57, [], none), (57, .iload_n 2, 58, [], none), (58, .iadd, 59, [], none), (59, .iaload, 60, [20], none), (60, .invokevirtual 466, 63, [234, 4, 0, 12, 870, 871, 872, 662], none), (63, .iload 4, 65, [], none), (65, .ifCond .ne 10, 68, [75], none), (68, .aload_n 0, 69, [], none), (69, .getfield 437, 72, [12, 61, 0, 855, 0], none), (72, .goto 33, 75, [105], none)] (43, .aload_n 0, 44, [], some [0, 1, 2, 3, 4]) (by decide +kernel) _ _ _).trans rfl
set_option maxRecDepth 20000 in
set_option maxHeartbeats 4000000 in
theorem B_X12_flight_75 (d : Nat) (S : mS) (I : mI) (L : mJ) (l0 : Nat) (l4 : Int32) :
  evk zcod none d zc_X12_flight 75 [(0, .ref l0), (4, .int l4)] [] (S, I, L) =
  if ¬ l4 = (nI 1) then
 evk zcod none d zc_X12_flight 88 [(0, .ref l0), (4, .int l4)] [] (S, I, L)
 else
 if kK S l0 = 12 then
 (evk zcod none d zc_X12_flight 105 [] [.int (I l0 62)] (S, I, L)) else none :=
  (blk_ok zcod none d zc_X12_flight [(77, .iconst 1, 78, [], none), (78, .if_icmp .ne 10, 81, [88], none), (81, .aload_n 0, 82, [], none), (82, .getfield 440, 85, [12, 62, 0, 856, 0], none), (85, .goto 20, 88, [105], none)] (75, .iload 4, 77, [], some [0, 4]) (by decide +kernel) _ _ _).trans rfl
set_option maxRecDepth 20000 in
set_option maxHeartbeats 4000000 in
theorem B_X12_flight_88 (d : Nat) (S : mS) (I : mI) (L : mJ) (l0 : Nat) (l4 : Int32) :
  evk zcod none d zc_X12_flight 88 [(0, .ref l0), (4, .int l4)] [] (S, I, L) =
  if ¬ l4 = (nI 2) then
 evk zcod none d zc_X12_flight 101 [(0, .ref l0)] [] (S, I, L)
 else
 if kK S l0 = 12 then
 (evk zcod none d zc_X12_flight 105 [] [.int (I l0 63)] (S, I, L)) else none :=
  (blk_ok zcod none d zc_X12_flight [(90, .iconst 2, 91, [], none), (91, .if_icmp .ne 10, 94, [101], none), (94, .aload_n 0, 95, [], none), (95, .getfield 443, 98, [12, 63, 0, 857, 0], none), (98, .goto 7, 101, [105], none)] (88, .iload 4, 90, [], some [0, 4]) (by decide +kernel) _ _ _).trans rfl
set_option maxRecDepth 20000 in
set_option maxHeartbeats 4000000 in
theorem B_X12_flight_101 (d : Nat) (S : mS) (I : mI) (L : mJ) (l0 : Nat) :
  evk zcod none d zc_X12_flight 101 [(0, .ref l0)] [] (S, I, L) =
  if kK S l0 = 12 then
 (evk zcod none d zc_X12_flight 105 [] [.int (I l0 64)] (S, I, L)) else none :=
  (blk_ok zcod none d zc_X12_flight [(102, .getfield 446, 105, [12, 64, 0, 858, 0], none)] (101, .aload_n 0, 102, [], some [0]) (by decide +kernel) _ _ _).trans rfl
set_option maxRecDepth 20000 in
set_option maxHeartbeats 4000000 in
theorem B_X12_flight_105 (d : Nat) (S : mS) (I : mI) (L : mJ) (s0 : Int32) :
  evk zcod none d zc_X12_flight 105 [] [.int s0] (S, I, L) =
  some (some (.int s0), (S, I, L)) :=
  (blk_ok zcod none d zc_X12_flight [] (105, .ireturn, 106, [0], some []) (by decide +kernel) _ _ _).trans rfl
theorem E_X12_soon (d : Nat) (M : zM) (l0 : Nat) (l1 : Int32) (l2 : Int32) (l3 : Int32) : evM zcod (d + 1) 236 [.ref l0, .int l1, .int l2, .int l3] M = evk zcod none d zc_X12_soon 0 [(0, .ref l0), (1, .int l1), (2, .int l2), (3, .int l3)] [] M := evM_eq zcod d 236 _ M (Nat.le_of_ble_eq_true rfl)
set_option maxRecDepth 20000 in
set_option maxHeartbeats 4000000 in
theorem B_X12_soon_0 (d : Nat) (S : mS) (I : mI) (L : mJ) (l0 : Nat) (l1 : Int32) (l2 : Int32) (l3 : Int32) :
  evk zcod none d zc_X12_soon 0 [(0, .ref l0), (1, .int l1), (2, .int l2), (3, .int l3)] [] (S, I, L) =
  if kK S l0 = 12 then
 (bI (evM zcod d 225 [.ref l0, .int l1, .int l2] (S, I, L)) fun x1 M1 =>
 if M1.1.1 = S.1 then
 (if x1 = (nI 0) then
 evk zcod none d zc_X12_soon 26 [] [] M1
 else
 if kK M1.1 l0 = 12 then
 (bI (evM zcod d 197 [.ref l0, .int l3] M1) fun x2 M2 =>
 if M2.1.1 = M1.1.1 then
 (if x2 = (nI 0) then
 evk zcod none d zc_X12_soon 26 [] [] M2
 else
 if kK M2.1 l0 = 12 then
 (bI (evM zcod d 224 [.ref l0, .int l1, .int l2] M2) fun x3 M3 =>
 if M3.1.1 = M2.1.1 then
 (if ¬ x3 = (nI 0) then
 evk zcod none d zc_X12_soon 28 [(0, .ref l0), (1, .int l1), (2, .int l2), (3, .int l3)] [] M3
 else
 evk zcod none d zc_X12_soon 26 [] [] M3) else none) else none) else none) else none) else none) else none :=
  (blk_ok zcod none d zc_X12_soon [(1, .iload_n 1, 2, [], none), (2, .iload_n 2, 3, [], none), (3, .invokevirtual 424, 6, [225, 2, 1, 12, 843, 844, 845, 662], none), (6, .ifCond .eq 20, 9, [26], none), (9, .aload_n 0, 10, [], none), (10, .iload_n 3, 11, [], none), (11, .invokevirtual 412, 14, [197, 1, 1, 12, 831, 832, 833, 662], none), (14, .ifCond .eq 12, 17, [26], none), (17, .aload_n 0, 18, [], none), (18, .iload_n 1, 19, [], none), (19, .iload_n 2, 20, [], none), (20, .invokevirtual 428, 23, [224, 2, 1, 12, 846, 847, 848, 662], none), (23, .ifCond .ne 5, 26, [28], none)] (0, .aload_n 0, 1, [], none) (by decide +kernel) _ _ _).trans rfl
set_option maxRecDepth 20000 in
set_option maxHeartbeats 4000000 in
theorem R_X12_soon_26 (d : Nat) (S : mS) (I : mI) (L : mJ)  :
  evk zcod none d zc_X12_soon 26 [] [] (S, I, L) =
  some (some (.int (Int32.ofInt (-1))), (S, I, L)) :=
  (blk_ok zcod none d zc_X12_soon [(27, .ireturn, 28, [0], none)] (26, .iconst (-1), 27, [], some []) (by decide +kernel) _ _ _).trans rfl
theorem B_X12_soon_26 (d : Nat) (S : mS) (I : mI) (L : mJ)  :
  evk zcod none d zc_X12_soon 26 [] [] (S, I, L) =
  some (some (.int (-1 : Int32)), (S, I, L)) := by
  simpa only [cvN] using R_X12_soon_26 d S I L 
set_option maxRecDepth 20000 in
set_option maxHeartbeats 4000000 in
theorem B_X12_soon_28 (d : Nat) (S : mS) (I : mI) (L : mJ) (l0 : Nat) (l1 : Int32) (l2 : Int32) (l3 : Int32) :
  evk zcod none d zc_X12_soon 28 [(0, .ref l0), (1, .int l1), (2, .int l2), (3, .int l3)] [] (S, I, L) =
  if kK S l0 = 12 then
 (bV (evM zcod d 200 [.ref l0] (S, I, L)) fun M1 =>
 if M1.1.1 = S.1 then
 (evk zcod none d zc_X12_soon 35 [(0, .ref l0), (1, .int l1), (2, .int l2), (3, .int l3), (4, .int (nI 0))] [] M1) else none) else none :=
  (blk_ok zcod none d zc_X12_soon [(29, .invokevirtual 415, 32, [200, 0, 0, 12, 834, 835, 836, 662], none), (32, .iconst 0, 33, [], none), (33, .istore 4, 35, [], none)] (28, .aload_n 0, 29, [], some [0, 1, 2, 3]) (by decide +kernel) _ _ _).trans rfl
set_option maxRecDepth 20000 in
set_option maxHeartbeats 4000000 in
theorem B_X12_soon_35 (d : Nat) (S : mS) (I : mI) (L : mJ) (l0 : Nat) (l1 : Int32) (l2 : Int32) (l3 : Int32) (l4 : Int32) :
  evk zcod none d zc_X12_soon 35 [(0, .ref l0), (1, .int l1), (2, .int l2), (3, .int l3), (4, .int l4)] [] (S, I, L) =
  if (nI 24) < l4 then
 evk zcod none d zc_X12_soon 76 [] [] (S, I, L)
 else
 if kK S l0 = 12 then
 (if kK S (kR S l0 53) = 20 ∧ zin ((nI 40) + l2) (kN S (kR S l0 53)) then
 (if kK S l0 = 12 then
 (bV (evM zcod d 234 [.ref l0, .int l1, .int l2, .int l4, .int (I (kR S l0 53) (zix ((nI 40) + l2)))] (S, I, L)) fun M1 =>
 if M1.1.1 = S.1 then
 (if kK M1.1 l0 = 12 then
 (if ¬ (M1.2.1 l0 63) = l3 then
 evk zcod none d zc_X12_soon 70 [(0, .ref l0), (1, .int l1), (2, .int l2), (3, .int l3), (4, .int l4)] [] M1
 else
 some (some (.int l4), M1)) else none) else none) else none) else none) else none :=
  (blk_ok zcod none d zc_X12_soon [(37, .bipush 24, 39, [], none), (39, .if_icmp .gt 37, 42, [76], none), (42, .aload_n 0, 43, [], none), (43, .iload_n 1, 44, [], none), (44, .iload_n 2, 45, [], none), (45, .iload 4, 47, [], none), (47, .aload_n 0, 48, [], none), (48, .getfield 125, 51, [12, 53, 2, 642, 0], none), (51, .bipush 40, 53, [], none), (53, .iload_n 2, 54, [], none), (54, .iadd, 55, [], none), (55, .iaload, 56, [20], none), (56, .invokevirtual 466, 59, [234, 4, 0, 12, 870, 871, 872, 662], none), (59, .aload_n 0, 60, [], none), (60, .getfield 443, 63, [12, 63, 0, 857, 0], none), (63, .iload_n 3, 64, [], none), (64, .if_icmp .ne 6, 67, [70], none), (67, .iload 4, 69, [], none), (69, .ireturn, 70, [0], none)] (35, .iload 4, 37, [], some [0, 1, 2, 3, 4]) (by decide +kernel) _ _ _).trans rfl
set_option maxRecDepth 20000 in
set_option maxHeartbeats 4000000 in
theorem B_X12_soon_70 (d : Nat) (S : mS) (I : mI) (L : mJ) (l0 : Nat) (l1 : Int32) (l2 : Int32) (l3 : Int32) (l4 : Int32) :
  evk zcod none d zc_X12_soon 70 [(0, .ref l0), (1, .int l1), (2, .int l2), (3, .int l3), (4, .int l4)] [] (S, I, L) =
  evk zcod none d zc_X12_soon 35 [(0, .ref l0), (1, .int l1), (2, .int l2), (3, .int l3), (4, .int (l4 + (nI 1)))] [] (S, I, L) :=
  (blk_ok zcod none d zc_X12_soon [(73, .goto (-38), 76, [35], none)] (70, .iinc 4 1, 73, [], some [0, 1, 2, 3, 4]) (by decide +kernel) _ _ _).trans rfl
set_option maxRecDepth 20000 in
set_option maxHeartbeats 4000000 in
theorem R_X12_soon_76 (d : Nat) (S : mS) (I : mI) (L : mJ)  :
  evk zcod none d zc_X12_soon 76 [] [] (S, I, L) =
  some (some (.int ((Int8.ofInt (-2)).toInt32)), (S, I, L)) :=
  (blk_ok zcod none d zc_X12_soon [(78, .ireturn, 79, [0], none)] (76, .bipush (-2), 78, [], some []) (by decide +kernel) _ _ _).trans rfl
theorem B_X12_soon_76 (d : Nat) (S : mS) (I : mI) (L : mJ)  :
  evk zcod none d zc_X12_soon 76 [] [] (S, I, L) =
  some (some (.int (-2 : Int32)), (S, I, L)) := by
  simpa only [cvN] using R_X12_soon_76 d S I L 
theorem E_X12_patches (d : Nat) (M : zM) (l0 : Nat) (l1 : Int32) (l2 : Int32) (l3 : Int32) : evM zcod (d + 1) 237 [.ref l0, .int l1, .int l2, .int l3] M = evk zcod none d zc_X12_patches 0 [(0, .ref l0), (1, .int l1), (2, .int l2), (3, .int l3)] [] M := evM_eq zcod d 237 _ M (Nat.le_of_ble_eq_true rfl)
set_option maxRecDepth 20000 in
set_option maxHeartbeats 4000000 in
theorem B_X12_patches_0 (d : Nat) (S : mS) (I : mI) (L : mJ) (l0 : Nat) (l1 : Int32) (l2 : Int32) (l3 : Int32) :
  evk zcod none d zc_X12_patches 0 [(0, .ref l0), (1, .int l1), (2, .int l2), (3, .int l3)] [] (S, I, L) =
  if kK S l0 = 12 then
 (bI (evM zcod d 225 [.ref l0, .int l1, .int l2] (S, I, L)) fun x1 M1 =>
 if M1.1.1 = S.1 then
 (if x1 = (nI 0) then
 evk zcod none d zc_X12_patches 26 [] [] M1
 else
 if kK M1.1 l0 = 12 then
 (bI (evM zcod d 197 [.ref l0, .int l3] M1) fun x2 M2 =>
 if M2.1.1 = M1.1.1 then
 (if x2 = (nI 0) then
 evk zcod none d zc_X12_patches 26 [] [] M2
 else
 if kK M2.1 l0 = 12 then
 (bI (evM zcod d 224 [.ref l0, .int l1, .int l2] M2) fun x3 M3 =>
 if M3.1.1 = M2.1.1 then
 (if ¬ x3 = (nI 0) then
 evk zcod none d zc_X12_patches 30 [(0, .ref l0), (1, .int l1), (2, .int l2), (3, .int l3)] [] M3
 else
 evk zcod none d zc_X12_patches 26 [] [] M3) else none) else none) else none) else none) else none) else none :=
  (blk_ok zcod none d zc_X12_patches [(1, .iload_n 1, 2, [], none), (2, .iload_n 2, 3, [], none), (3, .invokevirtual 424, 6, [225, 2, 1, 12, 843, 844, 845, 662], none), (6, .ifCond .eq 20, 9, [26], none), (9, .aload_n 0, 10, [], none), (10, .iload_n 3, 11, [], none), (11, .invokevirtual 412, 14, [197, 1, 1, 12, 831, 832, 833, 662], none), (14, .ifCond .eq 12, 17, [26], none), (17, .aload_n 0, 18, [], none), (18, .iload_n 1, 19, [], none), (19, .iload_n 2, 20, [], none), (20, .invokevirtual 428, 23, [224, 2, 1, 12, 846, 847, 848, 662], none), (23, .ifCond .ne 7, 26, [30], none)] (0, .aload_n 0, 1, [], none) (by decide +kernel) _ _ _).trans rfl
set_option maxRecDepth 20000 in
set_option maxHeartbeats 4000000 in
theorem R_X12_patches_26 (d : Nat) (S : mS) (I : mI) (L : mJ)  :
  evk zcod none d zc_X12_patches 26 [] [] (S, I, L) =
  some (some (.int ((Int16.ofInt (-1000)).toInt32)), (S, I, L)) :=
  (blk_ok zcod none d zc_X12_patches [(29, .ireturn, 30, [0], none)] (26, .sipush (-1000), 29, [], some []) (by decide +kernel) _ _ _).trans rfl
theorem B_X12_patches_26 (d : Nat) (S : mS) (I : mI) (L : mJ)  :
  evk zcod none d zc_X12_patches 26 [] [] (S, I, L) =
  some (some (.int (-1000 : Int32)), (S, I, L)) := by
  simpa only [cvN] using R_X12_patches_26 d S I L 
set_option maxRecDepth 20000 in
set_option maxHeartbeats 4000000 in
theorem R_X12_patches_30 (d : Nat) (S : mS) (I : mI) (L : mJ) (l0 : Nat) (l1 : Int32) (l2 : Int32) (l3 : Int32) :
  evk zcod none d zc_X12_patches 30 [(0, .ref l0), (1, .int l1), (2, .int l2), (3, .int l3)] [] (S, I, L) =
  if kK S l0 = 12 then
 (bV (evM zcod d 200 [.ref l0] (S, I, L)) fun M1 =>
 if M1.1.1 = S.1 then
 (evk zcod none d zc_X12_patches 42 [(0, .ref l0), (1, .int l1), (2, .int l2), (3, .int l3), (4, .int ((Int8.ofInt (-100)).toInt32)), (5, .int ((Int8.ofInt (-3)).toInt32))] [] M1) else none) else none :=
  (blk_ok zcod none d zc_X12_patches [(31, .invokevirtual 415, 34, [200, 0, 0, 12, 834, 835, 836, 662], none), (34, .bipush (-100), 36, [], none), (36, .istore 4, 38, [], none), (38, .bipush (-3), 40, [], none), (40, .istore 5, 42, [], none)] (30, .aload_n 0, 31, [], some [0, 1, 2, 3]) (by decide +kernel) _ _ _).trans rfl
theorem B_X12_patches_30 (d : Nat) (S : mS) (I : mI) (L : mJ) (l0 : Nat) (l1 : Int32) (l2 : Int32) (l3 : Int32) :
  evk zcod none d zc_X12_patches 30 [(0, .ref l0), (1, .int l1), (2, .int l2), (3, .int l3)] [] (S, I, L) =
  if kK S l0 = 12 then
 (bV (evM zcod d 200 [.ref l0] (S, I, L)) fun M1 =>
 if M1.1.1 = S.1 then
 (evk zcod none d zc_X12_patches 42 [(0, .ref l0), (1, .int l1), (2, .int l2), (3, .int l3), (4, .int (-100 : Int32)), (5, .int (-3 : Int32))] [] M1) else none) else none := by
  simpa only [cvN] using R_X12_patches_30 d S I L l0 l1 l2 l3
set_option maxRecDepth 20000 in
set_option maxHeartbeats 4000000 in
theorem B_X12_patches_42 (d : Nat) (S : mS) (I : mI) (L : mJ) (l0 : Nat) (l1 : Int32) (l2 : Int32) (l3 : Int32) (l4 : Int32) (l5 : Int32) :
  evk zcod none d zc_X12_patches 42 [(0, .ref l0), (1, .int l1), (2, .int l2), (3, .int l3), (4, .int l4), (5, .int l5)] [] (S, I, L) =
  if (nI 3) < l5 then
 evk zcod none d zc_X12_patches 116 [(4, .int l4)] [] (S, I, L)
 else
 if kK S l0 = 12 then
 (bV (evM zcod d 234 [.ref l0, .int l1, .int l2, .int (nI 0), .int l5] (S, I, L)) fun M1 =>
 if M1.1.1 = S.1 then
 (if kK M1.1 l0 = 12 then
 (if (M1.2.1 l0 63) = l3 then
 evk zcod none d zc_X12_patches 68 [(0, .ref l0), (1, .int l1), (2, .int l2), (3, .int l3), (4, .int l4), (5, .int l5)] [] M1
 else
 evk zcod none d zc_X12_patches 110 [(0, .ref l0), (1, .int l1), (2, .int l2), (3, .int l3), (4, .int l4), (5, .int l5)] [] M1) else none) else none) else none :=
  (blk_ok zcod none d zc_X12_patches [(44, .iconst 3, 45, [], none), (45, .if_icmp .gt 71, 48, [116], none), (48, .aload_n 0, 49, [], none), (49, .iload_n 1, 50, [], none), (50, .iload_n 2, 51, [], none), (51, .iconst 0, 52, [], none), (52, .iload 5, 54, [], none), (54, .invokevirtual 466, 57, [234, 4, 0, 12, 870, 871, 872, 662], none), (57, .aload_n 0, 58, [], none), (58, .getfield 443, 61, [12, 63, 0, 857, 0], none), (61, .iload_n 3, 62, [], none), (62, .if_icmp .eq 6, 65, [68], none), (65, .goto 45, 68, [110], none)] (42, .iload 5, 44, [], some [0, 1, 2, 3, 4, 5]) (by decide +kernel) _ _ _).trans rfl
set_option maxRecDepth 20000 in
set_option maxHeartbeats 4000000 in
theorem R_X12_patches_68 (d : Nat) (S : mS) (I : mI) (L : mJ) (l0 : Nat) (l1 : Int32) (l2 : Int32) (l3 : Int32) (l4 : Int32) (l5 : Int32) :
  evk zcod none d zc_X12_patches 68 [(0, .ref l0), (1, .int l1), (2, .int l2), (3, .int l3), (4, .int l4), (5, .int l5)] [] (S, I, L) =
  if l4 = ((Int8.ofInt (-100)).toInt32) then
 evk zcod none d zc_X12_patches 106 [(0, .ref l0), (1, .int l1), (2, .int l2), (3, .int l3), (5, .int l5)] [] (S, I, L)
 else
 if kK S l0 = 12 then
 (if kK S (kR S l0 53) = 20 ∧ zin ((nI 40) + l2) (kN S (kR S l0 53)) then
 (bI (evM zcod d 194 [.int l5, .int (I (kR S l0 53) (zix ((nI 40) + l2)))] (S, I, L)) fun x1 M1 =>
 if M1.1.1 = S.1 then
 (if kK M1.1 l0 = 12 then
 (if kK M1.1 (kR M1.1 l0 53) = 20 ∧ zin ((nI 40) + l2) (kN M1.1 (kR M1.1 l0 53)) then
 (bI (evM zcod d 194 [.int l4, .int (M1.2.1 (kR M1.1 l0 53) (zix ((nI 40) + l2)))] M1) fun x2 M2 =>
 if M2.1.1 = M1.1.1 then
 (if x2 ≤ x1 then
 evk zcod none d zc_X12_patches 110 [(0, .ref l0), (1, .int l1), (2, .int l2), (3, .int l3), (4, .int l4), (5, .int l5)] [] M2
 else
 evk zcod none d zc_X12_patches 106 [(0, .ref l0), (1, .int l1), (2, .int l2), (3, .int l3), (5, .int l5)] [] M2) else none) else none) else none) else none) else none) else none :=
  (blk_ok zcod none d zc_X12_patches [(70, .bipush (-100), 72, [], none), (72, .if_icmp .eq 34, 75, [106], none), (75, .iload 5, 77, [], none), (77, .aload_n 0, 78, [], none), (78, .getfield 125, 81, [12, 53, 2, 642, 0], none), (81, .bipush 40, 83, [], none), (83, .iload_n 2, 84, [], none), (84, .iadd, 85, [], none), (85, .iaload, 86, [20], none), (86, .invokestatic 369, 89, [194, 2, 1, 0, 793, 794, 662], none), (89, .iload 4, 91, [], none), (91, .aload_n 0, 92, [], none), (92, .getfield 125, 95, [12, 53, 2, 642, 0], none), (95, .bipush 40, 97, [], none), (97, .iload_n 2, 98, [], none), (98, .iadd, 99, [], none), (99, .iaload, 100, [20], none), (100, .invokestatic 369, 103, [194, 2, 1, 0, 793, 794, 662], none), (103, .if_icmp .ge 7, 106, [110], none)] (68, .iload 4, 70, [], some [0, 1, 2, 3, 4, 5]) (by decide +kernel) _ _ _).trans rfl
theorem B_X12_patches_68 (d : Nat) (S : mS) (I : mI) (L : mJ) (l0 : Nat) (l1 : Int32) (l2 : Int32) (l3 : Int32) (l4 : Int32) (l5 : Int32) :
  evk zcod none d zc_X12_patches 68 [(0, .ref l0), (1, .int l1), (2, .int l2), (3, .int l3), (4, .int l4), (5, .int l5)] [] (S, I, L) =
  if l4 = (-100 : Int32) then
 evk zcod none d zc_X12_patches 106 [(0, .ref l0), (1, .int l1), (2, .int l2), (3, .int l3), (5, .int l5)] [] (S, I, L)
 else
 if kK S l0 = 12 then
 (if kK S (kR S l0 53) = 20 ∧ zin ((nI 40) + l2) (kN S (kR S l0 53)) then
 (bI (evM zcod d 194 [.int l5, .int (I (kR S l0 53) (zix ((nI 40) + l2)))] (S, I, L)) fun x1 M1 =>
 if M1.1.1 = S.1 then
 (if kK M1.1 l0 = 12 then
 (if kK M1.1 (kR M1.1 l0 53) = 20 ∧ zin ((nI 40) + l2) (kN M1.1 (kR M1.1 l0 53)) then
 (bI (evM zcod d 194 [.int l4, .int (M1.2.1 (kR M1.1 l0 53) (zix ((nI 40) + l2)))] M1) fun x2 M2 =>
 if M2.1.1 = M1.1.1 then
 (if x2 ≤ x1 then
 evk zcod none d zc_X12_patches 110 [(0, .ref l0), (1, .int l1), (2, .int l2), (3, .int l3), (4, .int l4), (5, .int l5)] [] M2
 else
 evk zcod none d zc_X12_patches 106 [(0, .ref l0), (1, .int l1), (2, .int l2), (3, .int l3), (5, .int l5)] [] M2) else none) else none) else none) else none) else none) else none := by
  simpa only [cvN] using R_X12_patches_68 d S I L l0 l1 l2 l3 l4 l5
set_option maxRecDepth 20000 in
set_option maxHeartbeats 4000000 in
theorem B_X12_patches_106 (d : Nat) (S : mS) (I : mI) (L : mJ) (l0 : Nat) (l1 : Int32) (l2 : Int32) (l3 : Int32) (l5 : Int32) :
  evk zcod none d zc_X12_patches 106 [(0, .ref l0), (1, .int l1), (2, .int l2), (3, .int l3), (5, .int l5)] [] (S, I, L) =
  evk zcod none d zc_X12_patches 110 [(0, .ref l0), (1, .int l1), (2, .int l2), (3, .int l3), (4, .int l5), (5, .int l5)] [] (S, I, L) :=
  (blk_ok zcod none d zc_X12_patches [(108, .istore 4, 110, [], none)] (106, .iload 5, 108, [], some [0, 1, 2, 3, 5]) (by decide +kernel) _ _ _).trans rfl
set_option maxRecDepth 20000 in
set_option maxHeartbeats 4000000 in
theorem B_X12_patches_110 (d : Nat) (S : mS) (I : mI) (L : mJ) (l0 : Nat) (l1 : Int32) (l2 : Int32) (l3 : Int32) (l4 : Int32) (l5 : Int32) :
  evk zcod none d zc_X12_patches 110 [(0, .ref l0), (1, .int l1), (2, .int l2), (3, .int l3), (4, .int l4), (5, .int l5)] [] (S, I, L) =
  evk zcod none d zc_X12_patches 42 [(0, .ref l0), (1, .int l1), (2, .int l2), (3, .int l3), (4, .int l4), (5, .int (l5 + (nI 1)))] [] (S, I, L) :=
  (blk_ok zcod none d zc_X12_patches [(113, .goto (-71), 116, [42], none)] (110, .iinc 5 1, 113, [], some [0, 1, 2, 3, 4, 5]) (by decide +kernel) _ _ _).trans rfl
set_option maxRecDepth 20000 in
set_option maxHeartbeats 4000000 in
theorem B_X12_patches_116 (d : Nat) (S : mS) (I : mI) (L : mJ) (l4 : Int32) :
  evk zcod none d zc_X12_patches 116 [(4, .int l4)] [] (S, I, L) =
  some (some (.int l4), (S, I, L)) :=
  (blk_ok zcod none d zc_X12_patches [(118, .ireturn, 119, [0], none)] (116, .iload 4, 118, [], some [4]) (by decide +kernel) _ _ _).trans rfl
theorem E_X12_near (d : Nat) (M : zM) (l0 : Nat) (l1 : Int32) : evM zcod (d + 1) 238 [.ref l0, .int l1] M = evk zcod none d zc_X12_near 0 [(0, .ref l0), (1, .int l1)] [] M := evM_eq zcod d 238 _ M (Nat.le_of_ble_eq_true rfl)
set_option maxRecDepth 20000 in
set_option maxHeartbeats 4000000 in
theorem R_X12_near_0 (d : Nat) (S : mS) (I : mI) (L : mJ) (l0 : Nat) (l1 : Int32) :
  evk zcod none d zc_X12_near 0 [(0, .ref l0), (1, .int l1)] [] (S, I, L) =
  bI (evM zcod d 191 [.int l1, .int (nI 0), .int (nI 19)] (S, I, L)) fun x1 M1 =>
 if M1.1.1 = S.1 then
 (if ¬ x1 = (nI 0) then
 evk zcod none d zc_X12_near 12 [(0, .ref l0), (1, .int l1)] [] M1
 else
 some (some (.int (Int32.ofInt (-1))), M1)) else none :=
  (blk_ok zcod none d zc_X12_near [(1, .iconst 0, 2, [], none), (2, .bipush 19, 4, [], none), (4, .invokestatic 340, 7, [191, 3, 1, 0, 771, 772, 662], none), (7, .ifCond .ne 5, 10, [12], none), (10, .iconst (-1), 11, [], none), (11, .ireturn, 12, [0], none)] (0, .iload_n 1, 1, [], none) (by decide +kernel) _ _ _).trans rfl
theorem B_X12_near_0 (d : Nat) (S : mS) (I : mI) (L : mJ) (l0 : Nat) (l1 : Int32) :
  evk zcod none d zc_X12_near 0 [(0, .ref l0), (1, .int l1)] [] (S, I, L) =
  bI (evM zcod d 191 [.int l1, .int (nI 0), .int (nI 19)] (S, I, L)) fun x1 M1 =>
 if M1.1.1 = S.1 then
 (if ¬ x1 = (nI 0) then
 evk zcod none d zc_X12_near 12 [(0, .ref l0), (1, .int l1)] [] M1
 else
 some (some (.int (-1 : Int32)), M1)) else none := by
  simpa only [cvN] using R_X12_near_0 d S I L l0 l1
set_option maxRecDepth 20000 in
set_option maxHeartbeats 4000000 in
theorem B_X12_near_12 (d : Nat) (S : mS) (I : mI) (L : mJ) (l0 : Nat) (l1 : Int32) :
  evk zcod none d zc_X12_near 12 [(0, .ref l0), (1, .int l1)] [] (S, I, L) =
  if kK S l0 = 12 then
 (bV (evM zcod d 200 [.ref l0] (S, I, L)) fun M1 =>
 if M1.1.1 = S.1 then
 (if kK M1.1 l0 = 12 then
 (bV (evM zcod d 212 [.ref l0] M1) fun M2 =>
 if M2.1.1 = M1.1.1 then
 (if kK M2.1 l0 = 12 then
 (bI (evM zcod d 211 [.ref l0, .int l1] M2) fun x3 M3 =>
 if M3.1.1 = M2.1.1 then
 (some (some (.int x3), M3)) else none) else none) else none) else none) else none) else none :=
  (blk_ok zcod none d zc_X12_near [(13, .invokevirtual 415, 16, [200, 0, 0, 12, 834, 835, 836, 662], none), (16, .aload_n 0, 17, [], none), (17, .invokevirtual 393, 20, [212, 0, 0, 12, 813, 814, 815, 662], none), (20, .aload_n 0, 21, [], none), (21, .iload_n 1, 22, [], none), (22, .invokevirtual 372, 25, [211, 1, 1, 12, 795, 796, 797, 662], none), (25, .ireturn, 26, [0], none)] (12, .aload_n 0, 13, [], some [0, 1]) (by decide +kernel) _ _ _).trans rfl
theorem E_X12_lifts (d : Nat) (M : zM) (l0 : Nat) (l1 : Int32) (l2 : Int32) : evM zcod (d + 1) 239 [.ref l0, .int l1, .int l2] M = evk zcod none d zc_X12_lifts 0 [(0, .ref l0), (1, .int l1), (2, .int l2)] [] M := evM_eq zcod d 239 _ M (Nat.le_of_ble_eq_true rfl)
set_option maxRecDepth 20000 in
set_option maxHeartbeats 4000000 in
theorem B_X12_lifts_0 (d : Nat) (S : mS) (I : mI) (L : mJ) (l0 : Nat) (l1 : Int32) (l2 : Int32) :
  evk zcod none d zc_X12_lifts 0 [(0, .ref l0), (1, .int l1), (2, .int l2)] [] (S, I, L) =
  if kK S l0 = 12 then
 (bI (evM zcod d 196 [.ref l0, .int l1] (S, I, L)) fun x1 M1 =>
 if M1.1.1 = S.1 then
 (if x1 = (nI 0) then
 evk zcod none d zc_X12_lifts 30 [] [] M1
 else
 bI (evM zcod d 191 [.int l2, .int (nI 0), .int (nI 19)] M1) fun x2 M2 =>
 if M2.1.1 = M1.1.1 then
 (if x2 = (nI 0) then
 evk zcod none d zc_X12_lifts 30 [] [] M2
 else
 if kK M2.1 l0 = 12 then
 (if kK M2.1 (kR M2.1 l0 52) = 20 ∧ zin ((nI 35) + l1) (kN M2.1 (kR M2.1 l0 52)) then
 (if (M2.2.1 (kR M2.1 l0 52) (zix ((nI 35) + l1))) < (nI 0) then
 evk zcod none d zc_X12_lifts 32 [(0, .ref l0), (1, .int l1), (2, .int l2)] [] M2
 else
 evk zcod none d zc_X12_lifts 30 [] [] M2) else none) else none) else none) else none) else none :=
  (blk_ok zcod none d zc_X12_lifts [(1, .iload_n 1, 2, [], none), (2, .invokevirtual 409, 5, [196, 1, 1, 12, 828, 829, 830, 662], none), (5, .ifCond .eq 25, 8, [30], none), (8, .iload_n 2, 9, [], none), (9, .iconst 0, 10, [], none), (10, .bipush 19, 12, [], none), (12, .invokestatic 340, 15, [191, 3, 1, 0, 771, 772, 662], none), (15, .ifCond .eq 15, 18, [30], none), (18, .aload_n 0, 19, [], none), (19, .getfield 122, 22, [12, 52, 2, 641, 0], none), (22, .bipush 35, 24, [], none), (24, .iload_n 1, 25, [], none), (25, .iadd, 26, [], none), (26, .iaload, 27, [20], none), (27, .ifCond .lt 5, 30, [32], none)] (0, .aload_n 0, 1, [], none) (by decide +kernel) _ _ _).trans rfl
set_option maxRecDepth 20000 in
set_option maxHeartbeats 4000000 in
theorem R_X12_lifts_30 (d : Nat) (S : mS) (I : mI) (L : mJ)  :
  evk zcod none d zc_X12_lifts 30 [] [] (S, I, L) =
  some (some (.int (Int32.ofInt (-1))), (S, I, L)) :=
  (blk_ok zcod none d zc_X12_lifts [(31, .ireturn, 32, [0], none)] (30, .iconst (-1), 31, [], some []) (by decide +kernel) _ _ _).trans rfl
theorem B_X12_lifts_30 (d : Nat) (S : mS) (I : mI) (L : mJ)  :
  evk zcod none d zc_X12_lifts 30 [] [] (S, I, L) =
  some (some (.int (-1 : Int32)), (S, I, L)) := by
  simpa only [cvN] using R_X12_lifts_30 d S I L 
set_option maxRecDepth 20000 in
set_option maxHeartbeats 4000000 in
theorem B_X12_lifts_32 (d : Nat) (S : mS) (I : mI) (L : mJ) (l0 : Nat) (l1 : Int32) (l2 : Int32) :
  evk zcod none d zc_X12_lifts 32 [(0, .ref l0), (1, .int l1), (2, .int l2)] [] (S, I, L) =
  if kK S l0 = 12 then
 (bV (evM zcod d 200 [.ref l0] (S, I, L)) fun M1 =>
 if M1.1.1 = S.1 then
 (evk zcod none d zc_X12_lifts 39 [(0, .ref l0), (1, .int l1), (2, .int l2), (3, .int (nI 9))] [] M1) else none) else none :=
  (blk_ok zcod none d zc_X12_lifts [(33, .invokevirtual 415, 36, [200, 0, 0, 12, 834, 835, 836, 662], none), (36, .bipush 9, 38, [], none), (38, .istore_n 3, 39, [], none)] (32, .aload_n 0, 33, [], some [0, 1, 2]) (by decide +kernel) _ _ _).trans rfl
set_option maxRecDepth 20000 in
set_option maxHeartbeats 4000000 in
theorem R_X12_lifts_39 (d : Nat) (S : mS) (I : mI) (L : mJ) (l0 : Nat) (l1 : Int32) (l2 : Int32) (l3 : Int32) :
  evk zcod none d zc_X12_lifts 39 [(0, .ref l0), (1, .int l1), (2, .int l2), (3, .int l3)] [] (S, I, L) =
  if l3 < (nI 1) then
 evk zcod none d zc_X12_lifts 104 [] [] (S, I, L)
 else
 if kK S l0 = 12 then
 (if kK S (kR S l0 53) = 20 ∧ zin (nI 55) (kN S (kR S l0 53)) then
 (if kK S l0 = 12 then
 (if kK S l0 = 12 then
 (if kK S (kR S l0 27) = 20 ∧ zin (((nI 5) * (I l0 18)) + l1) (kN S (kR S l0 27)) then
 (if kK S l0 = 12 then
 (if kK S (kR S l0 53) = 20 ∧ zin ((nI 40) + l1) (kN S (kR S l0 53)) then
 (if kK S l0 = 12 then
 (bV (evM zcod d 233 [.ref l0, .int (I (kR S l0 53) (zix (nI 55))), .int (Int32.ofInt (-1)), .int (I (kR S l0 27) (zix (((nI 5) * (I l0 18)) + l1))), .int l3, .int (I (kR S l0 53) (zix ((nI 40) + l1))), .int l2] (S, I, L)) fun M1 =>
 if M1.1.1 = S.1 then
 (if kK M1.1 l0 = 12 then
 (if (M1.2.1 l0 62) = (nI 1) then
 evk zcod none d zc_X12_lifts 96 [(3, .int l3)] [] M1
 else
 if kK M1.1 l0 = 12 then
 (if ¬ (M1.2.1 l0 62) = (nI 2) then
 evk zcod none d zc_X12_lifts 98 [(0, .ref l0), (1, .int l1), (2, .int l2), (3, .int l3)] [] M1
 else
 evk zcod none d zc_X12_lifts 96 [(3, .int l3)] [] M1) else none) else none) else none) else none) else none) else none) else none) else none) else none) else none) else none :=
  (blk_ok zcod none d zc_X12_lifts [(40, .iconst 1, 41, [], none), (41, .if_icmp .lt 63, 44, [104], none), (44, .aload_n 0, 45, [], none), (45, .aload_n 0, 46, [], none), (46, .getfield 125, 49, [12, 53, 2, 642, 0], none), (49, .bipush 55, 51, [], none), (51, .iaload, 52, [20], none), (52, .iconst (-1), 53, [], none), (53, .aload_n 0, 54, [], none), (54, .getfield 58, 57, [12, 27, 2, 619, 0], none), (57, .iconst 5, 58, [], none), (58, .aload_n 0, 59, [], none), (59, .getfield 257, 62, [12, 18, 0, 711, 0], none), (62, .imul, 63, [], none), (63, .iload_n 1, 64, [], none), (64, .iadd, 65, [], none), (65, .iaload, 66, [20], none), (66, .iload_n 3, 67, [], none), (67, .aload_n 0, 68, [], none), (68, .getfield 125, 71, [12, 53, 2, 642, 0], none), (71, .bipush 40, 73, [], none), (73, .iload_n 1, 74, [], none), (74, .iadd, 75, [], none), (75, .iaload, 76, [20], none), (76, .iload_n 2, 77, [], none), (77, .invokevirtual 462, 80, [233, 6, 0, 12, 867, 868, 869, 662], none), (80, .aload_n 0, 81, [], none), (81, .getfield 440, 84, [12, 62, 0, 856, 0], none), (84, .iconst 1, 85, [], none), (85, .if_icmp .eq 11, 88, [96], none), (88, .aload_n 0, 89, [], none), (89, .getfield 440, 92, [12, 62, 0, 856, 0], none), (92, .iconst 2, 93, [], none), (93, .if_icmp .ne 5, 96, [98], none)] (39, .iload_n 3, 40, [], some [0, 1, 2, 3]) (by decide +kernel) _ _ _).trans rfl
theorem B_X12_lifts_39 (d : Nat) (S : mS) (I : mI) (L : mJ) (l0 : Nat) (l1 : Int32) (l2 : Int32) (l3 : Int32) :
  evk zcod none d zc_X12_lifts 39 [(0, .ref l0), (1, .int l1), (2, .int l2), (3, .int l3)] [] (S, I, L) =
  if l3 < (nI 1) then
 evk zcod none d zc_X12_lifts 104 [] [] (S, I, L)
 else
 if kK S l0 = 12 then
 (if kK S (kR S l0 53) = 20 ∧ zin (nI 55) (kN S (kR S l0 53)) then
 (if kK S l0 = 12 then
 (if kK S l0 = 12 then
 (if kK S (kR S l0 27) = 20 ∧ zin (((nI 5) * (I l0 18)) + l1) (kN S (kR S l0 27)) then
 (if kK S l0 = 12 then
 (if kK S (kR S l0 53) = 20 ∧ zin ((nI 40) + l1) (kN S (kR S l0 53)) then
 (if kK S l0 = 12 then
 (bV (evM zcod d 233 [.ref l0, .int (I (kR S l0 53) (zix (nI 55))), .int (-1 : Int32), .int (I (kR S l0 27) (zix (((nI 5) * (I l0 18)) + l1))), .int l3, .int (I (kR S l0 53) (zix ((nI 40) + l1))), .int l2] (S, I, L)) fun M1 =>
 if M1.1.1 = S.1 then
 (if kK M1.1 l0 = 12 then
 (if (M1.2.1 l0 62) = (nI 1) then
 evk zcod none d zc_X12_lifts 96 [(3, .int l3)] [] M1
 else
 if kK M1.1 l0 = 12 then
 (if ¬ (M1.2.1 l0 62) = (nI 2) then
 evk zcod none d zc_X12_lifts 98 [(0, .ref l0), (1, .int l1), (2, .int l2), (3, .int l3)] [] M1
 else
 evk zcod none d zc_X12_lifts 96 [(3, .int l3)] [] M1) else none) else none) else none) else none) else none) else none) else none) else none) else none) else none) else none := by
  simpa only [cvN] using R_X12_lifts_39 d S I L l0 l1 l2 l3
set_option maxRecDepth 20000 in
set_option maxHeartbeats 4000000 in
theorem B_X12_lifts_96 (d : Nat) (S : mS) (I : mI) (L : mJ) (l3 : Int32) :
  evk zcod none d zc_X12_lifts 96 [(3, .int l3)] [] (S, I, L) =
  some (some (.int l3), (S, I, L)) :=
  (blk_ok zcod none d zc_X12_lifts [(97, .ireturn, 98, [0], none)] (96, .iload_n 3, 97, [], some [3]) (by decide +kernel) _ _ _).trans rfl
set_option maxRecDepth 20000 in
set_option maxHeartbeats 4000000 in
theorem R_X12_lifts_98 (d : Nat) (S : mS) (I : mI) (L : mJ) (l0 : Nat) (l1 : Int32) (l2 : Int32) (l3 : Int32) :
  evk zcod none d zc_X12_lifts 98 [(0, .ref l0), (1, .int l1), (2, .int l2), (3, .int l3)] [] (S, I, L) =
  evk zcod none d zc_X12_lifts 39 [(0, .ref l0), (1, .int l1), (2, .int l2), (3, .int (l3 + (Int32.ofInt (-1))))] [] (S, I, L) :=
  (blk_ok zcod none d zc_X12_lifts [(101, .goto (-62), 104, [39], none)] (98, .iinc 3 (-1), 101, [], some [0, 1, 2, 3]) (by decide +kernel) _ _ _).trans rfl
theorem B_X12_lifts_98 (d : Nat) (S : mS) (I : mI) (L : mJ) (l0 : Nat) (l1 : Int32) (l2 : Int32) (l3 : Int32) :
  evk zcod none d zc_X12_lifts 98 [(0, .ref l0), (1, .int l1), (2, .int l2), (3, .int l3)] [] (S, I, L) =
  evk zcod none d zc_X12_lifts 39 [(0, .ref l0), (1, .int l1), (2, .int l2), (3, .int (l3 + (-1 : Int32)))] [] (S, I, L) := by
  simpa only [cvN] using R_X12_lifts_98 d S I L l0 l1 l2 l3
set_option maxRecDepth 20000 in
set_option maxHeartbeats 4000000 in
theorem R_X12_lifts_104 (d : Nat) (S : mS) (I : mI) (L : mJ)  :
  evk zcod none d zc_X12_lifts 104 [] [] (S, I, L) =
  some (some (.int ((Int8.ofInt (-2)).toInt32)), (S, I, L)) :=
  (blk_ok zcod none d zc_X12_lifts [(106, .ireturn, 107, [0], none)] (104, .bipush (-2), 106, [], some []) (by decide +kernel) _ _ _).trans rfl
theorem B_X12_lifts_104 (d : Nat) (S : mS) (I : mI) (L : mJ)  :
  evk zcod none d zc_X12_lifts 104 [] [] (S, I, L) =
  some (some (.int (-2 : Int32)), (S, I, L)) := by
  simpa only [cvN] using R_X12_lifts_104 d S I L 
theorem E_X12_sixes (d : Nat) (M : zM) (l0 : Int32) : evM zcod (d + 1) 240 [.int l0] M = evk zcod none d zc_X12_sixes 0 [(0, .int l0)] [] M := evM_eq zcod d 240 _ M (Nat.le_of_ble_eq_true rfl)
set_option maxRecDepth 20000 in
set_option maxHeartbeats 4000000 in
theorem B_X12_sixes_0 (d : Nat) (S : mS) (I : mI) (L : mJ) (l0 : Int32) :
  evk zcod none d zc_X12_sixes 0 [(0, .int l0)] [] (S, I, L) =
  evk zcod none d zc_X12_sixes 4 [(0, .int l0), (1, .int (nI 1)), (2, .int (nI 0))] [] (S, I, L) :=
  (blk_ok zcod none d zc_X12_sixes [(1, .istore_n 1, 2, [], none), (2, .iconst 0, 3, [], none), (3, .istore_n 2, 4, [], none)] (0, .iconst 1, 1, [], none) (by decide +kernel) _ _ _).trans rfl
set_option maxRecDepth 20000 in
set_option maxHeartbeats 4000000 in
theorem B_X12_sixes_4 (d : Nat) (S : mS) (I : mI) (L : mJ) (l0 : Int32) (l1 : Int32) (l2 : Int32) :
  evk zcod none d zc_X12_sixes 4 [(0, .int l0), (1, .int l1), (2, .int l2)] [] (S, I, L) =
  if l0 ≤ l2 then
 evk zcod none d zc_X12_sixes 20 [(1, .int l1)] [] (S, I, L)
 else
 evk zcod none d zc_X12_sixes 4 [(0, .int l0), (1, .int (l1 * (nI 6))), (2, .int (l2 + (nI 1)))] [] (S, I, L) :=
  (blk_ok zcod none d zc_X12_sixes [(5, .iload_n 0, 6, [], none), (6, .if_icmp .ge 14, 9, [20], none), (9, .iload_n 1, 10, [], none), (10, .bipush 6, 12, [], none), (12, .imul, 13, [], none), (13, .istore_n 1, 14, [], none), (14, .iinc 2 1, 17, [], none), (17, .goto (-13), 20, [4], none)] (4, .iload_n 2, 5, [], some [0, 1, 2]) (by decide +kernel) _ _ _).trans rfl
set_option maxRecDepth 20000 in
set_option maxHeartbeats 4000000 in
theorem B_X12_sixes_20 (d : Nat) (S : mS) (I : mI) (L : mJ) (l1 : Int32) :
  evk zcod none d zc_X12_sixes 20 [(1, .int l1)] [] (S, I, L) =
  some (some (.int l1), (S, I, L)) :=
  (blk_ok zcod none d zc_X12_sixes [(21, .ireturn, 22, [0], none)] (20, .iload_n 1, 21, [], some [1]) (by decide +kernel) _ _ _).trans rfl
theorem E_X12_fillsBrings (d : Nat) (M : zM) (l0 : Nat) : evM zcod (d + 1) 241 [.ref l0] M = evk zcod none d zc_X12_fillsBrings 0 [(0, .ref l0)] [] M := evM_eq zcod d 241 _ M (Nat.le_of_ble_eq_true rfl)
set_option maxRecDepth 20000 in
set_option maxHeartbeats 4000000 in
theorem B_X12_fillsBrings_0 (d : Nat) (S : mS) (I : mI) (L : mJ) (l0 : Nat) :
  evk zcod none d zc_X12_fillsBrings 0 [(0, .ref l0)] [] (S, I, L) =
  if kK S l0 = 12 then
 (bV (evM zcod d 200 [.ref l0] (S, I, L)) fun M1 =>
 if M1.1.1 = S.1 then
 (if kK M1.1 l0 = 12 then
 (evk zcod none d zc_X12_fillsBrings 11 [(0, .ref l0), (1, .int (nI 0))] [] (M1.1, (uI M1.2.1 l0 68 (nI 0)), M1.2.2)) else none) else none) else none :=
  (blk_ok zcod none d zc_X12_fillsBrings [(1, .invokevirtual 415, 4, [200, 0, 0, 12, 834, 835, 836, 662], none), (4, .aload_n 0, 5, [], none), (5, .iconst 0, 6, [], none), (6, .putfield 470, 9, [12, 68, 0, 873, 0, 0], none), (9, .iconst 0, 10, [], none), (10, .istore_n 1, 11, [], none)] (0, .aload_n 0, 1, [], none) (by decide +kernel) _ _ _).trans rfl
set_option maxRecDepth 20000 in
set_option maxHeartbeats 4000000 in
theorem B_X12_fillsBrings_11 (d : Nat) (S : mS) (I : mI) (L : mJ) (l0 : Nat) (l1 : Int32) :
  evk zcod none d zc_X12_fillsBrings 11 [(0, .ref l0), (1, .int l1)] [] (S, I, L) =
  if kK S l0 = 12 then
 (if kK S l0 = 12 then
 (if kK S (kR S l0 22) = 20 ∧ zin (I l0 18) (kN S (kR S l0 22)) then
 (if (I (kR S l0 22) (zix (I l0 18))) ≤ l1 then
 evk zcod none d zc_X12_fillsBrings 245 [] [] (S, I, L)
 else
 if kK S l0 = 12 then
 (if kK S (kR S l0 53) = 20 ∧ zin ((nI 7) + l1) (kN S (kR S l0 53)) then
 (if (I (kR S l0 53) (zix ((nI 7) + l1))) = (nI 0) then
 evk zcod none d zc_X12_fillsBrings 39 [(0, .ref l0), (1, .int l1)] [] (S, I, L)
 else
 evk zcod none d zc_X12_fillsBrings 239 [(0, .ref l0), (1, .int l1)] [] (S, I, L)) else none) else none) else none) else none) else none :=
  (blk_ok zcod none d zc_X12_fillsBrings [(12, .aload_n 0, 13, [], none), (13, .getfield 43, 16, [12, 22, 2, 614, 0], none), (16, .aload_n 0, 17, [], none), (17, .getfield 257, 20, [12, 18, 0, 711, 0], none), (20, .iaload, 21, [20], none), (21, .if_icmp .ge 224, 24, [245], none), (24, .aload_n 0, 25, [], none), (25, .getfield 125, 28, [12, 53, 2, 642, 0], none), (28, .bipush 7, 30, [], none), (30, .iload_n 1, 31, [], none), (31, .iadd, 32, [], none), (32, .iaload, 33, [20], none), (33, .ifCond .eq 6, 36, [39], none), (36, .goto 203, 39, [239], none)] (11, .iload_n 1, 12, [], some [0, 1]) (by decide +kernel) _ _ _).trans rfl
set_option maxRecDepth 20000 in
set_option maxHeartbeats 4000000 in
theorem B_X12_fillsBrings_39 (d : Nat) (S : mS) (I : mI) (L : mJ) (l0 : Nat) (l1 : Int32) :
  evk zcod none d zc_X12_fillsBrings 39 [(0, .ref l0), (1, .int l1)] [] (S, I, L) =
  evk zcod none d zc_X12_fillsBrings 41 [(0, .ref l0), (1, .int l1), (2, .int (nI 0))] [] (S, I, L) :=
  (blk_ok zcod none d zc_X12_fillsBrings [(40, .istore_n 2, 41, [], none)] (39, .iconst 0, 40, [], some [0, 1]) (by decide +kernel) _ _ _).trans rfl
set_option maxRecDepth 20000 in
set_option maxHeartbeats 4000000 in
theorem B_X12_fillsBrings_41 (d : Nat) (S : mS) (I : mI) (L : mJ) (l0 : Nat) (l1 : Int32) (l2 : Int32) :
  evk zcod none d zc_X12_fillsBrings 41 [(0, .ref l0), (1, .int l1), (2, .int l2)] [] (S, I, L) =
  if (nI 6) ≤ l2 then
 evk zcod none d zc_X12_fillsBrings 219 [(0, .ref l0), (1, .int l1)] [] (S, I, L)
 else
 if kK S l0 = 12 then
 (if kK S l0 = 12 then
 (if ¬ l2 = (nI 5) then
 evk zcod none d zc_X12_fillsBrings 69 [(0, .ref l0), (1, .int l1), (2, .int l2)] [.int (((nI 6) * (I l0 68)) + l2), .ref (kR S l0 70)] (S, I, L)
 else
 evk zcod none d zc_X12_fillsBrings 70 [(0, .ref l0), (1, .int l1), (2, .int l2)] [.int (nI 1), .int (((nI 6) * (I l0 68)) + l2), .ref (kR S l0 70)] (S, I, L)) else none) else none :=
  (blk_ok zcod none d zc_X12_fillsBrings [(42, .bipush 6, 44, [], none), (44, .if_icmp .ge 175, 47, [219], none), (47, .aload_n 0, 48, [], none), (48, .getfield 149, 51, [12, 70, 2, 650, 0], none), (51, .bipush 6, 53, [], none), (53, .aload_n 0, 54, [], none), (54, .getfield 470, 57, [12, 68, 0, 873, 0], none), (57, .imul, 58, [], none), (58, .iload_n 2, 59, [], none), (59, .iadd, 60, [], none), (60, .iload_n 2, 61, [], none), (61, .iconst 5, 62, [], none), (62, .if_icmp .ne 7, 65, [69], none), (65, .iconst 1, 66, [], none), (66, .goto 4, 69, [70], none)] (41, .iload_n 2, 42, [], some [0, 1, 2]) (by decide +kernel) _ _ _).trans rfl
set_option maxRecDepth 20000 in
set_option maxHeartbeats 4000000 in
theorem B_X12_fillsBrings_69 (d : Nat) (S : mS) (I : mI) (L : mJ) (l0 : Nat) (l1 : Int32) (l2 : Int32) (s0 : Nat) (s1 : Int32) :
  evk zcod none d zc_X12_fillsBrings 69 [(0, .ref l0), (1, .int l1), (2, .int l2)] [.int s1, .ref s0] (S, I, L) =
  evk zcod none d zc_X12_fillsBrings 70 [(0, .ref l0), (1, .int l1), (2, .int l2)] [.int (nI 0), .int s1, .ref s0] (S, I, L) :=
  (blk_ok zcod none d zc_X12_fillsBrings [] (69, .iconst 0, 70, [], some [0, 1, 2]) (by decide +kernel) _ _ _).trans rfl
set_option maxRecDepth 20000 in
set_option maxHeartbeats 4000000 in
theorem B_X12_fillsBrings_70 (d : Nat) (S : mS) (I : mI) (L : mJ) (l0 : Nat) (l1 : Int32) (l2 : Int32) (s0 : Nat) (s1 : Int32) (s2 : Int32) :
  evk zcod none d zc_X12_fillsBrings 70 [(0, .ref l0), (1, .int l1), (2, .int l2)] [.int s2, .int s1, .ref s0] (S, I, L) =
  if kK S s0 = 22 ∧ zin s1 (kN S s0) then
 (if kK S l0 = 12 then
 (if kK S l0 = 12 then
 (if kK S (kR S l0 69) = 20 ∧ zin (((nI 6) * ((uI I s0 (zix s1) (s2 &&& nI 1)) l0 68)) + l2) (kN S (kR S l0 69)) then
 (if kK S l0 = 12 then
 (bI (evM zcod d 196 [.ref l0, .int l2] (S, (uI (uI I s0 (zix s1) (s2 &&& nI 1)) (kR S l0 69) (zix (((nI 6) * ((uI I s0 (zix s1) (s2 &&& nI 1)) l0 68)) + l2)) (nI 0)), L)) fun x1 M1 =>
 if M1.1.1 = S.1 then
 (if x1 = (nI 0) then
 evk zcod none d zc_X12_fillsBrings 213 [(0, .ref l0), (1, .int l1), (2, .int l2)] [] M1
 else
 if kK M1.1 l0 = 12 then
 (if kK M1.1 (kR M1.1 l0 53) = 20 ∧ zin ((nI 35) + l2) (kN M1.1 (kR M1.1 l0 53)) then
 (if (M1.2.1 (kR M1.1 l0 53) (zix ((nI 35) + l2))) < (nI 0) then
 evk zcod none d zc_X12_fillsBrings 109 [(0, .ref l0), (1, .int l1), (2, .int l2)] [] M1
 else
 evk zcod none d zc_X12_fillsBrings 213 [(0, .ref l0), (1, .int l1), (2, .int l2)] [] M1) else none) else none) else none) else none) else none) else none) else none) else none :=
  (blk_ok zcod none d zc_X12_fillsBrings [(71, .aload_n 0, 72, [], none), (72, .getfield 146, 75, [12, 69, 2, 649, 0], none), (75, .bipush 6, 77, [], none), (77, .aload_n 0, 78, [], none), (78, .getfield 470, 81, [12, 68, 0, 873, 0], none), (81, .imul, 82, [], none), (82, .iload_n 2, 83, [], none), (83, .iadd, 84, [], none), (84, .iconst 0, 85, [], none), (85, .iastore, 86, [20], none), (86, .aload_n 0, 87, [], none), (87, .iload_n 2, 88, [], none), (88, .invokevirtual 409, 91, [196, 1, 1, 12, 828, 829, 830, 662], none), (91, .ifCond .eq 122, 94, [213], none), (94, .aload_n 0, 95, [], none), (95, .getfield 125, 98, [12, 53, 2, 642, 0], none), (98, .bipush 35, 100, [], none), (100, .iload_n 2, 101, [], none), (101, .iadd, 102, [], none), (102, .iaload, 103, [20], none), (103, .ifCond .lt 6, 106, [109], none), (106, .goto 107, 109, [213], none)] (70, .bastore, 71, [22], some [0, 1, 2]) (by decide +kernel) _ _ _).trans rfl
set_option maxRecDepth 20000 in
set_option maxHeartbeats 4000000 in
theorem B_X12_fillsBrings_109 (d : Nat) (S : mS) (I : mI) (L : mJ) (l0 : Nat) (l1 : Int32) (l2 : Int32) :
  evk zcod none d zc_X12_fillsBrings 109 [(0, .ref l0), (1, .int l1), (2, .int l2)] [] (S, I, L) =
  if kK S l0 = 12 then
 (if kK S (kR S l0 53) = 20 ∧ zin ((nI 40) + l2) (kN S (kR S l0 53)) then
 (if kK S l0 = 12 then
 (bV (evM zcod d 234 [.ref l0, .int l1, .int l2, .int (nI 0), .int (I (kR S l0 53) (zix ((nI 40) + l2)))] (S, I, L)) fun M1 =>
 if M1.1.1 = S.1 then
 (if kK M1.1 l0 = 12 then
 (if kK M1.1 l0 = 12 then
 (if kK M1.1 l0 = 12 then
 (if ¬ (M1.2.1 l0 62) = (nI 1) then
 evk zcod none d zc_X12_fillsBrings 150 [(0, .ref l0), (1, .int l1), (2, .int l2)] [.int (((nI 6) * (M1.2.1 l0 68)) + l2), .ref (kR M1.1 l0 70)] M1
 else
 evk zcod none d zc_X12_fillsBrings 151 [(0, .ref l0), (1, .int l1), (2, .int l2)] [.int (nI 1), .int (((nI 6) * (M1.2.1 l0 68)) + l2), .ref (kR M1.1 l0 70)] M1) else none) else none) else none) else none) else none) else none) else none :=
  (blk_ok zcod none d zc_X12_fillsBrings [(110, .iload_n 1, 111, [], none), (111, .iload_n 2, 112, [], none), (112, .iconst 0, 113, [], none), (113, .aload_n 0, 114, [], none), (114, .getfield 125, 117, [12, 53, 2, 642, 0], none), (117, .bipush 40, 119, [], none), (119, .iload_n 2, 120, [], none), (120, .iadd, 121, [], none), (121, .iaload, 122, [20], none), (122, .invokevirtual 466, 125, [234, 4, 0, 12, 870, 871, 872, 662], none), (125, .aload_n 0, 126, [], none), (126, .getfield 149, 129, [12, 70, 2, 650, 0], none), (129, .bipush 6, 131, [], none), (131, .aload_n 0, 132, [], none), (132, .getfield 470, 135, [12, 68, 0, 873, 0], none), (135, .imul, 136, [], none), (136, .iload_n 2, 137, [], none), (137, .iadd, 138, [], none), (138, .aload_n 0, 139, [], none), (139, .getfield 440, 142, [12, 62, 0, 856, 0], none), (142, .iconst 1, 143, [], none), (143, .if_icmp .ne 7, 146, [150], none), (146, .iconst 1, 147, [], none), (147, .goto 4, 150, [151], none)] (109, .aload_n 0, 110, [], some [0, 1, 2]) (by decide +kernel) _ _ _).trans rfl
set_option maxRecDepth 20000 in
set_option maxHeartbeats 4000000 in
theorem B_X12_fillsBrings_150 (d : Nat) (S : mS) (I : mI) (L : mJ) (l0 : Nat) (l1 : Int32) (l2 : Int32) (s0 : Nat) (s1 : Int32) :
  evk zcod none d zc_X12_fillsBrings 150 [(0, .ref l0), (1, .int l1), (2, .int l2)] [.int s1, .ref s0] (S, I, L) =
  evk zcod none d zc_X12_fillsBrings 151 [(0, .ref l0), (1, .int l1), (2, .int l2)] [.int (nI 0), .int s1, .ref s0] (S, I, L) :=
  (blk_ok zcod none d zc_X12_fillsBrings [] (150, .iconst 0, 151, [], some [0, 1, 2]) (by decide +kernel) _ _ _).trans rfl
set_option maxRecDepth 20000 in
set_option maxHeartbeats 4000000 in
theorem B_X12_fillsBrings_151 (d : Nat) (S : mS) (I : mI) (L : mJ) (l0 : Nat) (l1 : Int32) (l2 : Int32) (s0 : Nat) (s1 : Int32) (s2 : Int32) :
  evk zcod none d zc_X12_fillsBrings 151 [(0, .ref l0), (1, .int l1), (2, .int l2)] [.int s2, .int s1, .ref s0] (S, I, L) =
  if kK S s0 = 22 ∧ zin s1 (kN S s0) then
 (if kK S l0 = 12 then
 (if kK S l0 = 12 then
 (if kK S l0 = 12 then
 (if kK S l0 = 12 then
 (if kK S (kR S l0 53) = 20 ∧ zin (nI 55) (kN S (kR S l0 53)) then
 (if kK S l0 = 12 then
 (bI (evM zcod d 204 [.ref l0] (S, (uI I s0 (zix s1) (s2 &&& nI 1)), L)) fun x1 M1 =>
 if M1.1.1 = S.1 then
 (if kK M1.1 l0 = 12 then
 (if kK M1.1 l0 = 12 then
 (if kK M1.1 (kR M1.1 l0 27) = 20 ∧ zin (((nI 5) * (M1.2.1 l0 18)) + l2) (kN M1.1 (kR M1.1 l0 27)) then
 (if kK M1.1 l0 = 12 then
 (if kK M1.1 l0 = 12 then
 (if kK M1.1 (kR M1.1 l0 24) = 20 ∧ zin (((nI 7) * (M1.2.1 l0 18)) + l1) (kN M1.1 (kR M1.1 l0 24)) then
 (if kK M1.1 l0 = 12 then
 (bI (evM zcod d 209 [.ref l0, .int ((uI I s0 (zix s1) (s2 &&& nI 1)) (kR S l0 53) (zix (nI 55))), .int x1, .int (M1.2.1 (kR M1.1 l0 27) (zix (((nI 5) * (M1.2.1 l0 18)) + l2))), .int (M1.2.1 (kR M1.1 l0 24) (zix (((nI 7) * (M1.2.1 l0 18)) + l1)))] M1) fun x2 M2 =>
 if M2.1.1 = M1.1.1 then
 (if kK M2.1 (kR S l0 69) = 20 ∧ zin (((nI 6) * ((uI I s0 (zix s1) (s2 &&& nI 1)) l0 68)) + l2) (kN M2.1 (kR S l0 69)) then
 (evk zcod none d zc_X12_fillsBrings 213 [(0, .ref l0), (1, .int l1), (2, .int l2)] [] (M2.1, (uI M2.2.1 (kR S l0 69) (zix (((nI 6) * ((uI I s0 (zix s1) (s2 &&& nI 1)) l0 68)) + l2)) (((uI I s0 (zix s1) (s2 &&& nI 1)) l0 66) - x2)), M2.2.2)) else none) else none) else none) else none) else none) else none) else none) else none) else none) else none) else none) else none) else none) else none) else none) else none) else none :=
  (blk_ok zcod none d zc_X12_fillsBrings [(152, .aload_n 0, 153, [], none), (153, .getfield 146, 156, [12, 69, 2, 649, 0], none), (156, .bipush 6, 158, [], none), (158, .aload_n 0, 159, [], none), (159, .getfield 470, 162, [12, 68, 0, 873, 0], none), (162, .imul, 163, [], none), (163, .iload_n 2, 164, [], none), (164, .iadd, 165, [], none), (165, .aload_n 0, 166, [], none), (166, .getfield 452, 169, [12, 66, 0, 860, 0], none), (169, .aload_n 0, 170, [], none), (170, .aload_n 0, 171, [], none), (171, .getfield 125, 174, [12, 53, 2, 642, 0], none), (174, .bipush 55, 176, [], none), (176, .iaload, 177, [20], none), (177, .aload_n 0, 178, [], none), (178, .invokevirtual 418, 181, [204, 0, 1, 12, 837, 838, 839, 662], none), (181, .aload_n 0, 182, [], none), (182, .getfield 58, 185, [12, 27, 2, 619, 0], none), (185, .iconst 5, 186, [], none), (186, .aload_n 0, 187, [], none), (187, .getfield 257, 190, [12, 18, 0, 711, 0], none), (190, .imul, 191, [], none), (191, .iload_n 2, 192, [], none), (192, .iadd, 193, [], none), (193, .iaload, 194, [20], none), (194, .aload_n 0, 195, [], none), (195, .getfield 49, 198, [12, 24, 2, 616, 0], none), (198, .bipush 7, 200, [], none), (200, .aload_n 0, 201, [], none), (201, .getfield 257, 204, [12, 18, 0, 711, 0], none), (204, .imul, 205, [], none), (205, .iload_n 1, 206, [], none), (206, .iadd, 207, [], none), (207, .iaload, 208, [20], none), (208, .invokevirtual 421, 211, [209, 4, 1, 12, 840, 841, 842, 662], none), (211, .isub, 212, [], none), (212, .iastore, 213, [20], none)] (151, .bastore, 152, [22], some [0, 1, 2]) (by decide +kernel) _ _ _).trans rfl
set_option maxRecDepth 20000 in
set_option maxHeartbeats 4000000 in
theorem B_X12_fillsBrings_213 (d : Nat) (S : mS) (I : mI) (L : mJ) (l0 : Nat) (l1 : Int32) (l2 : Int32) :
  evk zcod none d zc_X12_fillsBrings 213 [(0, .ref l0), (1, .int l1), (2, .int l2)] [] (S, I, L) =
  evk zcod none d zc_X12_fillsBrings 41 [(0, .ref l0), (1, .int l1), (2, .int (l2 + (nI 1)))] [] (S, I, L) :=
  (blk_ok zcod none d zc_X12_fillsBrings [(216, .goto (-175), 219, [41], none)] (213, .iinc 2 1, 216, [], some [0, 1, 2]) (by decide +kernel) _ _ _).trans rfl
set_option maxRecDepth 20000 in
set_option maxHeartbeats 4000000 in
theorem B_X12_fillsBrings_219 (d : Nat) (S : mS) (I : mI) (L : mJ) (l0 : Nat) (l1 : Int32) :
  evk zcod none d zc_X12_fillsBrings 219 [(0, .ref l0), (1, .int l1)] [] (S, I, L) =
  if kK S l0 = 12 then
 (if kK S l0 = 12 then
 (if kK S (kR S l0 67) = 20 ∧ zin (I l0 68) (kN S (kR S l0 67)) then
 (if kK S l0 = 12 then
 (if kK S l0 = 12 then
 (evk zcod none d zc_X12_fillsBrings 239 [(0, .ref l0), (1, .int l1)] [] (S, (uI (uI I (kR S l0 67) (zix (I l0 68)) l1) l0 68 (((uI I (kR S l0 67) (zix (I l0 68)) l1) l0 68) + (nI 1))), L)) else none) else none) else none) else none) else none :=
  (blk_ok zcod none d zc_X12_fillsBrings [(220, .getfield 143, 223, [12, 67, 2, 648, 0], none), (223, .aload_n 0, 224, [], none), (224, .getfield 470, 227, [12, 68, 0, 873, 0], none), (227, .iload_n 1, 228, [], none), (228, .iastore, 229, [20], none), (229, .aload_n 0, 230, [], none), (230, .dup, 231, [], none), (231, .getfield 470, 234, [12, 68, 0, 873, 0], none), (234, .iconst 1, 235, [], none), (235, .iadd, 236, [], none), (236, .putfield 470, 239, [12, 68, 0, 873, 0, 0], none)] (219, .aload_n 0, 220, [], some [0, 1]) (by decide +kernel) _ _ _).trans rfl
set_option maxRecDepth 20000 in
set_option maxHeartbeats 4000000 in
theorem B_X12_fillsBrings_239 (d : Nat) (S : mS) (I : mI) (L : mJ) (l0 : Nat) (l1 : Int32) :
  evk zcod none d zc_X12_fillsBrings 239 [(0, .ref l0), (1, .int l1)] [] (S, I, L) =
  evk zcod none d zc_X12_fillsBrings 11 [(0, .ref l0), (1, .int (l1 + (nI 1)))] [] (S, I, L) :=
  (blk_ok zcod none d zc_X12_fillsBrings [(242, .goto (-231), 245, [11], none)] (239, .iinc 1 1, 242, [], some [0, 1]) (by decide +kernel) _ _ _).trans rfl
set_option maxRecDepth 20000 in
set_option maxHeartbeats 4000000 in
theorem B_X12_fillsBrings_245 (d : Nat) (S : mS) (I : mI) (L : mJ)  :
  evk zcod none d zc_X12_fillsBrings 245 [] [] (S, I, L) =
  some (none, (S, I, L)) :=
  (blk_ok zcod none d zc_X12_fillsBrings [] (245, .return_, 246, [], some []) (by decide +kernel) _ _ _).trans rfl
theorem E_X12_isWay (d : Nat) (M : zM) (l0 : Nat) (l1 : Int32) : evM zcod (d + 1) 242 [.ref l0, .int l1] M = evk zcod none d zc_X12_isWay 0 [(0, .ref l0), (1, .int l1)] [] M := evM_eq zcod d 242 _ M (Nat.le_of_ble_eq_true rfl)
set_option maxRecDepth 20000 in
set_option maxHeartbeats 4000000 in
theorem B_X12_isWay_0 (d : Nat) (S : mS) (I : mI) (L : mJ) (l0 : Nat) (l1 : Int32) :
  evk zcod none d zc_X12_isWay 0 [(0, .ref l0), (1, .int l1)] [] (S, I, L) =
  evk zcod none d zc_X12_isWay 4 [(0, .ref l0), (1, .int l1), (2, .int (nI 0)), (3, .int (nI 0))] [] (S, I, L) :=
  (blk_ok zcod none d zc_X12_isWay [(1, .istore_n 2, 2, [], none), (2, .iconst 0, 3, [], none), (3, .istore_n 3, 4, [], none)] (0, .iconst 0, 1, [], none) (by decide +kernel) _ _ _).trans rfl
set_option maxRecDepth 20000 in
set_option maxHeartbeats 4000000 in
theorem B_X12_isWay_4 (d : Nat) (S : mS) (I : mI) (L : mJ) (l0 : Nat) (l1 : Int32) (l2 : Int32) (l3 : Int32) :
  evk zcod none d zc_X12_isWay 4 [(0, .ref l0), (1, .int l1), (2, .int l2), (3, .int l3)] [] (S, I, L) =
  if kK S l0 = 12 then
 (if (I l0 68) ≤ l3 then
 evk zcod none d zc_X12_isWay 76 [] [] (S, I, L)
 else
 if kK S l0 = 12 then
 (bI (evM zcod d 240 [.int (((I l0 68) - (nI 1)) - l3)] (S, I, L)) fun x1 M1 =>
 if M1.1.1 = S.1 then
 (if x1 = nI 0 then none else
 if (nI 6) = nI 0 then none else
 if kK M1.1 l0 = 12 then
 (if kK M1.1 (kR M1.1 l0 70) = 22 ∧ zin (((nI 6) * l3) + (zrem (l1 / x1) (nI 6))) (kN M1.1 (kR M1.1 l0 70)) then
 (if (M1.2.1 (kR M1.1 l0 70) (zix (((nI 6) * l3) + (zrem (l1 / x1) (nI 6))))) = (nI 0) then
 evk zcod none d zc_X12_isWay 61 [] [] M1
 else
 if (nI 5) ≤ (zrem (l1 / x1) (nI 6)) then
 evk zcod none d zc_X12_isWay 63 [(0, .ref l0), (1, .int l1), (2, .int l2), (3, .int l3), (4, .int (zrem (l1 / x1) (nI 6)))] [] M1
 else
 if ¬ ((l2 >>> ((zrem (l1 / x1) (nI 6)) &&& nI 31)) &&& (nI 1)) = (nI 1) then
 evk zcod none d zc_X12_isWay 63 [(0, .ref l0), (1, .int l1), (2, .int l2), (3, .int l3), (4, .int (zrem (l1 / x1) (nI 6)))] [] M1
 else
 evk zcod none d zc_X12_isWay 61 [] [] M1) else none) else none) else none) else none) else none :=
  (blk_ok zcod none d zc_X12_isWay [(5, .aload_n 0, 6, [], none), (6, .getfield 470, 9, [12, 68, 0, 873, 0], none), (9, .if_icmp .ge 67, 12, [76], none), (12, .iload_n 1, 13, [], none), (13, .aload_n 0, 14, [], none), (14, .getfield 470, 17, [12, 68, 0, 873, 0], none), (17, .iconst 1, 18, [], none), (18, .isub, 19, [], none), (19, .iload_n 3, 20, [], none), (20, .isub, 21, [], none), (21, .invokestatic 473, 24, [240, 1, 1, 0, 874, 875, 662], none), (24, .idiv, 25, [], none), (25, .bipush 6, 27, [], none), (27, .irem, 28, [], none), (28, .istore 4, 30, [], none), (30, .aload_n 0, 31, [], none), (31, .getfield 149, 34, [12, 70, 2, 650, 0], none), (34, .bipush 6, 36, [], none), (36, .iload_n 3, 37, [], none), (37, .imul, 38, [], none), (38, .iload 4, 40, [], none), (40, .iadd, 41, [], none), (41, .baload, 42, [22], none), (42, .ifCond .eq 19, 45, [61], none), (45, .iload 4, 47, [], none), (47, .iconst 5, 48, [], none), (48, .if_icmp .ge 15, 51, [63], none), (51, .iload_n 2, 52, [], none), (52, .iload 4, 54, [], none), (54, .ishr, 55, [], none), (55, .iconst 1, 56, [], none), (56, .iand, 57, [], none), (57, .iconst 1, 58, [], none), (58, .if_icmp .ne 5, 61, [63], none)] (4, .iload_n 3, 5, [], some [0, 1, 2, 3]) (by decide +kernel) _ _ _).trans rfl
set_option maxRecDepth 20000 in
set_option maxHeartbeats 4000000 in
theorem B_X12_isWay_61 (d : Nat) (S : mS) (I : mI) (L : mJ)  :
  evk zcod none d zc_X12_isWay 61 [] [] (S, I, L) =
  some (some (.int (nI 0)), (S, I, L)) :=
  (blk_ok zcod none d zc_X12_isWay [(62, .ireturn, 63, [1], none)] (61, .iconst 0, 62, [], some []) (by decide +kernel) _ _ _).trans rfl
set_option maxRecDepth 20000 in
set_option maxHeartbeats 4000000 in
theorem B_X12_isWay_63 (d : Nat) (S : mS) (I : mI) (L : mJ) (l0 : Nat) (l1 : Int32) (l2 : Int32) (l3 : Int32) (l4 : Int32) :
  evk zcod none d zc_X12_isWay 63 [(0, .ref l0), (1, .int l1), (2, .int l2), (3, .int l3), (4, .int l4)] [] (S, I, L) =
  evk zcod none d zc_X12_isWay 4 [(0, .ref l0), (1, .int l1), (2, .int (l2 ||| ((nI 1) <<< (l4 &&& nI 31)))), (3, .int (l3 + (nI 1)))] [] (S, I, L) :=
  (blk_ok zcod none d zc_X12_isWay [(64, .iconst 1, 65, [], none), (65, .iload 4, 67, [], none), (67, .ishl, 68, [], none), (68, .ior, 69, [], none), (69, .istore_n 2, 70, [], none), (70, .iinc 3 1, 73, [], none), (73, .goto (-69), 76, [4], none)] (63, .iload_n 2, 64, [], some [0, 1, 2, 3, 4]) (by decide +kernel) _ _ _).trans rfl
set_option maxRecDepth 20000 in
set_option maxHeartbeats 4000000 in
theorem B_X12_isWay_76 (d : Nat) (S : mS) (I : mI) (L : mJ)  :
  evk zcod none d zc_X12_isWay 76 [] [] (S, I, L) =
  some (some (.int (nI 1)), (S, I, L)) :=
  (blk_ok zcod none d zc_X12_isWay [(77, .ireturn, 78, [1], none)] (76, .iconst 1, 77, [], some []) (by decide +kernel) _ _ _).trans rfl
theorem E_X12_bringsAll (d : Nat) (M : zM) (l0 : Nat) (l1 : Int32) : evM zcod (d + 1) 243 [.ref l0, .int l1] M = evk zcod none d zc_X12_bringsAll 0 [(0, .ref l0), (1, .int l1)] [] M := evM_eq zcod d 243 _ M (Nat.le_of_ble_eq_true rfl)
set_option maxRecDepth 20000 in
set_option maxHeartbeats 4000000 in
theorem B_X12_bringsAll_0 (d : Nat) (S : mS) (I : mI) (L : mJ) (l0 : Nat) (l1 : Int32) :
  evk zcod none d zc_X12_bringsAll 0 [(0, .ref l0), (1, .int l1)] [] (S, I, L) =
  evk zcod none d zc_X12_bringsAll 4 [(0, .ref l0), (1, .int l1), (2, .int (nI 0)), (3, .int (nI 0))] [] (S, I, L) :=
  (blk_ok zcod none d zc_X12_bringsAll [(1, .istore_n 2, 2, [], none), (2, .iconst 0, 3, [], none), (3, .istore_n 3, 4, [], none)] (0, .iconst 0, 1, [], none) (by decide +kernel) _ _ _).trans rfl
set_option maxRecDepth 20000 in
set_option maxHeartbeats 4000000 in
theorem B_X12_bringsAll_4 (d : Nat) (S : mS) (I : mI) (L : mJ) (l0 : Nat) (l1 : Int32) (l2 : Int32) (l3 : Int32) :
  evk zcod none d zc_X12_bringsAll 4 [(0, .ref l0), (1, .int l1), (2, .int l2), (3, .int l3)] [] (S, I, L) =
  if kK S l0 = 12 then
 (if (I l0 68) ≤ l3 then
 evk zcod none d zc_X12_bringsAll 47 [(2, .int l2)] [] (S, I, L)
 else
 if kK S l0 = 12 then
 (if kK S l0 = 12 then
 (bI (evM zcod d 240 [.int (((I l0 68) - (nI 1)) - l3)] (S, I, L)) fun x1 M1 =>
 if M1.1.1 = S.1 then
 (if x1 = nI 0 then none else
 if (nI 6) = nI 0 then none else
 if kK M1.1 (kR S l0 69) = 20 ∧ zin (((nI 6) * l3) + (zrem (l1 / x1) (nI 6))) (kN M1.1 (kR S l0 69)) then
 (evk zcod none d zc_X12_bringsAll 4 [(0, .ref l0), (1, .int l1), (2, .int (l2 + (M1.2.1 (kR S l0 69) (zix (((nI 6) * l3) + (zrem (l1 / x1) (nI 6))))))), (3, .int (l3 + (nI 1)))] [] M1) else none) else none) else none) else none) else none :=
  (blk_ok zcod none d zc_X12_bringsAll [(5, .aload_n 0, 6, [], none), (6, .getfield 470, 9, [12, 68, 0, 873, 0], none), (9, .if_icmp .ge 38, 12, [47], none), (12, .iload_n 2, 13, [], none), (13, .aload_n 0, 14, [], none), (14, .getfield 146, 17, [12, 69, 2, 649, 0], none), (17, .bipush 6, 19, [], none), (19, .iload_n 3, 20, [], none), (20, .imul, 21, [], none), (21, .iload_n 1, 22, [], none), (22, .aload_n 0, 23, [], none), (23, .getfield 470, 26, [12, 68, 0, 873, 0], none), (26, .iconst 1, 27, [], none), (27, .isub, 28, [], none), (28, .iload_n 3, 29, [], none), (29, .isub, 30, [], none), (30, .invokestatic 473, 33, [240, 1, 1, 0, 874, 875, 662], none), (33, .idiv, 34, [], none), (34, .bipush 6, 36, [], none), (36, .irem, 37, [], none), (37, .iadd, 38, [], none), (38, .iaload, 39, [20], none), (39, .iadd, 40, [], none), (40, .istore_n 2, 41, [], none), (41, .iinc 3 1, 44, [], none), (44, .goto (-40), 47, [4], none)] (4, .iload_n 3, 5, [], some [0, 1, 2, 3]) (by decide +kernel) _ _ _).trans rfl
set_option maxRecDepth 20000 in
set_option maxHeartbeats 4000000 in
theorem B_X12_bringsAll_47 (d : Nat) (S : mS) (I : mI) (L : mJ) (l2 : Int32) :
  evk zcod none d zc_X12_bringsAll 47 [(2, .int l2)] [] (S, I, L) =
  some (some (.int l2), (S, I, L)) :=
  (blk_ok zcod none d zc_X12_bringsAll [(48, .ireturn, 49, [0], none)] (47, .iload_n 2, 48, [], some [2]) (by decide +kernel) _ _ _).trans rfl
theorem E_X12_fill (d : Nat) (M : zM) (l0 : Nat) (l1 : Int32) : evM zcod (d + 1) 244 [.ref l0, .int l1] M = evk zcod none d zc_X12_fill 0 [(0, .ref l0), (1, .int l1)] [] M := evM_eq zcod d 244 _ M (Nat.le_of_ble_eq_true rfl)
set_option maxRecDepth 20000 in
set_option maxHeartbeats 4000000 in
theorem R_X12_fill_0 (d : Nat) (S : mS) (I : mI) (L : mJ) (l0 : Nat) (l1 : Int32) :
  evk zcod none d zc_X12_fill 0 [(0, .ref l0), (1, .int l1)] [] (S, I, L) =
  if l1 = (Int32.ofInt (-1)) then
 evk zcod none d zc_X12_fill 17 [(0, .ref l0), (1, .int l1)] [] (S, I, L)
 else
 if kK S l0 = 12 then
 (bI (evM zcod d 195 [.ref l0, .int l1] (S, I, L)) fun x1 M1 =>
 if M1.1.1 = S.1 then
 (if ¬ x1 = (nI 0) then
 evk zcod none d zc_X12_fill 17 [(0, .ref l0), (1, .int l1)] [] M1
 else
 some (some (.int (Int32.ofNat 4294867296)), M1)) else none) else none :=
  (blk_ok zcod none d zc_X12_fill [(1, .iconst (-1), 2, [], none), (2, .if_icmp .eq 15, 5, [17], none), (5, .aload_n 0, 6, [], none), (6, .iload_n 1, 7, [], none), (7, .invokevirtual 406, 10, [195, 1, 1, 12, 825, 826, 827, 662], none), (10, .ifCond .ne 7, 13, [17], none), (13, .ldc_w 476, 16, [0, 4294867296, 876], none), (16, .ireturn, 17, [0], none)] (0, .iload_n 1, 1, [], none) (by decide +kernel) _ _ _).trans rfl
theorem B_X12_fill_0 (d : Nat) (S : mS) (I : mI) (L : mJ) (l0 : Nat) (l1 : Int32) :
  evk zcod none d zc_X12_fill 0 [(0, .ref l0), (1, .int l1)] [] (S, I, L) =
  if l1 = (-1 : Int32) then
 evk zcod none d zc_X12_fill 17 [(0, .ref l0), (1, .int l1)] [] (S, I, L)
 else
 if kK S l0 = 12 then
 (bI (evM zcod d 195 [.ref l0, .int l1] (S, I, L)) fun x1 M1 =>
 if M1.1.1 = S.1 then
 (if ¬ x1 = (nI 0) then
 evk zcod none d zc_X12_fill 17 [(0, .ref l0), (1, .int l1)] [] M1
 else
 some (some (.int (Int32.ofNat 4294867296)), M1)) else none) else none := by
  simpa only [cvN] using R_X12_fill_0 d S I L l0 l1
set_option maxRecDepth 20000 in
set_option maxHeartbeats 4000000 in
theorem R_X12_fill_17 (d : Nat) (S : mS) (I : mI) (L : mJ) (l0 : Nat) (l1 : Int32) :
  evk zcod none d zc_X12_fill 17 [(0, .ref l0), (1, .int l1)] [] (S, I, L) =
  if kK S l0 = 12 then
 (bV (evM zcod d 241 [.ref l0] (S, I, L)) fun M1 =>
 if M1.1.1 = S.1 then
 (if kK M1.1 l0 = 12 then
 (evk zcod none d zc_X12_fill 28 [(0, .ref l0), (1, .int l1), (2, .int (nI 0))] [] (M1.1, (uI M1.2.1 l0 72 (Int32.ofInt (-1))), M1.2.2)) else none) else none) else none :=
  (blk_ok zcod none d zc_X12_fill [(18, .invokevirtual 477, 21, [241, 0, 0, 12, 877, 878, 879, 662], none), (21, .aload_n 0, 22, [], none), (22, .iconst (-1), 23, [], none), (23, .putfield 480, 26, [12, 72, 0, 880, 0, 0], none), (26, .iconst 0, 27, [], none), (27, .istore_n 2, 28, [], none)] (17, .aload_n 0, 18, [], some [0, 1]) (by decide +kernel) _ _ _).trans rfl
theorem B_X12_fill_17 (d : Nat) (S : mS) (I : mI) (L : mJ) (l0 : Nat) (l1 : Int32) :
  evk zcod none d zc_X12_fill 17 [(0, .ref l0), (1, .int l1)] [] (S, I, L) =
  if kK S l0 = 12 then
 (bV (evM zcod d 241 [.ref l0] (S, I, L)) fun M1 =>
 if M1.1.1 = S.1 then
 (if kK M1.1 l0 = 12 then
 (evk zcod none d zc_X12_fill 28 [(0, .ref l0), (1, .int l1), (2, .int (nI 0))] [] (M1.1, (uI M1.2.1 l0 72 (-1 : Int32)), M1.2.2)) else none) else none) else none := by
  simpa only [cvN] using R_X12_fill_17 d S I L l0 l1
set_option maxRecDepth 20000 in
set_option maxHeartbeats 4000000 in
theorem B_X12_fill_28 (d : Nat) (S : mS) (I : mI) (L : mJ) (l0 : Nat) (l1 : Int32) (l2 : Int32) :
  evk zcod none d zc_X12_fill 28 [(0, .ref l0), (1, .int l1), (2, .int l2)] [] (S, I, L) =
  if kK S l0 = 12 then
 (bI (evM zcod d 240 [.int (I l0 68)] (S, I, L)) fun x1 M1 =>
 if M1.1.1 = S.1 then
 (if x1 ≤ l2 then
 evk zcod none d zc_X12_fill 90 [(0, .ref l0), (1, .int l1)] [] M1
 else
 if kK M1.1 l0 = 12 then
 (bI (evM zcod d 242 [.ref l0, .int l2] M1) fun x2 M2 =>
 if M2.1.1 = M1.1.1 then
 (if ¬ x2 = (nI 0) then
 evk zcod none d zc_X12_fill 50 [(0, .ref l0), (1, .int l1), (2, .int l2)] [] M2
 else
 evk zcod none d zc_X12_fill 84 [(0, .ref l0), (1, .int l1), (2, .int l2)] [] M2) else none) else none) else none) else none :=
  (blk_ok zcod none d zc_X12_fill [(29, .aload_n 0, 30, [], none), (30, .getfield 470, 33, [12, 68, 0, 873, 0], none), (33, .invokestatic 473, 36, [240, 1, 1, 0, 874, 875, 662], none), (36, .if_icmp .ge 54, 39, [90], none), (39, .aload_n 0, 40, [], none), (40, .iload_n 2, 41, [], none), (41, .invokevirtual 483, 44, [242, 1, 1, 12, 881, 882, 883, 662], none), (44, .ifCond .ne 6, 47, [50], none), (47, .goto 37, 50, [84], none)] (28, .iload_n 2, 29, [], some [0, 1, 2]) (by decide +kernel) _ _ _).trans rfl
set_option maxRecDepth 20000 in
set_option maxHeartbeats 4000000 in
theorem B_X12_fill_50 (d : Nat) (S : mS) (I : mI) (L : mJ) (l0 : Nat) (l1 : Int32) (l2 : Int32) :
  evk zcod none d zc_X12_fill 50 [(0, .ref l0), (1, .int l1), (2, .int l2)] [] (S, I, L) =
  if kK S l0 = 12 then
 (bI (evM zcod d 243 [.ref l0, .int l2] (S, I, L)) fun x1 M1 =>
 if M1.1.1 = S.1 then
 (if kK M1.1 l0 = 12 then
 (if (M1.2.1 l0 72) < (nI 0) then
 evk zcod none d zc_X12_fill 74 [(0, .ref l0), (1, .int l1), (2, .int l2), (3, .int x1)] [] M1
 else
 if kK M1.1 l0 = 12 then
 (if (M1.2.1 l0 71) < x1 then
 evk zcod none d zc_X12_fill 74 [(0, .ref l0), (1, .int l1), (2, .int l2), (3, .int x1)] [] M1
 else
 evk zcod none d zc_X12_fill 84 [(0, .ref l0), (1, .int l1), (2, .int l2)] [] M1) else none) else none) else none) else none :=
  (blk_ok zcod none d zc_X12_fill [(51, .iload_n 2, 52, [], none), (52, .invokevirtual 486, 55, [243, 1, 1, 12, 884, 885, 886, 662], none), (55, .istore_n 3, 56, [], none), (56, .aload_n 0, 57, [], none), (57, .getfield 480, 60, [12, 72, 0, 880, 0], none), (60, .ifCond .lt 14, 63, [74], none), (63, .iload_n 3, 64, [], none), (64, .aload_n 0, 65, [], none), (65, .getfield 489, 68, [12, 71, 0, 887, 0], none), (68, .if_icmp .gt 6, 71, [74], none), (71, .goto 13, 74, [84], none)] (50, .aload_n 0, 51, [], some [0, 1, 2]) (by decide +kernel) _ _ _).trans rfl
set_option maxRecDepth 20000 in
set_option maxHeartbeats 4000000 in
theorem B_X12_fill_74 (d : Nat) (S : mS) (I : mI) (L : mJ) (l0 : Nat) (l1 : Int32) (l2 : Int32) (l3 : Int32) :
  evk zcod none d zc_X12_fill 74 [(0, .ref l0), (1, .int l1), (2, .int l2), (3, .int l3)] [] (S, I, L) =
  if kK S l0 = 12 then
 (if kK S l0 = 12 then
 (evk zcod none d zc_X12_fill 84 [(0, .ref l0), (1, .int l1), (2, .int l2)] [] (S, (uI (uI I l0 72 l2) l0 71 l3), L)) else none) else none :=
  (blk_ok zcod none d zc_X12_fill [(75, .iload_n 2, 76, [], none), (76, .putfield 480, 79, [12, 72, 0, 880, 0, 0], none), (79, .aload_n 0, 80, [], none), (80, .iload_n 3, 81, [], none), (81, .putfield 489, 84, [12, 71, 0, 887, 0, 0], none)] (74, .aload_n 0, 75, [], some [0, 1, 2, 3]) (by decide +kernel) _ _ _).trans rfl
set_option maxRecDepth 20000 in
set_option maxHeartbeats 4000000 in
theorem B_X12_fill_84 (d : Nat) (S : mS) (I : mI) (L : mJ) (l0 : Nat) (l1 : Int32) (l2 : Int32) :
  evk zcod none d zc_X12_fill 84 [(0, .ref l0), (1, .int l1), (2, .int l2)] [] (S, I, L) =
  evk zcod none d zc_X12_fill 28 [(0, .ref l0), (1, .int l1), (2, .int (l2 + (nI 1)))] [] (S, I, L) :=
  (blk_ok zcod none d zc_X12_fill [(87, .goto (-59), 90, [28], none)] (84, .iinc 2 1, 87, [], some [0, 1, 2]) (by decide +kernel) _ _ _).trans rfl
set_option maxRecDepth 20000 in
set_option maxHeartbeats 4000000 in
theorem R_X12_fill_90 (d : Nat) (S : mS) (I : mI) (L : mJ) (l0 : Nat) (l1 : Int32) :
  evk zcod none d zc_X12_fill 90 [(0, .ref l0), (1, .int l1)] [] (S, I, L) =
  if ¬ l1 = (Int32.ofInt (-1)) then
 evk zcod none d zc_X12_fill 100 [(0, .ref l0), (1, .int l1)] [] (S, I, L)
 else
 if kK S l0 = 12 then
 (some (some (.int (I l0 71)), (S, I, L))) else none :=
  (blk_ok zcod none d zc_X12_fill [(91, .iconst (-1), 92, [], none), (92, .if_icmp .ne 8, 95, [100], none), (95, .aload_n 0, 96, [], none), (96, .getfield 489, 99, [12, 71, 0, 887, 0], none), (99, .ireturn, 100, [0], none)] (90, .iload_n 1, 91, [], some [0, 1]) (by decide +kernel) _ _ _).trans rfl
theorem B_X12_fill_90 (d : Nat) (S : mS) (I : mI) (L : mJ) (l0 : Nat) (l1 : Int32) :
  evk zcod none d zc_X12_fill 90 [(0, .ref l0), (1, .int l1)] [] (S, I, L) =
  if ¬ l1 = (-1 : Int32) then
 evk zcod none d zc_X12_fill 100 [(0, .ref l0), (1, .int l1)] [] (S, I, L)
 else
 if kK S l0 = 12 then
 (some (some (.int (I l0 71)), (S, I, L))) else none := by
  simpa only [cvN] using R_X12_fill_90 d S I L l0 l1
set_option maxRecDepth 20000 in
set_option maxHeartbeats 4000000 in
theorem B_X12_fill_100 (d : Nat) (S : mS) (I : mI) (L : mJ) (l0 : Nat) (l1 : Int32) :
  evk zcod none d zc_X12_fill 100 [(0, .ref l0), (1, .int l1)] [] (S, I, L) =
  evk zcod none d zc_X12_fill 102 [(0, .ref l0), (1, .int l1), (2, .int (nI 0))] [] (S, I, L) :=
  (blk_ok zcod none d zc_X12_fill [(101, .istore_n 2, 102, [], none)] (100, .iconst 0, 101, [], some [0, 1]) (by decide +kernel) _ _ _).trans rfl
set_option maxRecDepth 20000 in
set_option maxHeartbeats 4000000 in
theorem R_X12_fill_102 (d : Nat) (S : mS) (I : mI) (L : mJ) (l0 : Nat) (l1 : Int32) (l2 : Int32) :
  evk zcod none d zc_X12_fill 102 [(0, .ref l0), (1, .int l1), (2, .int l2)] [] (S, I, L) =
  if kK S l0 = 12 then
 (if (I l0 68) ≤ l2 then
 evk zcod none d zc_X12_fill 158 [] [] (S, I, L)
 else
 if kK S l0 = 12 then
 (if kK S l0 = 12 then
 (bI (evM zcod d 240 [.int (((I l0 68) - (nI 1)) - l2)] (S, I, L)) fun x1 M1 =>
 if M1.1.1 = S.1 then
 (if x1 = nI 0 then none else
 if (nI 6) = nI 0 then none else
 if kK M1.1 l0 = 12 then
 (if kK M1.1 (kR M1.1 l0 67) = 20 ∧ zin l2 (kN M1.1 (kR M1.1 l0 67)) then
 (if ¬ (M1.2.1 (kR M1.1 l0 67) (zix l2)) = l1 then
 evk zcod none d zc_X12_fill 152 [(0, .ref l0), (1, .int l1), (2, .int l2)] [] M1
 else
 if ¬ (zrem ((I l0 72) / x1) (nI 6)) = (nI 5) then
 evk zcod none d zc_X12_fill 150 [(3, .int (zrem ((I l0 72) / x1) (nI 6)))] [] M1
 else
 evk zcod none d zc_X12_fill 151 [] [.int ((Int8.ofInt (-2)).toInt32)] M1) else none) else none) else none) else none) else none) else none :=
  (blk_ok zcod none d zc_X12_fill [(103, .aload_n 0, 104, [], none), (104, .getfield 470, 107, [12, 68, 0, 873, 0], none), (107, .if_icmp .ge 51, 110, [158], none), (110, .aload_n 0, 111, [], none), (111, .getfield 480, 114, [12, 72, 0, 880, 0], none), (114, .aload_n 0, 115, [], none), (115, .getfield 470, 118, [12, 68, 0, 873, 0], none), (118, .iconst 1, 119, [], none), (119, .isub, 120, [], none), (120, .iload_n 2, 121, [], none), (121, .isub, 122, [], none), (122, .invokestatic 473, 125, [240, 1, 1, 0, 874, 875, 662], none), (125, .idiv, 126, [], none), (126, .bipush 6, 128, [], none), (128, .irem, 129, [], none), (129, .istore_n 3, 130, [], none), (130, .aload_n 0, 131, [], none), (131, .getfield 143, 134, [12, 67, 2, 648, 0], none), (134, .iload_n 2, 135, [], none), (135, .iaload, 136, [20], none), (136, .iload_n 1, 137, [], none), (137, .if_icmp .ne 15, 140, [152], none), (140, .iload_n 3, 141, [], none), (141, .iconst 5, 142, [], none), (142, .if_icmp .ne 8, 145, [150], none), (145, .bipush (-2), 147, [], none), (147, .goto 4, 150, [151], none)] (102, .iload_n 2, 103, [], some [0, 1, 2]) (by decide +kernel) _ _ _).trans rfl
theorem B_X12_fill_102 (d : Nat) (S : mS) (I : mI) (L : mJ) (l0 : Nat) (l1 : Int32) (l2 : Int32) :
  evk zcod none d zc_X12_fill 102 [(0, .ref l0), (1, .int l1), (2, .int l2)] [] (S, I, L) =
  if kK S l0 = 12 then
 (if (I l0 68) ≤ l2 then
 evk zcod none d zc_X12_fill 158 [] [] (S, I, L)
 else
 if kK S l0 = 12 then
 (if kK S l0 = 12 then
 (bI (evM zcod d 240 [.int (((I l0 68) - (nI 1)) - l2)] (S, I, L)) fun x1 M1 =>
 if M1.1.1 = S.1 then
 (if x1 = nI 0 then none else
 if (nI 6) = nI 0 then none else
 if kK M1.1 l0 = 12 then
 (if kK M1.1 (kR M1.1 l0 67) = 20 ∧ zin l2 (kN M1.1 (kR M1.1 l0 67)) then
 (if ¬ (M1.2.1 (kR M1.1 l0 67) (zix l2)) = l1 then
 evk zcod none d zc_X12_fill 152 [(0, .ref l0), (1, .int l1), (2, .int l2)] [] M1
 else
 if ¬ (zrem ((I l0 72) / x1) (nI 6)) = (nI 5) then
 evk zcod none d zc_X12_fill 150 [(3, .int (zrem ((I l0 72) / x1) (nI 6)))] [] M1
 else
 evk zcod none d zc_X12_fill 151 [] [.int (-2 : Int32)] M1) else none) else none) else none) else none) else none) else none := by
  simpa only [cvN] using R_X12_fill_102 d S I L l0 l1 l2
set_option maxRecDepth 20000 in
set_option maxHeartbeats 4000000 in
theorem B_X12_fill_150 (d : Nat) (S : mS) (I : mI) (L : mJ) (l3 : Int32) :
  evk zcod none d zc_X12_fill 150 [(3, .int l3)] [] (S, I, L) =
  evk zcod none d zc_X12_fill 151 [] [.int l3] (S, I, L) :=
  (blk_ok zcod none d zc_X12_fill [] (150, .iload_n 3, 151, [], some [3]) (by decide +kernel) _ _ _).trans rfl
set_option maxRecDepth 20000 in
set_option maxHeartbeats 4000000 in
theorem B_X12_fill_151 (d : Nat) (S : mS) (I : mI) (L : mJ) (s0 : Int32) :
  evk zcod none d zc_X12_fill 151 [] [.int s0] (S, I, L) =
  some (some (.int s0), (S, I, L)) :=
  (blk_ok zcod none d zc_X12_fill [] (151, .ireturn, 152, [0], some []) (by decide +kernel) _ _ _).trans rfl
set_option maxRecDepth 20000 in
set_option maxHeartbeats 4000000 in
theorem B_X12_fill_152 (d : Nat) (S : mS) (I : mI) (L : mJ) (l0 : Nat) (l1 : Int32) (l2 : Int32) :
  evk zcod none d zc_X12_fill 152 [(0, .ref l0), (1, .int l1), (2, .int l2)] [] (S, I, L) =
  evk zcod none d zc_X12_fill 102 [(0, .ref l0), (1, .int l1), (2, .int (l2 + (nI 1)))] [] (S, I, L) :=
  (blk_ok zcod none d zc_X12_fill [(155, .goto (-53), 158, [102], none)] (152, .iinc 2 1, 155, [], some [0, 1, 2]) (by decide +kernel) _ _ _).trans rfl
set_option maxRecDepth 20000 in
set_option maxHeartbeats 4000000 in
theorem R_X12_fill_158 (d : Nat) (S : mS) (I : mI) (L : mJ)  :
  evk zcod none d zc_X12_fill 158 [] [] (S, I, L) =
  some (some (.int ((Int8.ofInt (-2)).toInt32)), (S, I, L)) :=
  (blk_ok zcod none d zc_X12_fill [(160, .ireturn, 161, [0], none)] (158, .bipush (-2), 160, [], some []) (by decide +kernel) _ _ _).trans rfl
theorem B_X12_fill_158 (d : Nat) (S : mS) (I : mI) (L : mJ)  :
  evk zcod none d zc_X12_fill 158 [] [] (S, I, L) =
  some (some (.int (-2 : Int32)), (S, I, L)) := by
  simpa only [cvN] using R_X12_fill_158 d S I L 
theorem E_X12_hooksFor (d : Nat) (M : zM) (l0 : Nat) (l1 : Int32) : evM zcod (d + 1) 245 [.ref l0, .int l1] M = evk zcod none d zc_X12_hooksFor 0 [(0, .ref l0), (1, .int l1)] [] M := evM_eq zcod d 245 _ M (Nat.le_of_ble_eq_true rfl)
set_option maxRecDepth 20000 in
set_option maxHeartbeats 4000000 in
theorem B_X12_hooksFor_0 (d : Nat) (S : mS) (I : mI) (L : mJ) (l0 : Nat) (l1 : Int32) :
  evk zcod none d zc_X12_hooksFor 0 [(0, .ref l0), (1, .int l1)] [] (S, I, L) =
  evk zcod none d zc_X12_hooksFor 4 [(0, .ref l0), (1, .int l1), (2, .int (nI 0)), (3, .int (nI 0))] [] (S, I, L) :=
  (blk_ok zcod none d zc_X12_hooksFor [(1, .istore_n 2, 2, [], none), (2, .iconst 0, 3, [], none), (3, .istore_n 3, 4, [], none)] (0, .iconst 0, 1, [], none) (by decide +kernel) _ _ _).trans rfl
set_option maxRecDepth 20000 in
set_option maxHeartbeats 4000000 in
theorem B_X12_hooksFor_4 (d : Nat) (S : mS) (I : mI) (L : mJ) (l0 : Nat) (l1 : Int32) (l2 : Int32) (l3 : Int32) :
  evk zcod none d zc_X12_hooksFor 4 [(0, .ref l0), (1, .int l1), (2, .int l2), (3, .int l3)] [] (S, I, L) =
  if kK S l0 = 12 then
 (if kK S l0 = 12 then
 (if kK S (kR S l0 26) = 20 ∧ zin (I l0 18) (kN S (kR S l0 26)) then
 (if (I (kR S l0 26) (zix (I l0 18))) ≤ l3 then
 evk zcod none d zc_X12_hooksFor 126 [(2, .int l2)] [] (S, I, L)
 else
 if kK S l0 = 12 then
 (if kK S (kR S l0 53) = 20 ∧ zin ((nI 35) + l3) (kN S (kR S l0 53)) then
 (if (I (kR S l0 53) (zix ((nI 35) + l3))) < (nI 0) then
 evk zcod none d zc_X12_hooksFor 32 [(0, .ref l0), (1, .int l1), (2, .int l2), (3, .int l3)] [] (S, I, L)
 else
 evk zcod none d zc_X12_hooksFor 120 [(0, .ref l0), (1, .int l1), (2, .int l2), (3, .int l3)] [] (S, I, L)) else none) else none) else none) else none) else none :=
  (blk_ok zcod none d zc_X12_hooksFor [(5, .aload_n 0, 6, [], none), (6, .getfield 55, 9, [12, 26, 2, 618, 0], none), (9, .aload_n 0, 10, [], none), (10, .getfield 257, 13, [12, 18, 0, 711, 0], none), (13, .iaload, 14, [20], none), (14, .if_icmp .ge 112, 17, [126], none), (17, .aload_n 0, 18, [], none), (18, .getfield 125, 21, [12, 53, 2, 642, 0], none), (21, .bipush 35, 23, [], none), (23, .iload_n 3, 24, [], none), (24, .iadd, 25, [], none), (25, .iaload, 26, [20], none), (26, .ifCond .lt 6, 29, [32], none), (29, .goto 91, 32, [120], none)] (4, .iload_n 3, 5, [], some [0, 1, 2, 3]) (by decide +kernel) _ _ _).trans rfl
set_option maxRecDepth 20000 in
set_option maxHeartbeats 4000000 in
theorem B_X12_hooksFor_32 (d : Nat) (S : mS) (I : mI) (L : mJ) (l0 : Nat) (l1 : Int32) (l2 : Int32) (l3 : Int32) :
  evk zcod none d zc_X12_hooksFor 32 [(0, .ref l0), (1, .int l1), (2, .int l2), (3, .int l3)] [] (S, I, L) =
  if kK S l0 = 12 then
 (if kK S (kR S l0 53) = 20 ∧ zin ((nI 40) + l3) (kN S (kR S l0 53)) then
 (if kK S l0 = 12 then
 (bV (evM zcod d 234 [.ref l0, .int l1, .int l3, .int (nI 0), .int (I (kR S l0 53) (zix ((nI 40) + l3)))] (S, I, L)) fun M1 =>
 if M1.1.1 = S.1 then
 (evk zcod none d zc_X12_hooksFor 51 [(0, .ref l0), (1, .int l1), (2, .int l2), (3, .int l3), (4, .int (nI 0))] [] M1) else none) else none) else none) else none :=
  (blk_ok zcod none d zc_X12_hooksFor [(33, .iload_n 1, 34, [], none), (34, .iload_n 3, 35, [], none), (35, .iconst 0, 36, [], none), (36, .aload_n 0, 37, [], none), (37, .getfield 125, 40, [12, 53, 2, 642, 0], none), (40, .bipush 40, 42, [], none), (42, .iload_n 3, 43, [], none), (43, .iadd, 44, [], none), (44, .iaload, 45, [20], none), (45, .invokevirtual 466, 48, [234, 4, 0, 12, 870, 871, 872, 662], none), (48, .iconst 0, 49, [], none), (49, .istore 4, 51, [], none)] (32, .aload_n 0, 33, [], some [0, 1, 2, 3]) (by decide +kernel) _ _ _).trans rfl
set_option maxRecDepth 20000 in
set_option maxHeartbeats 4000000 in
theorem B_X12_hooksFor_51 (d : Nat) (S : mS) (I : mI) (L : mJ) (l0 : Nat) (l1 : Int32) (l2 : Int32) (l3 : Int32) (l4 : Int32) :
  evk zcod none d zc_X12_hooksFor 51 [(0, .ref l0), (1, .int l1), (2, .int l2), (3, .int l3), (4, .int l4)] [] (S, I, L) =
  if kK S l0 = 12 then
 (if kK S l0 = 12 then
 (if kK S (kR S l0 29) = 20 ∧ zin (I l0 18) (kN S (kR S l0 29)) then
 (if (I (kR S l0 29) (zix (I l0 18))) ≤ l4 then
 evk zcod none d zc_X12_hooksFor 120 [(0, .ref l0), (1, .int l1), (2, .int l2), (3, .int l3)] [] (S, I, L)
 else
 if kK S l0 = 12 then
 (if ¬ (I l0 62) = (nI 1) then
 evk zcod none d zc_X12_hooksFor 120 [(0, .ref l0), (1, .int l1), (2, .int l2), (3, .int l3)] [] (S, I, L)
 else
 if kK S l0 = 12 then
 (if kK S (kR S l0 53) = 20 ∧ zin ((nI 50) + l4) (kN S (kR S l0 53)) then
 (if kK S l0 = 12 then
 (bI (evM zcod d 194 [.int (I (kR S l0 53) (zix ((nI 50) + l4))), .int (I l0 64)] (S, I, L)) fun x1 M1 =>
 if M1.1.1 = S.1 then
 (if kK M1.1 l0 = 12 then
 (if kK M1.1 l0 = 12 then
 (if kK M1.1 (kR M1.1 l0 31) = 20 ∧ zin (((nI 5) * (M1.2.1 l0 18)) + l4) (kN M1.1 (kR M1.1 l0 31)) then
 (if (M1.2.1 (kR M1.1 l0 31) (zix (((nI 5) * (M1.2.1 l0 18)) + l4))) < x1 then
 evk zcod none d zc_X12_hooksFor 114 [(0, .ref l0), (1, .int l1), (2, .int l2), (3, .int l3), (4, .int l4)] [] M1
 else
 evk zcod none d zc_X12_hooksFor 114 [(0, .ref l0), (1, .int l1), (2, .int (l2 ||| ((nI 1) <<< (l4 &&& nI 31)))), (3, .int l3), (4, .int l4)] [] M1) else none) else none) else none) else none) else none) else none) else none) else none) else none) else none) else none :=
  (blk_ok zcod none d zc_X12_hooksFor [(53, .aload_n 0, 54, [], none), (54, .getfield 64, 57, [12, 29, 2, 621, 0], none), (57, .aload_n 0, 58, [], none), (58, .getfield 257, 61, [12, 18, 0, 711, 0], none), (61, .iaload, 62, [20], none), (62, .if_icmp .ge 58, 65, [120], none), (65, .aload_n 0, 66, [], none), (66, .getfield 440, 69, [12, 62, 0, 856, 0], none), (69, .iconst 1, 70, [], none), (70, .if_icmp .ne 50, 73, [120], none), (73, .aload_n 0, 74, [], none), (74, .getfield 125, 77, [12, 53, 2, 642, 0], none), (77, .bipush 50, 79, [], none), (79, .iload 4, 81, [], none), (81, .iadd, 82, [], none), (82, .iaload, 83, [20], none), (83, .aload_n 0, 84, [], none), (84, .getfield 446, 87, [12, 64, 0, 858, 0], none), (87, .invokestatic 369, 90, [194, 2, 1, 0, 793, 794, 662], none), (90, .aload_n 0, 91, [], none), (91, .getfield 70, 94, [12, 31, 2, 623, 0], none), (94, .iconst 5, 95, [], none), (95, .aload_n 0, 96, [], none), (96, .getfield 257, 99, [12, 18, 0, 711, 0], none), (99, .imul, 100, [], none), (100, .iload 4, 102, [], none), (102, .iadd, 103, [], none), (103, .iaload, 104, [20], none), (104, .if_icmp .gt 10, 107, [114], none), (107, .iload_n 2, 108, [], none), (108, .iconst 1, 109, [], none), (109, .iload 4, 111, [], none), (111, .ishl, 112, [], none), (112, .ior, 113, [], none), (113, .istore_n 2, 114, [], none)] (51, .iload 4, 53, [], some [0, 1, 2, 3, 4]) (by decide +kernel) _ _ _).trans rfl
set_option maxRecDepth 20000 in
set_option maxHeartbeats 4000000 in
theorem B_X12_hooksFor_114 (d : Nat) (S : mS) (I : mI) (L : mJ) (l0 : Nat) (l1 : Int32) (l2 : Int32) (l3 : Int32) (l4 : Int32) :
  evk zcod none d zc_X12_hooksFor 114 [(0, .ref l0), (1, .int l1), (2, .int l2), (3, .int l3), (4, .int l4)] [] (S, I, L) =
  evk zcod none d zc_X12_hooksFor 51 [(0, .ref l0), (1, .int l1), (2, .int l2), (3, .int l3), (4, .int (l4 + (nI 1)))] [] (S, I, L) :=
  (blk_ok zcod none d zc_X12_hooksFor [(117, .goto (-66), 120, [51], none)] (114, .iinc 4 1, 117, [], some [0, 1, 2, 3, 4]) (by decide +kernel) _ _ _).trans rfl
set_option maxRecDepth 20000 in
set_option maxHeartbeats 4000000 in
theorem B_X12_hooksFor_120 (d : Nat) (S : mS) (I : mI) (L : mJ) (l0 : Nat) (l1 : Int32) (l2 : Int32) (l3 : Int32) :
  evk zcod none d zc_X12_hooksFor 120 [(0, .ref l0), (1, .int l1), (2, .int l2), (3, .int l3)] [] (S, I, L) =
  evk zcod none d zc_X12_hooksFor 4 [(0, .ref l0), (1, .int l1), (2, .int l2), (3, .int (l3 + (nI 1)))] [] (S, I, L) :=
  (blk_ok zcod none d zc_X12_hooksFor [(123, .goto (-119), 126, [4], none)] (120, .iinc 3 1, 123, [], some [0, 1, 2, 3]) (by decide +kernel) _ _ _).trans rfl
set_option maxRecDepth 20000 in
set_option maxHeartbeats 4000000 in
theorem B_X12_hooksFor_126 (d : Nat) (S : mS) (I : mI) (L : mJ) (l2 : Int32) :
  evk zcod none d zc_X12_hooksFor 126 [(2, .int l2)] [] (S, I, L) =
  some (some (.int l2), (S, I, L)) :=
  (blk_ok zcod none d zc_X12_hooksFor [(127, .ireturn, 128, [0], none)] (126, .iload_n 2, 127, [], some [2]) (by decide +kernel) _ _ _).trans rfl
theorem E_X12_fewest (d : Nat) (M : zM) (l0 : Nat) : evM zcod (d + 1) 246 [.ref l0] M = evk zcod none d zc_X12_fewest 0 [(0, .ref l0)] [] M := evM_eq zcod d 246 _ M (Nat.le_of_ble_eq_true rfl)
set_option maxRecDepth 20000 in
set_option maxHeartbeats 4000000 in
theorem B_X12_fewest_0 (d : Nat) (S : mS) (I : mI) (L : mJ) (l0 : Nat) :
  evk zcod none d zc_X12_fewest 0 [(0, .ref l0)] [] (S, I, L) =
  if kK S l0 = 12 then
 (bV (evM zcod d 200 [.ref l0] (S, I, L)) fun M1 =>
 if M1.1.1 = S.1 then
 (evk zcod none d zc_X12_fewest 6 [(0, .ref l0), (1, .int (nI 0))] [] M1) else none) else none :=
  (blk_ok zcod none d zc_X12_fewest [(1, .invokevirtual 415, 4, [200, 0, 0, 12, 834, 835, 836, 662], none), (4, .iconst 0, 5, [], none), (5, .istore_n 1, 6, [], none)] (0, .aload_n 0, 1, [], none) (by decide +kernel) _ _ _).trans rfl
set_option maxRecDepth 20000 in
set_option maxHeartbeats 4000000 in
theorem B_X12_fewest_6 (d : Nat) (S : mS) (I : mI) (L : mJ) (l0 : Nat) (l1 : Int32) :
  evk zcod none d zc_X12_fewest 6 [(0, .ref l0), (1, .int l1)] [] (S, I, L) =
  if kK S l0 = 12 then
 (if kK S l0 = 12 then
 (if kK S (kR S l0 22) = 20 ∧ zin (I l0 18) (kN S (kR S l0 22)) then
 (if (I (kR S l0 22) (zix (I l0 18))) ≤ l1 then
 evk zcod none d zc_X12_fewest 52 [(0, .ref l0)] [] (S, I, L)
 else
 if kK S l0 = 12 then
 (if kK S l0 = 12 then
 (if kK S (kR S l0 53) = 20 ∧ zin ((nI 7) + l1) (kN S (kR S l0 53)) then
 (if ¬ (I (kR S l0 53) (zix ((nI 7) + l1))) = (nI 0) then
 evk zcod none d zc_X12_fewest 44 [(0, .ref l0), (1, .int l1)] [.int l1, .ref (kR S l0 73)] (S, I, L)
 else
 if kK S l0 = 12 then
 (bI (evM zcod d 245 [.ref l0, .int l1] (S, I, L)) fun x1 M1 =>
 if M1.1.1 = S.1 then
 (evk zcod none d zc_X12_fewest 45 [(0, .ref l0), (1, .int l1)] [.int x1, .int l1, .ref (kR S l0 73)] M1) else none) else none) else none) else none) else none) else none) else none) else none :=
  (blk_ok zcod none d zc_X12_fewest [(7, .aload_n 0, 8, [], none), (8, .getfield 43, 11, [12, 22, 2, 614, 0], none), (11, .aload_n 0, 12, [], none), (12, .getfield 257, 15, [12, 18, 0, 711, 0], none), (15, .iaload, 16, [20], none), (16, .if_icmp .ge 36, 19, [52], none), (19, .aload_n 0, 20, [], none), (20, .getfield 152, 23, [12, 73, 2, 651, 0], none), (23, .iload_n 1, 24, [], none), (24, .aload_n 0, 25, [], none), (25, .getfield 125, 28, [12, 53, 2, 642, 0], none), (28, .bipush 7, 30, [], none), (30, .iload_n 1, 31, [], none), (31, .iadd, 32, [], none), (32, .iaload, 33, [20], none), (33, .ifCond .ne 11, 36, [44], none), (36, .aload_n 0, 37, [], none), (37, .iload_n 1, 38, [], none), (38, .invokevirtual 492, 41, [245, 1, 1, 12, 888, 889, 890, 662], none), (41, .goto 4, 44, [45], none)] (6, .iload_n 1, 7, [], some [0, 1]) (by decide +kernel) _ _ _).trans rfl
set_option maxRecDepth 20000 in
set_option maxHeartbeats 4000000 in
theorem B_X12_fewest_44 (d : Nat) (S : mS) (I : mI) (L : mJ) (l0 : Nat) (l1 : Int32) (s0 : Nat) (s1 : Int32) :
  evk zcod none d zc_X12_fewest 44 [(0, .ref l0), (1, .int l1)] [.int s1, .ref s0] (S, I, L) =
  evk zcod none d zc_X12_fewest 45 [(0, .ref l0), (1, .int l1)] [.int (nI 0), .int s1, .ref s0] (S, I, L) :=
  (blk_ok zcod none d zc_X12_fewest [] (44, .iconst 0, 45, [], some [0, 1]) (by decide +kernel) _ _ _).trans rfl
set_option maxRecDepth 20000 in
set_option maxHeartbeats 4000000 in
theorem B_X12_fewest_45 (d : Nat) (S : mS) (I : mI) (L : mJ) (l0 : Nat) (l1 : Int32) (s0 : Nat) (s1 : Int32) (s2 : Int32) :
  evk zcod none d zc_X12_fewest 45 [(0, .ref l0), (1, .int l1)] [.int s2, .int s1, .ref s0] (S, I, L) =
  if kK S s0 = 20 ∧ zin s1 (kN S s0) then
 (evk zcod none d zc_X12_fewest 6 [(0, .ref l0), (1, .int (l1 + (nI 1)))] [] (S, (uI I s0 (zix s1) s2), L)) else none :=
  (blk_ok zcod none d zc_X12_fewest [(46, .iinc 1 1, 49, [], none), (49, .goto (-43), 52, [6], none)] (45, .iastore, 46, [20], some [0, 1]) (by decide +kernel) _ _ _).trans rfl
set_option maxRecDepth 20000 in
set_option maxHeartbeats 4000000 in
theorem B_X12_fewest_52 (d : Nat) (S : mS) (I : mI) (L : mJ) (l0 : Nat) :
  evk zcod none d zc_X12_fewest 52 [(0, .ref l0)] [] (S, I, L) =
  if kK S l0 = 12 then
 (if kK S l0 = 12 then
 (if kK S (kR S l0 29) = 20 ∧ zin (I l0 18) (kN S (kR S l0 29)) then
 (evk zcod none d zc_X12_fewest 68 [(0, .ref l0), (1, .int (((nI 1) <<< ((I (kR S l0 29) (zix (I l0 18))) &&& nI 31)) - (nI 1))), (2, .int (((nI 1) <<< ((I (kR S l0 29) (zix (I l0 18))) &&& nI 31)) - (nI 1)))] [] (S, I, L)) else none) else none) else none :=
  (blk_ok zcod none d zc_X12_fewest [(53, .aload_n 0, 54, [], none), (54, .getfield 64, 57, [12, 29, 2, 621, 0], none), (57, .aload_n 0, 58, [], none), (58, .getfield 257, 61, [12, 18, 0, 711, 0], none), (61, .iaload, 62, [20], none), (62, .ishl, 63, [], none), (63, .iconst 1, 64, [], none), (64, .isub, 65, [], none), (65, .istore_n 1, 66, [], none), (66, .iload_n 1, 67, [], none), (67, .istore_n 2, 68, [], none)] (52, .iconst 1, 53, [], some [0]) (by decide +kernel) _ _ _).trans rfl
set_option maxRecDepth 20000 in
set_option maxHeartbeats 4000000 in
theorem B_X12_fewest_68 (d : Nat) (S : mS) (I : mI) (L : mJ) (l0 : Nat) (l1 : Int32) (l2 : Int32) :
  evk zcod none d zc_X12_fewest 68 [(0, .ref l0), (1, .int l1), (2, .int l2)] [] (S, I, L) =
  if l2 < (nI 0) then
 evk zcod none d zc_X12_fewest 148 [(1, .int l1)] [] (S, I, L)
 else
 bI (evM zcod d 193 [.int l2] (S, I, L)) fun x1 M1 =>
 if M1.1.1 = S.1 then
 (bI (evM zcod d 193 [.int l1] M1) fun x2 M2 =>
 if M2.1.1 = M1.1.1 then
 (if x2 < x1 then
 evk zcod none d zc_X12_fewest 87 [(0, .ref l0), (1, .int l1), (2, .int l2)] [] M2
 else
 evk zcod none d zc_X12_fewest 88 [(0, .ref l0), (1, .int l1), (2, .int l2)] [.int (nI 1)] M2) else none) else none :=
  (blk_ok zcod none d zc_X12_fewest [(69, .ifCond .lt 79, 72, [148], none), (72, .iload_n 2, 73, [], none), (73, .invokestatic 354, 76, [193, 1, 1, 0, 780, 781, 662], none), (76, .iload_n 1, 77, [], none), (77, .invokestatic 354, 80, [193, 1, 1, 0, 780, 781, 662], none), (80, .if_icmp .gt 7, 83, [87], none), (83, .iconst 1, 84, [], none), (84, .goto 4, 87, [88], none)] (68, .iload_n 2, 69, [], some [0, 1, 2]) (by decide +kernel) _ _ _).trans rfl
set_option maxRecDepth 20000 in
set_option maxHeartbeats 4000000 in
theorem B_X12_fewest_87 (d : Nat) (S : mS) (I : mI) (L : mJ) (l0 : Nat) (l1 : Int32) (l2 : Int32) :
  evk zcod none d zc_X12_fewest 87 [(0, .ref l0), (1, .int l1), (2, .int l2)] [] (S, I, L) =
  evk zcod none d zc_X12_fewest 88 [(0, .ref l0), (1, .int l1), (2, .int l2)] [.int (nI 0)] (S, I, L) :=
  (blk_ok zcod none d zc_X12_fewest [] (87, .iconst 0, 88, [], some [0, 1, 2]) (by decide +kernel) _ _ _).trans rfl
set_option maxRecDepth 20000 in
set_option maxHeartbeats 4000000 in
theorem B_X12_fewest_88 (d : Nat) (S : mS) (I : mI) (L : mJ) (l0 : Nat) (l1 : Int32) (l2 : Int32) (s0 : Int32) :
  evk zcod none d zc_X12_fewest 88 [(0, .ref l0), (1, .int l1), (2, .int l2)] [.int s0] (S, I, L) =
  evk zcod none d zc_X12_fewest 92 [(0, .ref l0), (1, .int l1), (2, .int l2), (3, .int s0), (4, .int (nI 0))] [] (S, I, L) :=
  (blk_ok zcod none d zc_X12_fewest [(89, .iconst 0, 90, [], none), (90, .istore 4, 92, [], none)] (88, .istore_n 3, 89, [], some [0, 1, 2]) (by decide +kernel) _ _ _).trans rfl
set_option maxRecDepth 20000 in
set_option maxHeartbeats 4000000 in
theorem B_X12_fewest_92 (d : Nat) (S : mS) (I : mI) (L : mJ) (l0 : Nat) (l1 : Int32) (l2 : Int32) (l3 : Int32) (l4 : Int32) :
  evk zcod none d zc_X12_fewest 92 [(0, .ref l0), (1, .int l1), (2, .int l2), (3, .int l3), (4, .int l4)] [] (S, I, L) =
  if kK S l0 = 12 then
 (if kK S l0 = 12 then
 (if kK S (kR S l0 22) = 20 ∧ zin (I l0 18) (kN S (kR S l0 22)) then
 (if (I (kR S l0 22) (zix (I l0 18))) ≤ l4 then
 evk zcod none d zc_X12_fewest 136 [(0, .ref l0), (1, .int l1), (2, .int l2), (3, .int l3)] [] (S, I, L)
 else
 if kK S l0 = 12 then
 (if kK S (kR S l0 73) = 20 ∧ zin l4 (kN S (kR S l0 73)) then
 (if (I (kR S l0 73) (zix l4)) = (nI 0) then
 evk zcod none d zc_X12_fewest 130 [(0, .ref l0), (1, .int l1), (2, .int l2), (3, .int l3), (4, .int l4)] [] (S, I, L)
 else
 if kK S l0 = 12 then
 (if kK S (kR S l0 73) = 20 ∧ zin l4 (kN S (kR S l0 73)) then
 (if ¬ ((I (kR S l0 73) (zix l4)) &&& l2) = (nI 0) then
 evk zcod none d zc_X12_fewest 130 [(0, .ref l0), (1, .int l1), (2, .int l2), (3, .int l3), (4, .int l4)] [] (S, I, L)
 else
 evk zcod none d zc_X12_fewest 130 [(0, .ref l0), (1, .int l1), (2, .int l2), (3, .int (nI 0)), (4, .int l4)] [] (S, I, L)) else none) else none) else none) else none) else none) else none) else none :=
  (blk_ok zcod none d zc_X12_fewest [(94, .aload_n 0, 95, [], none), (95, .getfield 43, 98, [12, 22, 2, 614, 0], none), (98, .aload_n 0, 99, [], none), (99, .getfield 257, 102, [12, 18, 0, 711, 0], none), (102, .iaload, 103, [20], none), (103, .if_icmp .ge 33, 106, [136], none), (106, .aload_n 0, 107, [], none), (107, .getfield 152, 110, [12, 73, 2, 651, 0], none), (110, .iload 4, 112, [], none), (112, .iaload, 113, [20], none), (113, .ifCond .eq 17, 116, [130], none), (116, .aload_n 0, 117, [], none), (117, .getfield 152, 120, [12, 73, 2, 651, 0], none), (120, .iload 4, 122, [], none), (122, .iaload, 123, [20], none), (123, .iload_n 2, 124, [], none), (124, .iand, 125, [], none), (125, .ifCond .ne 5, 128, [130], none), (128, .iconst 0, 129, [], none), (129, .istore_n 3, 130, [], none)] (92, .iload 4, 94, [], some [0, 1, 2, 3, 4]) (by decide +kernel) _ _ _).trans rfl
set_option maxRecDepth 20000 in
set_option maxHeartbeats 4000000 in
theorem B_X12_fewest_130 (d : Nat) (S : mS) (I : mI) (L : mJ) (l0 : Nat) (l1 : Int32) (l2 : Int32) (l3 : Int32) (l4 : Int32) :
  evk zcod none d zc_X12_fewest 130 [(0, .ref l0), (1, .int l1), (2, .int l2), (3, .int l3), (4, .int l4)] [] (S, I, L) =
  evk zcod none d zc_X12_fewest 92 [(0, .ref l0), (1, .int l1), (2, .int l2), (3, .int l3), (4, .int (l4 + (nI 1)))] [] (S, I, L) :=
  (blk_ok zcod none d zc_X12_fewest [(133, .goto (-41), 136, [92], none)] (130, .iinc 4 1, 133, [], some [0, 1, 2, 3, 4]) (by decide +kernel) _ _ _).trans rfl
set_option maxRecDepth 20000 in
set_option maxHeartbeats 4000000 in
theorem B_X12_fewest_136 (d : Nat) (S : mS) (I : mI) (L : mJ) (l0 : Nat) (l1 : Int32) (l2 : Int32) (l3 : Int32) :
  evk zcod none d zc_X12_fewest 136 [(0, .ref l0), (1, .int l1), (2, .int l2), (3, .int l3)] [] (S, I, L) =
  if l3 = (nI 0) then
 evk zcod none d zc_X12_fewest 142 [(0, .ref l0), (1, .int l1), (2, .int l2)] [] (S, I, L)
 else
 evk zcod none d zc_X12_fewest 142 [(0, .ref l0), (1, .int l2), (2, .int l2)] [] (S, I, L) :=
  (blk_ok zcod none d zc_X12_fewest [(137, .ifCond .eq 5, 140, [142], none), (140, .iload_n 2, 141, [], none), (141, .istore_n 1, 142, [], none)] (136, .iload_n 3, 137, [], some [0, 1, 2, 3]) (by decide +kernel) _ _ _).trans rfl
set_option maxRecDepth 20000 in
set_option maxHeartbeats 4000000 in
theorem R_X12_fewest_142 (d : Nat) (S : mS) (I : mI) (L : mJ) (l0 : Nat) (l1 : Int32) (l2 : Int32) :
  evk zcod none d zc_X12_fewest 142 [(0, .ref l0), (1, .int l1), (2, .int l2)] [] (S, I, L) =
  evk zcod none d zc_X12_fewest 68 [(0, .ref l0), (1, .int l1), (2, .int (l2 + (Int32.ofInt (-1))))] [] (S, I, L) :=
  (blk_ok zcod none d zc_X12_fewest [(145, .goto (-77), 148, [68], none)] (142, .iinc 2 (-1), 145, [], some [0, 1, 2]) (by decide +kernel) _ _ _).trans rfl
theorem B_X12_fewest_142 (d : Nat) (S : mS) (I : mI) (L : mJ) (l0 : Nat) (l1 : Int32) (l2 : Int32) :
  evk zcod none d zc_X12_fewest 142 [(0, .ref l0), (1, .int l1), (2, .int l2)] [] (S, I, L) =
  evk zcod none d zc_X12_fewest 68 [(0, .ref l0), (1, .int l1), (2, .int (l2 + (-1 : Int32)))] [] (S, I, L) := by
  simpa only [cvN] using R_X12_fewest_142 d S I L l0 l1 l2
set_option maxRecDepth 20000 in
set_option maxHeartbeats 4000000 in
theorem B_X12_fewest_148 (d : Nat) (S : mS) (I : mI) (L : mJ) (l1 : Int32) :
  evk zcod none d zc_X12_fewest 148 [(1, .int l1)] [] (S, I, L) =
  some (some (.int l1), (S, I, L)) :=
  (blk_ok zcod none d zc_X12_fewest [(149, .ireturn, 150, [0], none)] (148, .iload_n 1, 149, [], some [1]) (by decide +kernel) _ _ _).trans rfl
theorem E_X12_waits (d : Nat) (M : zM) (l0 : Nat) (l1 : Int32) (l2 : Int32) (l3 : Int32) : evM zcod (d + 1) 247 [.ref l0, .int l1, .int l2, .int l3] M = evk zcod none d zc_X12_waits 0 [(0, .ref l0), (1, .int l1), (2, .int l2), (3, .int l3)] [] M := evM_eq zcod d 247 _ M (Nat.le_of_ble_eq_true rfl)
set_option maxRecDepth 20000 in
set_option maxHeartbeats 4000000 in
theorem B_X12_waits_0 (d : Nat) (S : mS) (I : mI) (L : mJ) (l0 : Nat) (l1 : Int32) (l2 : Int32) (l3 : Int32) :
  evk zcod none d zc_X12_waits 0 [(0, .ref l0), (1, .int l1), (2, .int l2), (3, .int l3)] [] (S, I, L) =
  if kK S l0 = 12 then
 (bI (evM zcod d 225 [.ref l0, .int l1, .int l2] (S, I, L)) fun x1 M1 =>
 if M1.1.1 = S.1 then
 (if x1 = (nI 0) then
 evk zcod none d zc_X12_waits 27 [] [] M1
 else
 bI (evM zcod d 191 [.int l3, .int (nI 0), .int (nI 1)] M1) fun x2 M2 =>
 if M2.1.1 = M1.1.1 then
 (if x2 = (nI 0) then
 evk zcod none d zc_X12_waits 27 [] [] M2
 else
 if kK M2.1 l0 = 12 then
 (bI (evM zcod d 224 [.ref l0, .int l1, .int l2] M2) fun x3 M3 =>
 if M3.1.1 = M2.1.1 then
 (if ¬ x3 = (nI 0) then
 evk zcod none d zc_X12_waits 31 [(0, .ref l0), (1, .int l1), (2, .int l2), (3, .int l3)] [] M3
 else
 evk zcod none d zc_X12_waits 27 [] [] M3) else none) else none) else none) else none) else none :=
  (blk_ok zcod none d zc_X12_waits [(1, .iload_n 1, 2, [], none), (2, .iload_n 2, 3, [], none), (3, .invokevirtual 424, 6, [225, 2, 1, 12, 843, 844, 845, 662], none), (6, .ifCond .eq 21, 9, [27], none), (9, .iload_n 3, 10, [], none), (10, .iconst 0, 11, [], none), (11, .iconst 1, 12, [], none), (12, .invokestatic 340, 15, [191, 3, 1, 0, 771, 772, 662], none), (15, .ifCond .eq 12, 18, [27], none), (18, .aload_n 0, 19, [], none), (19, .iload_n 1, 20, [], none), (20, .iload_n 2, 21, [], none), (21, .invokevirtual 428, 24, [224, 2, 1, 12, 846, 847, 848, 662], none), (24, .ifCond .ne 7, 27, [31], none)] (0, .aload_n 0, 1, [], none) (by decide +kernel) _ _ _).trans rfl
set_option maxRecDepth 20000 in
set_option maxHeartbeats 4000000 in
theorem B_X12_waits_27 (d : Nat) (S : mS) (I : mI) (L : mJ)  :
  evk zcod none d zc_X12_waits 27 [] [] (S, I, L) =
  some (some (.int (Int32.ofNat 4294867296)), (S, I, L)) :=
  (blk_ok zcod none d zc_X12_waits [(30, .ireturn, 31, [0], none)] (27, .ldc_w 476, 30, [0, 4294867296, 876], some []) (by decide +kernel) _ _ _).trans rfl
set_option maxRecDepth 20000 in
set_option maxHeartbeats 4000000 in
theorem R_X12_waits_31 (d : Nat) (S : mS) (I : mI) (L : mJ) (l0 : Nat) (l1 : Int32) (l2 : Int32) (l3 : Int32) :
  evk zcod none d zc_X12_waits 31 [(0, .ref l0), (1, .int l1), (2, .int l2), (3, .int l3)] [] (S, I, L) =
  if kK S l0 = 12 then
 (bV (evM zcod d 200 [.ref l0] (S, I, L)) fun M1 =>
 if M1.1.1 = S.1 then
 (evk zcod none d zc_X12_waits 44 [(0, .ref l0), (1, .int l1), (2, .int l2), (3, .int l3), (4, .int (Int32.ofInt (-1))), (5, .int (nI 0)), (6, .int (nI 0))] [] M1) else none) else none :=
  (blk_ok zcod none d zc_X12_waits [(32, .invokevirtual 415, 35, [200, 0, 0, 12, 834, 835, 836, 662], none), (35, .iconst (-1), 36, [], none), (36, .istore 4, 38, [], none), (38, .iconst 0, 39, [], none), (39, .istore 5, 41, [], none), (41, .iconst 0, 42, [], none), (42, .istore 6, 44, [], none)] (31, .aload_n 0, 32, [], some [0, 1, 2, 3]) (by decide +kernel) _ _ _).trans rfl
theorem B_X12_waits_31 (d : Nat) (S : mS) (I : mI) (L : mJ) (l0 : Nat) (l1 : Int32) (l2 : Int32) (l3 : Int32) :
  evk zcod none d zc_X12_waits 31 [(0, .ref l0), (1, .int l1), (2, .int l2), (3, .int l3)] [] (S, I, L) =
  if kK S l0 = 12 then
 (bV (evM zcod d 200 [.ref l0] (S, I, L)) fun M1 =>
 if M1.1.1 = S.1 then
 (evk zcod none d zc_X12_waits 44 [(0, .ref l0), (1, .int l1), (2, .int l2), (3, .int l3), (4, .int (-1 : Int32)), (5, .int (nI 0)), (6, .int (nI 0))] [] M1) else none) else none := by
  simpa only [cvN] using R_X12_waits_31 d S I L l0 l1 l2 l3
set_option maxRecDepth 20000 in
set_option maxHeartbeats 4000000 in
theorem B_X12_waits_44 (d : Nat) (S : mS) (I : mI) (L : mJ) (l0 : Nat) (l1 : Int32) (l2 : Int32) (l3 : Int32) (l4 : Int32) (l5 : Int32) (l6 : Int32) :
  evk zcod none d zc_X12_waits 44 [(0, .ref l0), (1, .int l1), (2, .int l2), (3, .int l3), (4, .int l4), (5, .int l5), (6, .int l6)] [] (S, I, L) =
  if (nI 24) < l6 then
 evk zcod none d zc_X12_waits 149 [(3, .int l3), (4, .int l4), (5, .int l5)] [] (S, I, L)
 else
 if kK S l0 = 12 then
 (if kK S (kR S l0 53) = 20 ∧ zin ((nI 40) + l2) (kN S (kR S l0 53)) then
 (if kK S l0 = 12 then
 (bV (evM zcod d 234 [.ref l0, .int l1, .int l2, .int l6, .int (I (kR S l0 53) (zix ((nI 40) + l2)))] (S, I, L)) fun M1 =>
 if M1.1.1 = S.1 then
 (if kK M1.1 l0 = 12 then
 (if kK M1.1 l0 = 12 then
 (if kK M1.1 (kR M1.1 l0 53) = 20 ∧ zin (nI 55) (kN M1.1 (kR M1.1 l0 53)) then
 (if kK M1.1 l0 = 12 then
 (if kK M1.1 l0 = 12 then
 (if kK M1.1 (kR M1.1 l0 27) = 20 ∧ zin (((nI 5) * (M1.2.1 l0 18)) + l2) (kN M1.1 (kR M1.1 l0 27)) then
 (if kK M1.1 l0 = 12 then
 (if kK M1.1 l0 = 12 then
 (if kK M1.1 (kR M1.1 l0 24) = 20 ∧ zin (((nI 7) * (M1.2.1 l0 18)) + l1) (kN M1.1 (kR M1.1 l0 24)) then
 (if kK M1.1 l0 = 12 then
 (bI (evM zcod d 209 [.ref l0, .int ((M1.2.1 (kR M1.1 l0 53) (zix (nI 55))) + l6), .int (nI 0), .int (M1.2.1 (kR M1.1 l0 27) (zix (((nI 5) * (M1.2.1 l0 18)) + l2))), .int (M1.2.1 (kR M1.1 l0 24) (zix (((nI 7) * (M1.2.1 l0 18)) + l1)))] M1) fun x2 M2 =>
 if M2.1.1 = M1.1.1 then
 (if l4 < (nI 0) then
 evk zcod none d zc_X12_waits 135 [(0, .ref l0), (1, .int l1), (2, .int l2), (3, .int l3), (6, .int l6), (7, .int (((M1.2.1 l0 66) - x2) - l6))] [] M2
 else
 if l5 < (((M1.2.1 l0 66) - x2) - l6) then
 evk zcod none d zc_X12_waits 135 [(0, .ref l0), (1, .int l1), (2, .int l2), (3, .int l3), (6, .int l6), (7, .int (((M1.2.1 l0 66) - x2) - l6))] [] M2
 else
 evk zcod none d zc_X12_waits 143 [(0, .ref l0), (1, .int l1), (2, .int l2), (3, .int l3), (4, .int l4), (5, .int l5), (6, .int l6)] [] M2) else none) else none) else none) else none) else none) else none) else none) else none) else none) else none) else none) else none) else none) else none) else none :=
  (blk_ok zcod none d zc_X12_waits [(46, .bipush 24, 48, [], none), (48, .if_icmp .gt 101, 51, [149], none), (51, .aload_n 0, 52, [], none), (52, .iload_n 1, 53, [], none), (53, .iload_n 2, 54, [], none), (54, .iload 6, 56, [], none), (56, .aload_n 0, 57, [], none), (57, .getfield 125, 60, [12, 53, 2, 642, 0], none), (60, .bipush 40, 62, [], none), (62, .iload_n 2, 63, [], none), (63, .iadd, 64, [], none), (64, .iaload, 65, [20], none), (65, .invokevirtual 466, 68, [234, 4, 0, 12, 870, 871, 872, 662], none), (68, .aload_n 0, 69, [], none), (69, .getfield 452, 72, [12, 66, 0, 860, 0], none), (72, .aload_n 0, 73, [], none), (73, .aload_n 0, 74, [], none), (74, .getfield 125, 77, [12, 53, 2, 642, 0], none), (77, .bipush 55, 79, [], none), (79, .iaload, 80, [20], none), (80, .iload 6, 82, [], none), (82, .iadd, 83, [], none), (83, .iconst 0, 84, [], none), (84, .aload_n 0, 85, [], none), (85, .getfield 58, 88, [12, 27, 2, 619, 0], none), (88, .iconst 5, 89, [], none), (89, .aload_n 0, 90, [], none), (90, .getfield 257, 93, [12, 18, 0, 711, 0], none), (93, .imul, 94, [], none), (94, .iload_n 2, 95, [], none), (95, .iadd, 96, [], none), (96, .iaload, 97, [20], none), (97, .aload_n 0, 98, [], none), (98, .getfield 49, 101, [12, 24, 2, 616, 0], none), (101, .bipush 7, 103, [], none), (103, .aload_n 0, 104, [], none), (104, .getfield 257, 107, [12, 18, 0, 711, 0], none), (107, .imul, 108, [], none), (108, .iload_n 1, 109, [], none), (109, .iadd, 110, [], none), (110, .iaload, 111, [20], none), (111, .invokevirtual 421, 114, [209, 4, 1, 12, 840, 841, 842, 662], none), (114, .isub, 115, [], none), (115, .iload 6, 117, [], none), (117, .isub, 118, [], none), (118, .istore 7, 120, [], none), (120, .iload 4, 122, [], none), (122, .ifCond .lt 13, 125, [135], none), (125, .iload 7, 127, [], none), (127, .iload 5, 129, [], none), (129, .if_icmp .gt 6, 132, [135], none), (132, .goto 11, 135, [143], none)] (44, .iload 6, 46, [], some [0, 1, 2, 3, 4, 5, 6]) (by decide +kernel) _ _ _).trans rfl
set_option maxRecDepth 20000 in
set_option maxHeartbeats 4000000 in
theorem B_X12_waits_135 (d : Nat) (S : mS) (I : mI) (L : mJ) (l0 : Nat) (l1 : Int32) (l2 : Int32) (l3 : Int32) (l6 : Int32) (l7 : Int32) :
  evk zcod none d zc_X12_waits 135 [(0, .ref l0), (1, .int l1), (2, .int l2), (3, .int l3), (6, .int l6), (7, .int l7)] [] (S, I, L) =
  evk zcod none d zc_X12_waits 143 [(0, .ref l0), (1, .int l1), (2, .int l2), (3, .int l3), (4, .int l6), (5, .int l7), (6, .int l6)] [] (S, I, L) :=
  (blk_ok zcod none d zc_X12_waits [(137, .istore 4, 139, [], none), (139, .iload 7, 141, [], none), (141, .istore 5, 143, [], none)] (135, .iload 6, 137, [], some [0, 1, 2, 3, 6, 7]) (by decide +kernel) _ _ _).trans rfl
set_option maxRecDepth 20000 in
set_option maxHeartbeats 4000000 in
theorem B_X12_waits_143 (d : Nat) (S : mS) (I : mI) (L : mJ) (l0 : Nat) (l1 : Int32) (l2 : Int32) (l3 : Int32) (l4 : Int32) (l5 : Int32) (l6 : Int32) :
  evk zcod none d zc_X12_waits 143 [(0, .ref l0), (1, .int l1), (2, .int l2), (3, .int l3), (4, .int l4), (5, .int l5), (6, .int l6)] [] (S, I, L) =
  evk zcod none d zc_X12_waits 44 [(0, .ref l0), (1, .int l1), (2, .int l2), (3, .int l3), (4, .int l4), (5, .int l5), (6, .int (l6 + (nI 1)))] [] (S, I, L) :=
  (blk_ok zcod none d zc_X12_waits [(146, .goto (-102), 149, [44], none)] (143, .iinc 6 1, 146, [], some [0, 1, 2, 3, 4, 5, 6]) (by decide +kernel) _ _ _).trans rfl
set_option maxRecDepth 20000 in
set_option maxHeartbeats 4000000 in
theorem B_X12_waits_149 (d : Nat) (S : mS) (I : mI) (L : mJ) (l3 : Int32) (l4 : Int32) (l5 : Int32) :
  evk zcod none d zc_X12_waits 149 [(3, .int l3), (4, .int l4), (5, .int l5)] [] (S, I, L) =
  if ¬ l3 = (nI 0) then
 evk zcod none d zc_X12_waits 158 [(5, .int l5)] [] (S, I, L)
 else
 evk zcod none d zc_X12_waits 160 [] [.int l4] (S, I, L) :=
  (blk_ok zcod none d zc_X12_waits [(150, .ifCond .ne 8, 153, [158], none), (153, .iload 4, 155, [], none), (155, .goto 5, 158, [160], none)] (149, .iload_n 3, 150, [], some [3, 4, 5]) (by decide +kernel) _ _ _).trans rfl
set_option maxRecDepth 20000 in
set_option maxHeartbeats 4000000 in
theorem B_X12_waits_158 (d : Nat) (S : mS) (I : mI) (L : mJ) (l5 : Int32) :
  evk zcod none d zc_X12_waits 158 [(5, .int l5)] [] (S, I, L) =
  evk zcod none d zc_X12_waits 160 [] [.int l5] (S, I, L) :=
  (blk_ok zcod none d zc_X12_waits [] (158, .iload 5, 160, [], some [5]) (by decide +kernel) _ _ _).trans rfl
set_option maxRecDepth 20000 in
set_option maxHeartbeats 4000000 in
theorem B_X12_waits_160 (d : Nat) (S : mS) (I : mI) (L : mJ) (s0 : Int32) :
  evk zcod none d zc_X12_waits 160 [] [.int s0] (S, I, L) =
  some (some (.int s0), (S, I, L)) :=
  (blk_ok zcod none d zc_X12_waits [] (160, .ireturn, 161, [0], some []) (by decide +kernel) _ _ _).trans rfl
theorem E_X12_isLong (d : Nat) (M : zM) (l0 : Int32) : evM zcod (d + 1) 248 [.int l0] M = evk zcod none d zc_X12_isLong 0 [(0, .int l0)] [] M := evM_eq zcod d 248 _ M (Nat.le_of_ble_eq_true rfl)
set_option maxRecDepth 20000 in
set_option maxHeartbeats 4000000 in
theorem B_X12_isLong_0 (d : Nat) (S : mS) (I : mI) (L : mJ) (l0 : Int32) :
  evk zcod none d zc_X12_isLong 0 [(0, .int l0)] [] (S, I, L) =
  bI (evM zcod d 191 [.int l0, .int (nI 0), .int (nI 72)] (S, I, L)) fun x1 M1 =>
 if M1.1.1 = S.1 then
 (if x1 = nI 0 ∨ x1 = nI 1 then some (some (.int x1), M1) else none) else none :=
  (blk_ok zcod none d zc_X12_isLong [(1, .iconst 0, 2, [], none), (2, .bipush 72, 4, [], none), (4, .invokestatic 340, 7, [191, 3, 1, 0, 771, 772, 662], none), (7, .ireturn, 8, [1], none)] (0, .iload_n 0, 1, [], none) (by decide +kernel) _ _ _).trans rfl
theorem E_X12_then (d : Nat) (M : zM) (l0 : Nat) (l1 : Int32) (l2 : Int32) (l3 : Int32) : evM zcod (d + 1) 249 [.ref l0, .int l1, .int l2, .int l3] M = evk zcod none d zc_X12_then 0 [(0, .ref l0), (1, .int l1), (2, .int l2), (3, .int l3)] [] M := evM_eq zcod d 249 _ M (Nat.le_of_ble_eq_true rfl)
set_option maxRecDepth 20000 in
set_option maxHeartbeats 4000000 in
theorem B_X12_then_0 (d : Nat) (S : mS) (I : mI) (L : mJ) (l0 : Nat) (l1 : Int32) (l2 : Int32) (l3 : Int32) :
  evk zcod none d zc_X12_then 0 [(0, .ref l0), (1, .int l1), (2, .int l2), (3, .int l3)] [] (S, I, L) =
  if kK S l0 = 12 then
 (bI (evM zcod d 195 [.ref l0, .int l1] (S, I, L)) fun x1 M1 =>
 if M1.1.1 = S.1 then
 (if x1 = (nI 0) then
 evk zcod none d zc_X12_then 24 [] [] M1
 else
 bI (evM zcod d 248 [.int l2] M1) fun x2 M2 =>
 if M2.1.1 = M1.1.1 then
 (if x2 = (nI 0) then
 evk zcod none d zc_X12_then 24 [] [] M2
 else
 bI (evM zcod d 191 [.int l3, .int (nI 0), .int (nI 2)] M2) fun x3 M3 =>
 if M3.1.1 = M2.1.1 then
 (if ¬ x3 = (nI 0) then
 evk zcod none d zc_X12_then 26 [(0, .ref l0), (1, .int l1), (2, .int l2), (3, .int l3)] [] M3
 else
 evk zcod none d zc_X12_then 24 [] [] M3) else none) else none) else none) else none :=
  (blk_ok zcod none d zc_X12_then [(1, .iload_n 1, 2, [], none), (2, .invokevirtual 406, 5, [195, 1, 1, 12, 825, 826, 827, 662], none), (5, .ifCond .eq 19, 8, [24], none), (8, .iload_n 2, 9, [], none), (9, .invokestatic 495, 12, [248, 1, 1, 0, 891, 892, 662], none), (12, .ifCond .eq 12, 15, [24], none), (15, .iload_n 3, 16, [], none), (16, .iconst 0, 17, [], none), (17, .iconst 2, 18, [], none), (18, .invokestatic 340, 21, [191, 3, 1, 0, 771, 772, 662], none), (21, .ifCond .ne 5, 24, [26], none)] (0, .aload_n 0, 1, [], none) (by decide +kernel) _ _ _).trans rfl
set_option maxRecDepth 20000 in
set_option maxHeartbeats 4000000 in
theorem R_X12_then_24 (d : Nat) (S : mS) (I : mI) (L : mJ)  :
  evk zcod none d zc_X12_then 24 [] [] (S, I, L) =
  some (some (.int (Int32.ofInt (-1))), (S, I, L)) :=
  (blk_ok zcod none d zc_X12_then [(25, .ireturn, 26, [0], none)] (24, .iconst (-1), 25, [], some []) (by decide +kernel) _ _ _).trans rfl
theorem B_X12_then_24 (d : Nat) (S : mS) (I : mI) (L : mJ)  :
  evk zcod none d zc_X12_then 24 [] [] (S, I, L) =
  some (some (.int (-1 : Int32)), (S, I, L)) := by
  simpa only [cvN] using R_X12_then_24 d S I L 
set_option maxRecDepth 20000 in
set_option maxHeartbeats 4000000 in
theorem B_X12_then_26 (d : Nat) (S : mS) (I : mI) (L : mJ) (l0 : Nat) (l1 : Int32) (l2 : Int32) (l3 : Int32) :
  evk zcod none d zc_X12_then 26 [(0, .ref l0), (1, .int l1), (2, .int l2), (3, .int l3)] [] (S, I, L) =
  if kK S l0 = 12 then
 (bV (evM zcod d 200 [.ref l0] (S, I, L)) fun M1 =>
 if M1.1.1 = S.1 then
 (if kK M1.1 l0 = 12 then
 (bV (evM zcod d 217 [.ref l0, .int l2] M1) fun M2 =>
 if M2.1.1 = M1.1.1 then
 (if ¬ l3 = (nI 0) then
 evk zcod none d zc_X12_then 51 [(0, .ref l0), (1, .int l1), (3, .int l3)] [] M2
 else
 if kK M2.1 l0 = 12 then
 (if kK M2.1 (kR M2.1 l0 53) = 20 ∧ zin ((nI 7) + l1) (kN M2.1 (kR M2.1 l0 53)) then
 (evk zcod none d zc_X12_then 74 [] [.int (M2.2.1 (kR M2.1 l0 53) (zix ((nI 7) + l1)))] M2) else none) else none) else none) else none) else none) else none :=
  (blk_ok zcod none d zc_X12_then [(27, .invokevirtual 415, 30, [200, 0, 0, 12, 834, 835, 836, 662], none), (30, .aload_n 0, 31, [], none), (31, .iload_n 2, 32, [], none), (32, .invokevirtual 434, 35, [217, 1, 0, 12, 852, 853, 854, 662], none), (35, .iload_n 3, 36, [], none), (36, .ifCond .ne 15, 39, [51], none), (39, .aload_n 0, 40, [], none), (40, .getfield 125, 43, [12, 53, 2, 642, 0], none), (43, .bipush 7, 45, [], none), (45, .iload_n 1, 46, [], none), (46, .iadd, 47, [], none), (47, .iaload, 48, [20], none), (48, .goto 26, 51, [74], none)] (26, .aload_n 0, 27, [], some [0, 1, 2, 3]) (by decide +kernel) _ _ _).trans rfl
set_option maxRecDepth 20000 in
set_option maxHeartbeats 4000000 in
theorem B_X12_then_51 (d : Nat) (S : mS) (I : mI) (L : mJ) (l0 : Nat) (l1 : Int32) (l3 : Int32) :
  evk zcod none d zc_X12_then 51 [(0, .ref l0), (1, .int l1), (3, .int l3)] [] (S, I, L) =
  if ¬ l3 = (nI 1) then
 evk zcod none d zc_X12_then 65 [(0, .ref l0), (1, .int l1)] [] (S, I, L)
 else
 if kK S l0 = 12 then
 (if kK S (kR S l0 53) = 20 ∧ zin l1 (kN S (kR S l0 53)) then
 (evk zcod none d zc_X12_then 74 [] [.int (I (kR S l0 53) (zix l1))] (S, I, L)) else none) else none :=
  (blk_ok zcod none d zc_X12_then [(52, .iconst 1, 53, [], none), (53, .if_icmp .ne 12, 56, [65], none), (56, .aload_n 0, 57, [], none), (57, .getfield 125, 60, [12, 53, 2, 642, 0], none), (60, .iload_n 1, 61, [], none), (61, .iaload, 62, [20], none), (62, .goto 12, 65, [74], none)] (51, .iload_n 3, 52, [], some [0, 1, 3]) (by decide +kernel) _ _ _).trans rfl
set_option maxRecDepth 20000 in
set_option maxHeartbeats 4000000 in
theorem B_X12_then_65 (d : Nat) (S : mS) (I : mI) (L : mJ) (l0 : Nat) (l1 : Int32) :
  evk zcod none d zc_X12_then 65 [(0, .ref l0), (1, .int l1)] [] (S, I, L) =
  if kK S l0 = 12 then
 (if kK S (kR S l0 53) = 20 ∧ zin ((nI 14) + l1) (kN S (kR S l0 53)) then
 (evk zcod none d zc_X12_then 74 [] [.int (I (kR S l0 53) (zix ((nI 14) + l1)))] (S, I, L)) else none) else none :=
  (blk_ok zcod none d zc_X12_then [(66, .getfield 125, 69, [12, 53, 2, 642, 0], none), (69, .bipush 14, 71, [], none), (71, .iload_n 1, 72, [], none), (72, .iadd, 73, [], none), (73, .iaload, 74, [20], none)] (65, .aload_n 0, 66, [], some [0, 1]) (by decide +kernel) _ _ _).trans rfl
set_option maxRecDepth 20000 in
set_option maxHeartbeats 4000000 in
theorem B_X12_then_74 (d : Nat) (S : mS) (I : mI) (L : mJ) (s0 : Int32) :
  evk zcod none d zc_X12_then 74 [] [.int s0] (S, I, L) =
  some (some (.int s0), (S, I, L)) :=
  (blk_ok zcod none d zc_X12_then [] (74, .ireturn, 75, [0], some []) (by decide +kernel) _ _ _).trans rfl
theorem E_X12_earns (d : Nat) (M : zM) (l0 : Nat) (l1 : Int32) : evM zcod (d + 1) 250 [.ref l0, .int l1] M = evk zcod none d zc_X12_earns 0 [(0, .ref l0), (1, .int l1)] [] M := evM_eq zcod d 250 _ M (Nat.le_of_ble_eq_true rfl)
set_option maxRecDepth 20000 in
set_option maxHeartbeats 4000000 in
theorem R_X12_earns_0 (d : Nat) (S : mS) (I : mI) (L : mJ) (l0 : Nat) (l1 : Int32) :
  evk zcod none d zc_X12_earns 0 [(0, .ref l0), (1, .int l1)] [] (S, I, L) =
  bI (evM zcod d 248 [.int l1] (S, I, L)) fun x1 M1 =>
 if M1.1.1 = S.1 then
 (if ¬ x1 = (nI 0) then
 evk zcod none d zc_X12_earns 9 [(0, .ref l0), (1, .int l1)] [] M1
 else
 some (some (.int (Int32.ofInt (-1))), M1)) else none :=
  (blk_ok zcod none d zc_X12_earns [(1, .invokestatic 495, 4, [248, 1, 1, 0, 891, 892, 662], none), (4, .ifCond .ne 5, 7, [9], none), (7, .iconst (-1), 8, [], none), (8, .ireturn, 9, [0], none)] (0, .iload_n 1, 1, [], none) (by decide +kernel) _ _ _).trans rfl
theorem B_X12_earns_0 (d : Nat) (S : mS) (I : mI) (L : mJ) (l0 : Nat) (l1 : Int32) :
  evk zcod none d zc_X12_earns 0 [(0, .ref l0), (1, .int l1)] [] (S, I, L) =
  bI (evM zcod d 248 [.int l1] (S, I, L)) fun x1 M1 =>
 if M1.1.1 = S.1 then
 (if ¬ x1 = (nI 0) then
 evk zcod none d zc_X12_earns 9 [(0, .ref l0), (1, .int l1)] [] M1
 else
 some (some (.int (-1 : Int32)), M1)) else none := by
  simpa only [cvN] using R_X12_earns_0 d S I L l0 l1
set_option maxRecDepth 20000 in
set_option maxHeartbeats 4000000 in
theorem B_X12_earns_9 (d : Nat) (S : mS) (I : mI) (L : mJ) (l0 : Nat) (l1 : Int32) :
  evk zcod none d zc_X12_earns 9 [(0, .ref l0), (1, .int l1)] [] (S, I, L) =
  if kK S l0 = 12 then
 (bV (evM zcod d 200 [.ref l0] (S, I, L)) fun M1 =>
 if M1.1.1 = S.1 then
 (if kK M1.1 l0 = 12 then
 (bV (evM zcod d 217 [.ref l0, .int l1] M1) fun M2 =>
 if M2.1.1 = M1.1.1 then
 (if kK M2.1 l0 = 12 then
 (if kK M2.1 (kR M2.1 l0 53) = 20 ∧ zin (nI 56) (kN M2.1 (kR M2.1 l0 53)) then
 (if kK M2.1 l0 = 12 then
 (if kK M2.1 (kR M2.1 l0 52) = 20 ∧ zin (nI 56) (kN M2.1 (kR M2.1 l0 52)) then
 (some (some (.int ((M2.2.1 (kR M2.1 l0 53) (zix (nI 56))) - (M2.2.1 (kR M2.1 l0 52) (zix (nI 56))))), M2)) else none) else none) else none) else none) else none) else none) else none) else none :=
  (blk_ok zcod none d zc_X12_earns [(10, .invokevirtual 415, 13, [200, 0, 0, 12, 834, 835, 836, 662], none), (13, .aload_n 0, 14, [], none), (14, .iload_n 1, 15, [], none), (15, .invokevirtual 434, 18, [217, 1, 0, 12, 852, 853, 854, 662], none), (18, .aload_n 0, 19, [], none), (19, .getfield 125, 22, [12, 53, 2, 642, 0], none), (22, .bipush 56, 24, [], none), (24, .iaload, 25, [20], none), (25, .aload_n 0, 26, [], none), (26, .getfield 122, 29, [12, 52, 2, 641, 0], none), (29, .bipush 56, 31, [], none), (31, .iaload, 32, [20], none), (32, .isub, 33, [], none), (33, .ireturn, 34, [0], none)] (9, .aload_n 0, 10, [], some [0, 1]) (by decide +kernel) _ _ _).trans rfl
theorem E_X12_year (d : Nat) (M : zM) (l0 : Nat) (l1 : Int32) (l2 : Int32) (l3 : Int32) : evM zcod (d + 1) 251 [.ref l0, .int l1, .int l2, .int l3] M = evk zcod none d zc_X12_year 0 [(0, .ref l0), (1, .int l1), (2, .int l2), (3, .int l3)] [] M := evM_eq zcod d 251 _ M (Nat.le_of_ble_eq_true rfl)
set_option maxRecDepth 20000 in
set_option maxHeartbeats 4000000 in
theorem B_X12_year_0 (d : Nat) (S : mS) (I : mI) (L : mJ) (l0 : Nat) (l1 : Int32) (l2 : Int32) (l3 : Int32) :
  evk zcod none d zc_X12_year 0 [(0, .ref l0), (1, .int l1), (2, .int l2), (3, .int l3)] [] (S, I, L) =
  if kK S l0 = 12 then
 (bI (evM zcod d 195 [.ref l0, .int l1] (S, I, L)) fun x1 M1 =>
 if M1.1.1 = S.1 then
 (if x1 = (nI 0) then
 evk zcod none d zc_X12_year 25 [] [] M1
 else
 bI (evM zcod d 248 [.int l2] M1) fun x2 M2 =>
 if M2.1.1 = M1.1.1 then
 (if x2 = (nI 0) then
 evk zcod none d zc_X12_year 25 [] [] M2
 else
 bI (evM zcod d 191 [.int l3, .int (nI 1), .int (nI 20)] M2) fun x3 M3 =>
 if M3.1.1 = M2.1.1 then
 (if ¬ x3 = (nI 0) then
 evk zcod none d zc_X12_year 27 [(0, .ref l0), (1, .int l1), (2, .int l2), (3, .int l3)] [] M3
 else
 evk zcod none d zc_X12_year 25 [] [] M3) else none) else none) else none) else none :=
  (blk_ok zcod none d zc_X12_year [(1, .iload_n 1, 2, [], none), (2, .invokevirtual 406, 5, [195, 1, 1, 12, 825, 826, 827, 662], none), (5, .ifCond .eq 20, 8, [25], none), (8, .iload_n 2, 9, [], none), (9, .invokestatic 495, 12, [248, 1, 1, 0, 891, 892, 662], none), (12, .ifCond .eq 13, 15, [25], none), (15, .iload_n 3, 16, [], none), (16, .iconst 1, 17, [], none), (17, .bipush 20, 19, [], none), (19, .invokestatic 340, 22, [191, 3, 1, 0, 771, 772, 662], none), (22, .ifCond .ne 5, 25, [27], none)] (0, .aload_n 0, 1, [], none) (by decide +kernel) _ _ _).trans rfl
set_option maxRecDepth 20000 in
set_option maxHeartbeats 4000000 in
theorem R_X12_year_25 (d : Nat) (S : mS) (I : mI) (L : mJ)  :
  evk zcod none d zc_X12_year 25 [] [] (S, I, L) =
  some (some (.int (Int32.ofInt (-1))), (S, I, L)) :=
  (blk_ok zcod none d zc_X12_year [(26, .ireturn, 27, [0], none)] (25, .iconst (-1), 26, [], some []) (by decide +kernel) _ _ _).trans rfl
theorem B_X12_year_25 (d : Nat) (S : mS) (I : mI) (L : mJ)  :
  evk zcod none d zc_X12_year 25 [] [] (S, I, L) =
  some (some (.int (-1 : Int32)), (S, I, L)) := by
  simpa only [cvN] using R_X12_year_25 d S I L 
set_option maxRecDepth 20000 in
set_option maxHeartbeats 4000000 in
theorem B_X12_year_27 (d : Nat) (S : mS) (I : mI) (L : mJ) (l0 : Nat) (l1 : Int32) (l2 : Int32) (l3 : Int32) :
  evk zcod none d zc_X12_year 27 [(0, .ref l0), (1, .int l1), (2, .int l2), (3, .int l3)] [] (S, I, L) =
  evk zcod none d zc_X12_year 33 [(0, .ref l0), (1, .int l1), (2, .int l2), (3, .int l3), (4, .int (nI 0)), (5, .int (nI 0))] [] (S, I, L) :=
  (blk_ok zcod none d zc_X12_year [(28, .istore 4, 30, [], none), (30, .iconst 0, 31, [], none), (31, .istore 5, 33, [], none)] (27, .iconst 0, 28, [], some [0, 1, 2, 3]) (by decide +kernel) _ _ _).trans rfl
set_option maxRecDepth 20000 in
set_option maxHeartbeats 4000000 in
theorem B_X12_year_33 (d : Nat) (S : mS) (I : mI) (L : mJ) (l0 : Nat) (l1 : Int32) (l2 : Int32) (l3 : Int32) (l4 : Int32) (l5 : Int32) :
  evk zcod none d zc_X12_year 33 [(0, .ref l0), (1, .int l1), (2, .int l2), (3, .int l3), (4, .int l4), (5, .int l5)] [] (S, I, L) =
  if l3 ≤ l5 then
 evk zcod none d zc_X12_year 81 [(4, .int l4)] [] (S, I, L)
 else
 if kK S l0 = 12 then
 (bV (evM zcod d 200 [.ref l0] (S, I, L)) fun M1 =>
 if M1.1.1 = S.1 then
 (if kK M1.1 l0 = 12 then
 (if kK M1.1 l0 = 12 then
 (if kK M1.1 l0 = 12 then
 (bV (evM zcod d 217 [.ref l0, .int l2] (M1.1, (uI M1.2.1 l0 54 ((M1.2.1 l0 54) + l5)), M1.2.2)) fun M2 =>
 if M2.1.1 = M1.1.1 then
 (if kK M2.1 l0 = 12 then
 (if kK M2.1 (kR M2.1 l0 53) = 20 ∧ zin ((nI 7) + l1) (kN M2.1 (kR M2.1 l0 53)) then
 (if ¬ (M2.2.1 (kR M2.1 l0 53) (zix ((nI 7) + l1))) = (nI 2) then
 evk zcod none d zc_X12_year 75 [(0, .ref l0), (1, .int l1), (2, .int l2), (3, .int l3), (4, .int l4), (5, .int l5)] [] M2
 else
 evk zcod none d zc_X12_year 75 [(0, .ref l0), (1, .int l1), (2, .int l2), (3, .int l3), (4, .int (l4 + (nI 1))), (5, .int l5)] [] M2) else none) else none) else none) else none) else none) else none) else none) else none :=
  (blk_ok zcod none d zc_X12_year [(35, .iload_n 3, 36, [], none), (36, .if_icmp .ge 45, 39, [81], none), (39, .aload_n 0, 40, [], none), (40, .invokevirtual 415, 43, [200, 0, 0, 12, 834, 835, 836, 662], none), (43, .aload_n 0, 44, [], none), (44, .dup, 45, [], none), (45, .getfield 344, 48, [12, 54, 0, 773, 0], none), (48, .iload 5, 50, [], none), (50, .iadd, 51, [], none), (51, .putfield 344, 54, [12, 54, 0, 773, 0, 0], none), (54, .aload_n 0, 55, [], none), (55, .iload_n 2, 56, [], none), (56, .invokevirtual 434, 59, [217, 1, 0, 12, 852, 853, 854, 662], none), (59, .aload_n 0, 60, [], none), (60, .getfield 125, 63, [12, 53, 2, 642, 0], none), (63, .bipush 7, 65, [], none), (65, .iload_n 1, 66, [], none), (66, .iadd, 67, [], none), (67, .iaload, 68, [20], none), (68, .iconst 2, 69, [], none), (69, .if_icmp .ne 6, 72, [75], none), (72, .iinc 4 1, 75, [], none)] (33, .iload 5, 35, [], some [0, 1, 2, 3, 4, 5]) (by decide +kernel) _ _ _).trans rfl
set_option maxRecDepth 20000 in
set_option maxHeartbeats 4000000 in
theorem B_X12_year_75 (d : Nat) (S : mS) (I : mI) (L : mJ) (l0 : Nat) (l1 : Int32) (l2 : Int32) (l3 : Int32) (l4 : Int32) (l5 : Int32) :
  evk zcod none d zc_X12_year 75 [(0, .ref l0), (1, .int l1), (2, .int l2), (3, .int l3), (4, .int l4), (5, .int l5)] [] (S, I, L) =
  evk zcod none d zc_X12_year 33 [(0, .ref l0), (1, .int l1), (2, .int l2), (3, .int l3), (4, .int l4), (5, .int (l5 + (nI 1)))] [] (S, I, L) :=
  (blk_ok zcod none d zc_X12_year [(78, .goto (-45), 81, [33], none)] (75, .iinc 5 1, 78, [], some [0, 1, 2, 3, 4, 5]) (by decide +kernel) _ _ _).trans rfl
set_option maxRecDepth 20000 in
set_option maxHeartbeats 4000000 in
theorem B_X12_year_81 (d : Nat) (S : mS) (I : mI) (L : mJ) (l4 : Int32) :
  evk zcod none d zc_X12_year 81 [(4, .int l4)] [] (S, I, L) =
  some (some (.int l4), (S, I, L)) :=
  (blk_ok zcod none d zc_X12_year [(83, .ireturn, 84, [0], none)] (81, .iload 4, 83, [], some [4]) (by decide +kernel) _ _ _).trans rfl
theorem E_X12_isDigit9 (d : Nat) (M : zM) (l0 : Int32) : evM zcod (d + 1) 252 [.int l0] M = evk zcod none d zc_X12_isDigit9 0 [(0, .int l0)] [] M := evM_eq zcod d 252 _ M (Nat.le_of_ble_eq_true rfl)
set_option maxRecDepth 20000 in
set_option maxHeartbeats 4000000 in
theorem B_X12_isDigit9_0 (d : Nat) (S : mS) (I : mI) (L : mJ) (l0 : Int32) :
  evk zcod none d zc_X12_isDigit9 0 [(0, .int l0)] [] (S, I, L) =
  bI (evM zcod d 191 [.int l0, .int (nI 1), .int (nI 9)] (S, I, L)) fun x1 M1 =>
 if M1.1.1 = S.1 then
 (if x1 = nI 0 ∨ x1 = nI 1 then some (some (.int x1), M1) else none) else none :=
  (blk_ok zcod none d zc_X12_isDigit9 [(1, .iconst 1, 2, [], none), (2, .bipush 9, 4, [], none), (4, .invokestatic 340, 7, [191, 3, 1, 0, 771, 772, 662], none), (7, .ireturn, 8, [1], none)] (0, .iload_n 0, 1, [], none) (by decide +kernel) _ _ _).trans rfl
theorem E_X12_tell (d : Nat) (M : zM) (l0 : Nat) (l1 : Int32) (l2 : Int32) (l3 : Int32) (l4 : Int32) (l5 : Int32) : evM zcod (d + 1) 253 [.ref l0, .int l1, .int l2, .int l3, .int l4, .int l5] M = evk zcod none d zc_X12_tell 0 [(0, .ref l0), (1, .int l1), (2, .int l2), (3, .int l3), (4, .int l4), (5, .int l5)] [] M := evM_eq zcod d 253 _ M (Nat.le_of_ble_eq_true rfl)
set_option maxRecDepth 20000 in
set_option maxHeartbeats 4000000 in
theorem B_X12_tell_0 (d : Nat) (S : mS) (I : mI) (L : mJ) (l0 : Nat) (l1 : Int32) (l2 : Int32) (l3 : Int32) (l4 : Int32) (l5 : Int32) :
  evk zcod none d zc_X12_tell 0 [(0, .ref l0), (1, .int l1), (2, .int l2), (3, .int l3), (4, .int l4), (5, .int l5)] [] (S, I, L) =
  if kK S l0 = 12 then
 (if (I l0 74) = (nI 20) then
 evk zcod none d zc_X12_tell 52 [] [] (S, I, L)
 else
 bI (evM zcod d 252 [.int l1] (S, I, L)) fun x1 M1 =>
 if M1.1.1 = S.1 then
 (if x1 = (nI 0) then
 evk zcod none d zc_X12_tell 52 [] [] M1
 else
 bI (evM zcod d 252 [.int l2] M1) fun x2 M2 =>
 if M2.1.1 = M1.1.1 then
 (if x2 = (nI 0) then
 evk zcod none d zc_X12_tell 52 [] [] M2
 else
 bI (evM zcod d 252 [.int l4] M2) fun x3 M3 =>
 if M3.1.1 = M2.1.1 then
 (if x3 = (nI 0) then
 evk zcod none d zc_X12_tell 52 [] [] M3
 else
 bI (evM zcod d 191 [.int l3, .int (nI 0), .int (nI 19)] M3) fun x4 M4 =>
 if M4.1.1 = M3.1.1 then
 (if x4 = (nI 0) then
 evk zcod none d zc_X12_tell 52 [] [] M4
 else
 evk zcod none d zc_X12_tell 41 [(0, .ref l0), (1, .int l1), (2, .int l2), (3, .int l3), (4, .int l4), (5, .int l5)] [] M4) else none) else none) else none) else none) else none :=
  (blk_ok zcod none d zc_X12_tell [(1, .getfield 278, 4, [12, 74, 0, 720, 0], none), (4, .bipush 20, 6, [], none), (6, .if_icmp .eq 46, 9, [52], none), (9, .iload_n 1, 10, [], none), (10, .invokestatic 498, 13, [252, 1, 1, 0, 893, 894, 662], none), (13, .ifCond .eq 39, 16, [52], none), (16, .iload_n 2, 17, [], none), (17, .invokestatic 498, 20, [252, 1, 1, 0, 893, 894, 662], none), (20, .ifCond .eq 32, 23, [52], none), (23, .iload 4, 25, [], none), (25, .invokestatic 498, 28, [252, 1, 1, 0, 893, 894, 662], none), (28, .ifCond .eq 24, 31, [52], none), (31, .iload_n 3, 32, [], none), (32, .iconst 0, 33, [], none), (33, .bipush 19, 35, [], none), (35, .invokestatic 340, 38, [191, 3, 1, 0, 771, 772, 662], none), (38, .ifCond .eq 14, 41, [52], none)] (0, .aload_n 0, 1, [], none) (by decide +kernel) _ _ _).trans rfl
set_option maxRecDepth 20000 in
set_option maxHeartbeats 4000000 in
theorem B_X12_tell_41 (d : Nat) (S : mS) (I : mI) (L : mJ) (l0 : Nat) (l1 : Int32) (l2 : Int32) (l3 : Int32) (l4 : Int32) (l5 : Int32) :
  evk zcod none d zc_X12_tell 41 [(0, .ref l0), (1, .int l1), (2, .int l2), (3, .int l3), (4, .int l4), (5, .int l5)] [] (S, I, L) =
  bI (evM zcod d 191 [.int l5, .int (nI 0), .int (nI 19)] (S, I, L)) fun x1 M1 =>
 if M1.1.1 = S.1 then
 (if ¬ x1 = (nI 0) then
 evk zcod none d zc_X12_tell 54 [(0, .ref l0), (1, .int l1), (2, .int l2), (3, .int l3), (4, .int l4), (5, .int l5)] [] M1
 else
 evk zcod none d zc_X12_tell 52 [] [] M1) else none :=
  (blk_ok zcod none d zc_X12_tell [(43, .iconst 0, 44, [], none), (44, .bipush 19, 46, [], none), (46, .invokestatic 340, 49, [191, 3, 1, 0, 771, 772, 662], none), (49, .ifCond .ne 5, 52, [54], none)] (41, .iload 5, 43, [], some [0, 1, 2, 3, 4, 5]) (by decide +kernel) _ _ _).trans rfl
set_option maxRecDepth 20000 in
set_option maxHeartbeats 4000000 in
theorem R_X12_tell_52 (d : Nat) (S : mS) (I : mI) (L : mJ)  :
  evk zcod none d zc_X12_tell 52 [] [] (S, I, L) =
  some (some (.int (Int32.ofInt (-1))), (S, I, L)) :=
  (blk_ok zcod none d zc_X12_tell [(53, .ireturn, 54, [0], none)] (52, .iconst (-1), 53, [], some []) (by decide +kernel) _ _ _).trans rfl
theorem B_X12_tell_52 (d : Nat) (S : mS) (I : mI) (L : mJ)  :
  evk zcod none d zc_X12_tell 52 [] [] (S, I, L) =
  some (some (.int (-1 : Int32)), (S, I, L)) := by
  simpa only [cvN] using R_X12_tell_52 d S I L 
set_option maxRecDepth 20000 in
set_option maxHeartbeats 4000000 in
theorem B_X12_tell_54 (d : Nat) (S : mS) (I : mI) (L : mJ) (l0 : Nat) (l1 : Int32) (l2 : Int32) (l3 : Int32) (l4 : Int32) (l5 : Int32) :
  evk zcod none d zc_X12_tell 54 [(0, .ref l0), (1, .int l1), (2, .int l2), (3, .int l3), (4, .int l4), (5, .int l5)] [] (S, I, L) =
  if kK S l0 = 12 then
 (if kK S l0 = 12 then
 (if kK S (kR S l0 75) = 20 ∧ zin (I l0 74) (kN S (kR S l0 75)) then
 (if kK S l0 = 12 then
 (if kK S l0 = 12 then
 (if kK S (kR S l0 76) = 20 ∧ zin ((uI I (kR S l0 75) (zix (I l0 74)) l1) l0 74) (kN S (kR S l0 76)) then
 (if kK S l0 = 12 then
 (if kK S l0 = 12 then
 (if kK S (kR S l0 77) = 20 ∧ zin ((uI (uI I (kR S l0 75) (zix (I l0 74)) l1) (kR S l0 76) (zix ((uI I (kR S l0 75) (zix (I l0 74)) l1) l0 74)) l2) l0 74) (kN S (kR S l0 77)) then
 (if kK S l0 = 12 then
 (if kK S l0 = 12 then
 (if kK S (kR S l0 78) = 20 ∧ zin ((uI (uI (uI I (kR S l0 75) (zix (I l0 74)) l1) (kR S l0 76) (zix ((uI I (kR S l0 75) (zix (I l0 74)) l1) l0 74)) l2) (kR S l0 77) (zix ((uI (uI I (kR S l0 75) (zix (I l0 74)) l1) (kR S l0 76) (zix ((uI I (kR S l0 75) (zix (I l0 74)) l1) l0 74)) l2) l0 74)) l3) l0 74) (kN S (kR S l0 78)) then
 (evk zcod none d zc_X12_tell 95 [(0, .ref l0), (5, .int l5)] [] (S, (uI (uI (uI (uI I (kR S l0 75) (zix (I l0 74)) l1) (kR S l0 76) (zix ((uI I (kR S l0 75) (zix (I l0 74)) l1) l0 74)) l2) (kR S l0 77) (zix ((uI (uI I (kR S l0 75) (zix (I l0 74)) l1) (kR S l0 76) (zix ((uI I (kR S l0 75) (zix (I l0 74)) l1) l0 74)) l2) l0 74)) l3) (kR S l0 78) (zix ((uI (uI (uI I (kR S l0 75) (zix (I l0 74)) l1) (kR S l0 76) (zix ((uI I (kR S l0 75) (zix (I l0 74)) l1) l0 74)) l2) (kR S l0 77) (zix ((uI (uI I (kR S l0 75) (zix (I l0 74)) l1) (kR S l0 76) (zix ((uI I (kR S l0 75) (zix (I l0 74)) l1) l0 74)) l2) l0 74)) l3) l0 74)) l4), L)) else none) else none) else none) else none) else none) else none) else none) else none) else none) else none) else none) else none :=
  (blk_ok zcod none d zc_X12_tell [(55, .getfield 155, 58, [12, 75, 2, 652, 0], none), (58, .aload_n 0, 59, [], none), (59, .getfield 278, 62, [12, 74, 0, 720, 0], none), (62, .iload_n 1, 63, [], none), (63, .iastore, 64, [20], none), (64, .aload_n 0, 65, [], none), (65, .getfield 158, 68, [12, 76, 2, 653, 0], none), (68, .aload_n 0, 69, [], none), (69, .getfield 278, 72, [12, 74, 0, 720, 0], none), (72, .iload_n 2, 73, [], none), (73, .iastore, 74, [20], none), (74, .aload_n 0, 75, [], none), (75, .getfield 161, 78, [12, 77, 2, 654, 0], none), (78, .aload_n 0, 79, [], none), (79, .getfield 278, 82, [12, 74, 0, 720, 0], none), (82, .iload_n 3, 83, [], none), (83, .iastore, 84, [20], none), (84, .aload_n 0, 85, [], none), (85, .getfield 164, 88, [12, 78, 2, 655, 0], none), (88, .aload_n 0, 89, [], none), (89, .getfield 278, 92, [12, 74, 0, 720, 0], none), (92, .iload 4, 94, [], none), (94, .iastore, 95, [20], none)] (54, .aload_n 0, 55, [], some [0, 1, 2, 3, 4, 5]) (by decide +kernel) _ _ _).trans rfl
set_option maxRecDepth 20000 in
set_option maxHeartbeats 4000000 in
theorem B_X12_tell_95 (d : Nat) (S : mS) (I : mI) (L : mJ) (l0 : Nat) (l5 : Int32) :
  evk zcod none d zc_X12_tell 95 [(0, .ref l0), (5, .int l5)] [] (S, I, L) =
  if kK S l0 = 12 then
 (if kK S l0 = 12 then
 (if kK S (kR S l0 79) = 20 ∧ zin (I l0 74) (kN S (kR S l0 79)) then
 (if kK S l0 = 12 then
 (if kK S l0 = 12 then
 (if kK S l0 = 12 then
 (some (some (.int (((uI (uI I (kR S l0 79) (zix (I l0 74)) l5) l0 74 (((uI I (kR S l0 79) (zix (I l0 74)) l5) l0 74) + (nI 1))) l0 74) - (nI 1))), (S, (uI (uI I (kR S l0 79) (zix (I l0 74)) l5) l0 74 (((uI I (kR S l0 79) (zix (I l0 74)) l5) l0 74) + (nI 1))), L))) else none) else none) else none) else none) else none) else none :=
  (blk_ok zcod none d zc_X12_tell [(96, .getfield 167, 99, [12, 79, 2, 656, 0], none), (99, .aload_n 0, 100, [], none), (100, .getfield 278, 103, [12, 74, 0, 720, 0], none), (103, .iload 5, 105, [], none), (105, .iastore, 106, [20], none), (106, .aload_n 0, 107, [], none), (107, .dup, 108, [], none), (108, .getfield 278, 111, [12, 74, 0, 720, 0], none), (111, .iconst 1, 112, [], none), (112, .iadd, 113, [], none), (113, .putfield 278, 116, [12, 74, 0, 720, 0, 0], none), (116, .aload_n 0, 117, [], none), (117, .getfield 278, 120, [12, 74, 0, 720, 0], none), (120, .iconst 1, 121, [], none), (121, .isub, 122, [], none), (122, .ireturn, 123, [0], none)] (95, .aload_n 0, 96, [], some [0, 5]) (by decide +kernel) _ _ _).trans rfl
theorem E_X12_forget (d : Nat) (M : zM) (l0 : Nat) : evM zcod (d + 1) 254 [.ref l0] M = evk zcod none d zc_X12_forget 0 [(0, .ref l0)] [] M := evM_eq zcod d 254 _ M (Nat.le_of_ble_eq_true rfl)
set_option maxRecDepth 20000 in
set_option maxHeartbeats 4000000 in
theorem B_X12_forget_0 (d : Nat) (S : mS) (I : mI) (L : mJ) (l0 : Nat) :
  evk zcod none d zc_X12_forget 0 [(0, .ref l0)] [] (S, I, L) =
  if kK S l0 = 12 then
 (if kK S l0 = 12 then
 (some (some (.int (I l0 74)), (S, (uI I l0 74 (nI 0)), L))) else none) else none :=
  (blk_ok zcod none d zc_X12_forget [(1, .getfield 278, 4, [12, 74, 0, 720, 0], none), (4, .istore_n 1, 5, [], none), (5, .aload_n 0, 6, [], none), (6, .iconst 0, 7, [], none), (7, .putfield 278, 10, [12, 74, 0, 720, 0, 0], none), (10, .iload_n 1, 11, [], none), (11, .ireturn, 12, [0], none)] (0, .aload_n 0, 1, [], none) (by decide +kernel) _ _ _).trans rfl
theorem E_X12_isSo (d : Nat) (M : zM) (l0 : Nat) (l1 : Int32) (l2 : Int32) : evM zcod (d + 1) 255 [.ref l0, .int l1, .int l2] M = evk zcod none d zc_X12_isSo 0 [(0, .ref l0), (1, .int l1), (2, .int l2)] [] M := evM_eq zcod d 255 _ M (Nat.le_of_ble_eq_true rfl)
set_option maxRecDepth 20000 in
set_option maxHeartbeats 4000000 in
theorem B_X12_isSo_0 (d : Nat) (S : mS) (I : mI) (L : mJ) (l0 : Nat) (l1 : Int32) (l2 : Int32) :
  evk zcod none d zc_X12_isSo 0 [(0, .ref l0), (1, .int l1), (2, .int l2)] [] (S, I, L) =
  if kK S l0 = 12 then
 (if kK S (kR S l0 77) = 20 ∧ zin l1 (kN S (kR S l0 77)) then
 (if kK S l0 = 12 then
 (bV (evM zcod d 231 [.ref l0, .int (I (kR S l0 77) (zix l1))] (S, I, L)) fun M1 =>
 if M1.1.1 = S.1 then
 (evk zcod none d zc_X12_isSo 12 [(0, .ref l0), (1, .int l1), (2, .int l2), (3, .int (nI 0))] [] M1) else none) else none) else none) else none :=
  (blk_ok zcod none d zc_X12_isSo [(1, .aload_n 0, 2, [], none), (2, .getfield 161, 5, [12, 77, 2, 654, 0], none), (5, .iload_n 1, 6, [], none), (6, .iaload, 7, [20], none), (7, .invokevirtual 455, 10, [231, 1, 0, 12, 861, 862, 863, 662], none), (10, .iconst 0, 11, [], none), (11, .istore_n 3, 12, [], none)] (0, .aload_n 0, 1, [], none) (by decide +kernel) _ _ _).trans rfl
set_option maxRecDepth 20000 in
set_option maxHeartbeats 4000000 in
theorem R_X12_isSo_12 (d : Nat) (S : mS) (I : mI) (L : mJ) (l0 : Nat) (l1 : Int32) (l2 : Int32) (l3 : Int32) :
  evk zcod none d zc_X12_isSo 12 [(0, .ref l0), (1, .int l1), (2, .int l2), (3, .int l3)] [] (S, I, L) =
  if kK S l0 = 12 then
 (if kK S (kR S l0 78) = 20 ∧ zin l1 (kN S (kR S l0 78)) then
 (if (I (kR S l0 78) (zix l1)) ≤ l3 then
 evk zcod none d zc_X12_isSo 64 [(0, .ref l0), (1, .int l1)] [] (S, I, L)
 else
 if kK S l0 = 12 then
 (if kK S (kR S l0 53) = 20 ∧ zin (nI 55) (kN S (kR S l0 53)) then
 (if kK S l0 = 12 then
 (if kK S (kR S l0 75) = 20 ∧ zin l1 (kN S (kR S l0 75)) then
 (if kK S l0 = 12 then
 (if kK S (kR S l0 76) = 20 ∧ zin l1 (kN S (kR S l0 76)) then
 (if kK S l0 = 12 then
 (bV (evM zcod d 232 [.ref l0, .int ((I (kR S l0 53) (zix (nI 55))) + l3), .int (Int32.ofInt (-1)), .int (I (kR S l0 75) (zix l1)), .int (I (kR S l0 76) (zix l1)), .int l2] (S, I, L)) fun M1 =>
 if M1.1.1 = S.1 then
 (if kK M1.1 l0 = 12 then
 (if (M1.2.1 l0 62) ≤ (nI 0) then
 evk zcod none d zc_X12_isSo 58 [(0, .ref l0), (1, .int l1), (2, .int l2), (3, .int l3)] [] M1
 else
 some (some (.int (nI 0)), M1)) else none) else none) else none) else none) else none) else none) else none) else none) else none) else none) else none :=
  (blk_ok zcod none d zc_X12_isSo [(13, .aload_n 0, 14, [], none), (14, .getfield 164, 17, [12, 78, 2, 655, 0], none), (17, .iload_n 1, 18, [], none), (18, .iaload, 19, [20], none), (19, .if_icmp .ge 45, 22, [64], none), (22, .aload_n 0, 23, [], none), (23, .aload_n 0, 24, [], none), (24, .getfield 125, 27, [12, 53, 2, 642, 0], none), (27, .bipush 55, 29, [], none), (29, .iaload, 30, [20], none), (30, .iload_n 3, 31, [], none), (31, .iadd, 32, [], none), (32, .iconst (-1), 33, [], none), (33, .aload_n 0, 34, [], none), (34, .getfield 155, 37, [12, 75, 2, 652, 0], none), (37, .iload_n 1, 38, [], none), (38, .iaload, 39, [20], none), (39, .aload_n 0, 40, [], none), (40, .getfield 158, 43, [12, 76, 2, 653, 0], none), (43, .iload_n 1, 44, [], none), (44, .iaload, 45, [20], none), (45, .iload_n 2, 46, [], none), (46, .invokevirtual 458, 49, [232, 5, 0, 12, 864, 865, 866, 662], none), (49, .aload_n 0, 50, [], none), (50, .getfield 440, 53, [12, 62, 0, 856, 0], none), (53, .ifCond .le 5, 56, [58], none), (56, .iconst 0, 57, [], none), (57, .ireturn, 58, [1], none)] (12, .iload_n 3, 13, [], some [0, 1, 2, 3]) (by decide +kernel) _ _ _).trans rfl
theorem B_X12_isSo_12 (d : Nat) (S : mS) (I : mI) (L : mJ) (l0 : Nat) (l1 : Int32) (l2 : Int32) (l3 : Int32) :
  evk zcod none d zc_X12_isSo 12 [(0, .ref l0), (1, .int l1), (2, .int l2), (3, .int l3)] [] (S, I, L) =
  if kK S l0 = 12 then
 (if kK S (kR S l0 78) = 20 ∧ zin l1 (kN S (kR S l0 78)) then
 (if (I (kR S l0 78) (zix l1)) ≤ l3 then
 evk zcod none d zc_X12_isSo 64 [(0, .ref l0), (1, .int l1)] [] (S, I, L)
 else
 if kK S l0 = 12 then
 (if kK S (kR S l0 53) = 20 ∧ zin (nI 55) (kN S (kR S l0 53)) then
 (if kK S l0 = 12 then
 (if kK S (kR S l0 75) = 20 ∧ zin l1 (kN S (kR S l0 75)) then
 (if kK S l0 = 12 then
 (if kK S (kR S l0 76) = 20 ∧ zin l1 (kN S (kR S l0 76)) then
 (if kK S l0 = 12 then
 (bV (evM zcod d 232 [.ref l0, .int ((I (kR S l0 53) (zix (nI 55))) + l3), .int (-1 : Int32), .int (I (kR S l0 75) (zix l1)), .int (I (kR S l0 76) (zix l1)), .int l2] (S, I, L)) fun M1 =>
 if M1.1.1 = S.1 then
 (if kK M1.1 l0 = 12 then
 (if (M1.2.1 l0 62) ≤ (nI 0) then
 evk zcod none d zc_X12_isSo 58 [(0, .ref l0), (1, .int l1), (2, .int l2), (3, .int l3)] [] M1
 else
 some (some (.int (nI 0)), M1)) else none) else none) else none) else none) else none) else none) else none) else none) else none) else none) else none := by
  simpa only [cvN] using R_X12_isSo_12 d S I L l0 l1 l2 l3
set_option maxRecDepth 20000 in
set_option maxHeartbeats 4000000 in
theorem B_X12_isSo_58 (d : Nat) (S : mS) (I : mI) (L : mJ) (l0 : Nat) (l1 : Int32) (l2 : Int32) (l3 : Int32) :
  evk zcod none d zc_X12_isSo 58 [(0, .ref l0), (1, .int l1), (2, .int l2), (3, .int l3)] [] (S, I, L) =
  evk zcod none d zc_X12_isSo 12 [(0, .ref l0), (1, .int l1), (2, .int l2), (3, .int (l3 + (nI 1)))] [] (S, I, L) :=
  (blk_ok zcod none d zc_X12_isSo [(61, .goto (-49), 64, [12], none)] (58, .iinc 3 1, 61, [], some [0, 1, 2, 3]) (by decide +kernel) _ _ _).trans rfl
set_option maxRecDepth 20000 in
set_option maxHeartbeats 4000000 in
theorem B_X12_isSo_64 (d : Nat) (S : mS) (I : mI) (L : mJ) (l0 : Nat) (l1 : Int32) :
  evk zcod none d zc_X12_isSo 64 [(0, .ref l0), (1, .int l1)] [] (S, I, L) =
  if kK S l0 = 12 then
 (if kK S l0 = 12 then
 (if kK S (kR S l0 79) = 20 ∧ zin l1 (kN S (kR S l0 79)) then
 (if ¬ (I l0 64) = (I (kR S l0 79) (zix l1)) then
 evk zcod none d zc_X12_isSo 81 [] [] (S, I, L)
 else
 evk zcod none d zc_X12_isSo 82 [] [.int (nI 1)] (S, I, L)) else none) else none) else none :=
  (blk_ok zcod none d zc_X12_isSo [(65, .getfield 446, 68, [12, 64, 0, 858, 0], none), (68, .aload_n 0, 69, [], none), (69, .getfield 167, 72, [12, 79, 2, 656, 0], none), (72, .iload_n 1, 73, [], none), (73, .iaload, 74, [20], none), (74, .if_icmp .ne 7, 77, [81], none), (77, .iconst 1, 78, [], none), (78, .goto 4, 81, [82], none)] (64, .aload_n 0, 65, [], some [0, 1]) (by decide +kernel) _ _ _).trans rfl
set_option maxRecDepth 20000 in
set_option maxHeartbeats 4000000 in
theorem B_X12_isSo_81 (d : Nat) (S : mS) (I : mI) (L : mJ)  :
  evk zcod none d zc_X12_isSo 81 [] [] (S, I, L) =
  evk zcod none d zc_X12_isSo 82 [] [.int (nI 0)] (S, I, L) :=
  (blk_ok zcod none d zc_X12_isSo [] (81, .iconst 0, 82, [], some []) (by decide +kernel) _ _ _).trans rfl
set_option maxRecDepth 20000 in
set_option maxHeartbeats 4000000 in
theorem B_X12_isSo_82 (d : Nat) (S : mS) (I : mI) (L : mJ) (s0 : Int32) :
  evk zcod none d zc_X12_isSo 82 [] [.int s0] (S, I, L) =
  if s0 = nI 0 ∨ s0 = nI 1 then some (some (.int s0), (S, I, L)) else none :=
  (blk_ok zcod none d zc_X12_isSo [] (82, .ireturn, 83, [1], some []) (by decide +kernel) _ _ _).trans rfl
theorem E_X12_pullBits (d : Nat) (M : zM) (l0 : Nat) (l1 : Int32) : evM zcod (d + 1) 256 [.ref l0, .int l1] M = evk zcod none d zc_X12_pullBits 0 [(0, .ref l0), (1, .int l1)] [] M := evM_eq zcod d 256 _ M (Nat.le_of_ble_eq_true rfl)
set_option maxRecDepth 20000 in
set_option maxHeartbeats 4000000 in
theorem R_X12_pullBits_0 (d : Nat) (S : mS) (I : mI) (L : mJ) (l0 : Nat) (l1 : Int32) :
  evk zcod none d zc_X12_pullBits 0 [(0, .ref l0), (1, .int l1)] [] (S, I, L) =
  if kK S l0 = 12 then
 (bV (evM zcod d 200 [.ref l0] (S, I, L)) fun M1 =>
 if M1.1.1 = S.1 then
 (evk zcod none d zc_X12_pullBits 9 [(0, .ref l0), (1, .int l1), (2, .int (nI 0)), (3, .int ((Int8.ofInt (-3)).toInt32))] [] M1) else none) else none :=
  (blk_ok zcod none d zc_X12_pullBits [(1, .invokevirtual 415, 4, [200, 0, 0, 12, 834, 835, 836, 662], none), (4, .iconst 0, 5, [], none), (5, .istore_n 2, 6, [], none), (6, .bipush (-3), 8, [], none), (8, .istore_n 3, 9, [], none)] (0, .aload_n 0, 1, [], none) (by decide +kernel) _ _ _).trans rfl
theorem B_X12_pullBits_0 (d : Nat) (S : mS) (I : mI) (L : mJ) (l0 : Nat) (l1 : Int32) :
  evk zcod none d zc_X12_pullBits 0 [(0, .ref l0), (1, .int l1)] [] (S, I, L) =
  if kK S l0 = 12 then
 (bV (evM zcod d 200 [.ref l0] (S, I, L)) fun M1 =>
 if M1.1.1 = S.1 then
 (evk zcod none d zc_X12_pullBits 9 [(0, .ref l0), (1, .int l1), (2, .int (nI 0)), (3, .int (-3 : Int32))] [] M1) else none) else none := by
  simpa only [cvN] using R_X12_pullBits_0 d S I L l0 l1
set_option maxRecDepth 20000 in
set_option maxHeartbeats 4000000 in
theorem B_X12_pullBits_9 (d : Nat) (S : mS) (I : mI) (L : mJ) (l0 : Nat) (l1 : Int32) (l2 : Int32) (l3 : Int32) :
  evk zcod none d zc_X12_pullBits 9 [(0, .ref l0), (1, .int l1), (2, .int l2), (3, .int l3)] [] (S, I, L) =
  if (nI 3) < l3 then
 evk zcod none d zc_X12_pullBits 65 [(2, .int l2)] [] (S, I, L)
 else
 evk zcod none d zc_X12_pullBits 20 [(0, .ref l0), (1, .int l1), (2, .int l2), (3, .int l3), (4, .int (nI 1)), (5, .int (nI 0))] [] (S, I, L) :=
  (blk_ok zcod none d zc_X12_pullBits [(10, .iconst 3, 11, [], none), (11, .if_icmp .gt 54, 14, [65], none), (14, .iconst 1, 15, [], none), (15, .istore 4, 17, [], none), (17, .iconst 0, 18, [], none), (18, .istore 5, 20, [], none)] (9, .iload_n 3, 10, [], some [0, 1, 2, 3]) (by decide +kernel) _ _ _).trans rfl
set_option maxRecDepth 20000 in
set_option maxHeartbeats 4000000 in
theorem B_X12_pullBits_20 (d : Nat) (S : mS) (I : mI) (L : mJ) (l0 : Nat) (l1 : Int32) (l2 : Int32) (l3 : Int32) (l4 : Int32) (l5 : Int32) :
  evk zcod none d zc_X12_pullBits 20 [(0, .ref l0), (1, .int l1), (2, .int l2), (3, .int l3), (4, .int l4), (5, .int l5)] [] (S, I, L) =
  if l1 ≤ l5 then
 evk zcod none d zc_X12_pullBits 46 [(0, .ref l0), (1, .int l1), (2, .int l2), (3, .int l3), (4, .int l4)] [] (S, I, L)
 else
 if l4 = (nI 0) then
 evk zcod none d zc_X12_pullBits 46 [(0, .ref l0), (1, .int l1), (2, .int l2), (3, .int l3), (4, .int l4)] [] (S, I, L)
 else
 if kK S l0 = 12 then
 (bI (evM zcod d 255 [.ref l0, .int l5, .int l3] (S, I, L)) fun x1 M1 =>
 if M1.1.1 = S.1 then
 (evk zcod none d zc_X12_pullBits 20 [(0, .ref l0), (1, .int l1), (2, .int l2), (3, .int l3), (4, .int x1), (5, .int (l5 + (nI 1)))] [] M1) else none) else none :=
  (blk_ok zcod none d zc_X12_pullBits [(22, .iload_n 1, 23, [], none), (23, .if_icmp .ge 23, 26, [46], none), (26, .iload 4, 28, [], none), (28, .ifCond .eq 18, 31, [46], none), (31, .aload_n 0, 32, [], none), (32, .iload 5, 34, [], none), (34, .iload_n 3, 35, [], none), (35, .invokevirtual 501, 38, [255, 2, 1, 12, 895, 896, 897, 662], none), (38, .istore 4, 40, [], none), (40, .iinc 5 1, 43, [], none), (43, .goto (-23), 46, [20], none)] (20, .iload 5, 22, [], some [0, 1, 2, 3, 4, 5]) (by decide +kernel) _ _ _).trans rfl
set_option maxRecDepth 20000 in
set_option maxHeartbeats 4000000 in
theorem B_X12_pullBits_46 (d : Nat) (S : mS) (I : mI) (L : mJ) (l0 : Nat) (l1 : Int32) (l2 : Int32) (l3 : Int32) (l4 : Int32) :
  evk zcod none d zc_X12_pullBits 46 [(0, .ref l0), (1, .int l1), (2, .int l2), (3, .int l3), (4, .int l4)] [] (S, I, L) =
  if l4 = (nI 0) then
 evk zcod none d zc_X12_pullBits 59 [(0, .ref l0), (1, .int l1), (2, .int l2), (3, .int l3)] [] (S, I, L)
 else
 evk zcod none d zc_X12_pullBits 59 [(0, .ref l0), (1, .int l1), (2, .int (l2 ||| ((nI 1) <<< ((l3 + (nI 3)) &&& nI 31)))), (3, .int l3)] [] (S, I, L) :=
  (blk_ok zcod none d zc_X12_pullBits [(48, .ifCond .eq 11, 51, [59], none), (51, .iload_n 2, 52, [], none), (52, .iconst 1, 53, [], none), (53, .iload_n 3, 54, [], none), (54, .iconst 3, 55, [], none), (55, .iadd, 56, [], none), (56, .ishl, 57, [], none), (57, .ior, 58, [], none), (58, .istore_n 2, 59, [], none)] (46, .iload 4, 48, [], some [0, 1, 2, 3, 4]) (by decide +kernel) _ _ _).trans rfl
set_option maxRecDepth 20000 in
set_option maxHeartbeats 4000000 in
theorem B_X12_pullBits_59 (d : Nat) (S : mS) (I : mI) (L : mJ) (l0 : Nat) (l1 : Int32) (l2 : Int32) (l3 : Int32) :
  evk zcod none d zc_X12_pullBits 59 [(0, .ref l0), (1, .int l1), (2, .int l2), (3, .int l3)] [] (S, I, L) =
  evk zcod none d zc_X12_pullBits 9 [(0, .ref l0), (1, .int l1), (2, .int l2), (3, .int (l3 + (nI 1)))] [] (S, I, L) :=
  (blk_ok zcod none d zc_X12_pullBits [(62, .goto (-53), 65, [9], none)] (59, .iinc 3 1, 62, [], some [0, 1, 2, 3]) (by decide +kernel) _ _ _).trans rfl
set_option maxRecDepth 20000 in
set_option maxHeartbeats 4000000 in
theorem B_X12_pullBits_65 (d : Nat) (S : mS) (I : mI) (L : mJ) (l2 : Int32) :
  evk zcod none d zc_X12_pullBits 65 [(2, .int l2)] [] (S, I, L) =
  some (some (.int l2), (S, I, L)) :=
  (blk_ok zcod none d zc_X12_pullBits [(66, .ireturn, 67, [0], none)] (65, .iload_n 2, 66, [], some [2]) (by decide +kernel) _ _ _).trans rfl
theorem E_X12_pulls (d : Nat) (M : zM) (l0 : Nat) (l1 : Int32) (l2 : Int32) : evM zcod (d + 1) 257 [.ref l0, .int l1, .int l2] M = evk zcod none d zc_X12_pulls 0 [(0, .ref l0), (1, .int l1), (2, .int l2)] [] M := evM_eq zcod d 257 _ M (Nat.le_of_ble_eq_true rfl)
set_option maxRecDepth 20000 in
set_option maxHeartbeats 4000000 in
theorem B_X12_pulls_0 (d : Nat) (S : mS) (I : mI) (L : mJ) (l0 : Nat) (l1 : Int32) (l2 : Int32) :
  evk zcod none d zc_X12_pulls 0 [(0, .ref l0), (1, .int l1), (2, .int l2)] [] (S, I, L) =
  if kK S l0 = 12 then
 (bI (evM zcod d 191 [.int l1, .int (nI 0), .int (I l0 74)] (S, I, L)) fun x1 M1 =>
 if M1.1.1 = S.1 then
 (if x1 = (nI 0) then
 evk zcod none d zc_X12_pulls 21 [] [] M1
 else
 bI (evM zcod d 191 [.int l2, .int (nI 0), .int (nI 1)] M1) fun x2 M2 =>
 if M2.1.1 = M1.1.1 then
 (if ¬ x2 = (nI 0) then
 evk zcod none d zc_X12_pulls 23 [(0, .ref l0), (1, .int l1), (2, .int l2)] [] M2
 else
 evk zcod none d zc_X12_pulls 21 [] [] M2) else none) else none) else none :=
  (blk_ok zcod none d zc_X12_pulls [(1, .iconst 0, 2, [], none), (2, .aload_n 0, 3, [], none), (3, .getfield 278, 6, [12, 74, 0, 720, 0], none), (6, .invokestatic 340, 9, [191, 3, 1, 0, 771, 772, 662], none), (9, .ifCond .eq 12, 12, [21], none), (12, .iload_n 2, 13, [], none), (13, .iconst 0, 14, [], none), (14, .iconst 1, 15, [], none), (15, .invokestatic 340, 18, [191, 3, 1, 0, 771, 772, 662], none), (18, .ifCond .ne 5, 21, [23], none)] (0, .iload_n 1, 1, [], none) (by decide +kernel) _ _ _).trans rfl
set_option maxRecDepth 20000 in
set_option maxHeartbeats 4000000 in
theorem R_X12_pulls_21 (d : Nat) (S : mS) (I : mI) (L : mJ)  :
  evk zcod none d zc_X12_pulls 21 [] [] (S, I, L) =
  some (some (.int (Int32.ofInt (-1))), (S, I, L)) :=
  (blk_ok zcod none d zc_X12_pulls [(22, .ireturn, 23, [0], none)] (21, .iconst (-1), 22, [], some []) (by decide +kernel) _ _ _).trans rfl
theorem B_X12_pulls_21 (d : Nat) (S : mS) (I : mI) (L : mJ)  :
  evk zcod none d zc_X12_pulls 21 [] [] (S, I, L) =
  some (some (.int (-1 : Int32)), (S, I, L)) := by
  simpa only [cvN] using R_X12_pulls_21 d S I L 
set_option maxRecDepth 20000 in
set_option maxHeartbeats 4000000 in
theorem B_X12_pulls_23 (d : Nat) (S : mS) (I : mI) (L : mJ) (l0 : Nat) (l1 : Int32) (l2 : Int32) :
  evk zcod none d zc_X12_pulls 23 [(0, .ref l0), (1, .int l1), (2, .int l2)] [] (S, I, L) =
  if kK S l0 = 12 then
 (bI (evM zcod d 256 [.ref l0, .int l1] (S, I, L)) fun x1 M1 =>
 if M1.1.1 = S.1 then
 (if ¬ l2 = (nI 0) then
 evk zcod none d zc_X12_pulls 40 [(3, .int x1)] [] M1
 else
 bI (evM zcod d 193 [.int x1] M1) fun x2 M2 =>
 if M2.1.1 = M1.1.1 then
 (evk zcod none d zc_X12_pulls 41 [] [.int x2] M2) else none) else none) else none :=
  (blk_ok zcod none d zc_X12_pulls [(24, .iload_n 1, 25, [], none), (25, .invokevirtual 504, 28, [256, 1, 1, 12, 898, 899, 900, 662], none), (28, .istore_n 3, 29, [], none), (29, .iload_n 2, 30, [], none), (30, .ifCond .ne 10, 33, [40], none), (33, .iload_n 3, 34, [], none), (34, .invokestatic 354, 37, [193, 1, 1, 0, 780, 781, 662], none), (37, .goto 4, 40, [41], none)] (23, .aload_n 0, 24, [], some [0, 1, 2]) (by decide +kernel) _ _ _).trans rfl
set_option maxRecDepth 20000 in
set_option maxHeartbeats 4000000 in
theorem B_X12_pulls_40 (d : Nat) (S : mS) (I : mI) (L : mJ) (l3 : Int32) :
  evk zcod none d zc_X12_pulls 40 [(3, .int l3)] [] (S, I, L) =
  evk zcod none d zc_X12_pulls 41 [] [.int l3] (S, I, L) :=
  (blk_ok zcod none d zc_X12_pulls [] (40, .iload_n 3, 41, [], some [3]) (by decide +kernel) _ _ _).trans rfl
set_option maxRecDepth 20000 in
set_option maxHeartbeats 4000000 in
theorem B_X12_pulls_41 (d : Nat) (S : mS) (I : mI) (L : mJ) (s0 : Int32) :
  evk zcod none d zc_X12_pulls 41 [] [.int s0] (S, I, L) =
  some (some (.int s0), (S, I, L)) :=
  (blk_ok zcod none d zc_X12_pulls [] (41, .ireturn, 42, [0], some []) (by decide +kernel) _ _ _).trans rfl
theorem E_X12_sure (d : Nat) (M : zM) (l0 : Nat) (l1 : Int32) : evM zcod (d + 1) 258 [.ref l0, .int l1] M = evk zcod none d zc_X12_sure 0 [(0, .ref l0), (1, .int l1)] [] M := evM_eq zcod d 258 _ M (Nat.le_of_ble_eq_true rfl)
set_option maxRecDepth 20000 in
set_option maxHeartbeats 4000000 in
theorem R_X12_sure_0 (d : Nat) (S : mS) (I : mI) (L : mJ) (l0 : Nat) (l1 : Int32) :
  evk zcod none d zc_X12_sure 0 [(0, .ref l0), (1, .int l1)] [] (S, I, L) =
  if kK S l0 = 12 then
 (bI (evM zcod d 191 [.int l1, .int (nI 0), .int (I l0 74)] (S, I, L)) fun x1 M1 =>
 if M1.1.1 = S.1 then
 (if ¬ x1 = (nI 0) then
 evk zcod none d zc_X12_sure 16 [(0, .ref l0), (1, .int l1)] [] M1
 else
 some (some (.int ((Int16.ofInt (-1000)).toInt32)), M1)) else none) else none :=
  (blk_ok zcod none d zc_X12_sure [(1, .iconst 0, 2, [], none), (2, .aload_n 0, 3, [], none), (3, .getfield 278, 6, [12, 74, 0, 720, 0], none), (6, .invokestatic 340, 9, [191, 3, 1, 0, 771, 772, 662], none), (9, .ifCond .ne 7, 12, [16], none), (12, .sipush (-1000), 15, [], none), (15, .ireturn, 16, [0], none)] (0, .iload_n 1, 1, [], none) (by decide +kernel) _ _ _).trans rfl
theorem B_X12_sure_0 (d : Nat) (S : mS) (I : mI) (L : mJ) (l0 : Nat) (l1 : Int32) :
  evk zcod none d zc_X12_sure 0 [(0, .ref l0), (1, .int l1)] [] (S, I, L) =
  if kK S l0 = 12 then
 (bI (evM zcod d 191 [.int l1, .int (nI 0), .int (I l0 74)] (S, I, L)) fun x1 M1 =>
 if M1.1.1 = S.1 then
 (if ¬ x1 = (nI 0) then
 evk zcod none d zc_X12_sure 16 [(0, .ref l0), (1, .int l1)] [] M1
 else
 some (some (.int (-1000 : Int32)), M1)) else none) else none := by
  simpa only [cvN] using R_X12_sure_0 d S I L l0 l1
set_option maxRecDepth 20000 in
set_option maxHeartbeats 4000000 in
theorem R_X12_sure_16 (d : Nat) (S : mS) (I : mI) (L : mJ) (l0 : Nat) (l1 : Int32) :
  evk zcod none d zc_X12_sure 16 [(0, .ref l0), (1, .int l1)] [] (S, I, L) =
  if kK S l0 = 12 then
 (bI (evM zcod d 256 [.ref l0, .int l1] (S, I, L)) fun x1 M1 =>
 if M1.1.1 = S.1 then
 (evk zcod none d zc_X12_sure 25 [(2, .int x1), (3, .int ((Int8.ofInt (-3)).toInt32))] [] M1) else none) else none :=
  (blk_ok zcod none d zc_X12_sure [(17, .iload_n 1, 18, [], none), (18, .invokevirtual 504, 21, [256, 1, 1, 12, 898, 899, 900, 662], none), (21, .istore_n 2, 22, [], none), (22, .bipush (-3), 24, [], none), (24, .istore_n 3, 25, [], none)] (16, .aload_n 0, 17, [], some [0, 1]) (by decide +kernel) _ _ _).trans rfl
theorem B_X12_sure_16 (d : Nat) (S : mS) (I : mI) (L : mJ) (l0 : Nat) (l1 : Int32) :
  evk zcod none d zc_X12_sure 16 [(0, .ref l0), (1, .int l1)] [] (S, I, L) =
  if kK S l0 = 12 then
 (bI (evM zcod d 256 [.ref l0, .int l1] (S, I, L)) fun x1 M1 =>
 if M1.1.1 = S.1 then
 (evk zcod none d zc_X12_sure 25 [(2, .int x1), (3, .int (-3 : Int32))] [] M1) else none) else none := by
  simpa only [cvN] using R_X12_sure_16 d S I L l0 l1
set_option maxRecDepth 20000 in
set_option maxHeartbeats 4000000 in
theorem B_X12_sure_25 (d : Nat) (S : mS) (I : mI) (L : mJ) (l2 : Int32) (l3 : Int32) :
  evk zcod none d zc_X12_sure 25 [(2, .int l2), (3, .int l3)] [] (S, I, L) =
  if (nI 3) < l3 then
 evk zcod none d zc_X12_sure 47 [] [] (S, I, L)
 else
 if ¬ l2 = ((nI 1) <<< ((l3 + (nI 3)) &&& nI 31)) then
 evk zcod none d zc_X12_sure 41 [(2, .int l2), (3, .int l3)] [] (S, I, L)
 else
 some (some (.int l3), (S, I, L)) :=
  (blk_ok zcod none d zc_X12_sure [(26, .iconst 3, 27, [], none), (27, .if_icmp .gt 20, 30, [47], none), (30, .iload_n 2, 31, [], none), (31, .iconst 1, 32, [], none), (32, .iload_n 3, 33, [], none), (33, .iconst 3, 34, [], none), (34, .iadd, 35, [], none), (35, .ishl, 36, [], none), (36, .if_icmp .ne 5, 39, [41], none), (39, .iload_n 3, 40, [], none), (40, .ireturn, 41, [0], none)] (25, .iload_n 3, 26, [], some [2, 3]) (by decide +kernel) _ _ _).trans rfl
set_option maxRecDepth 20000 in
set_option maxHeartbeats 4000000 in
theorem B_X12_sure_41 (d : Nat) (S : mS) (I : mI) (L : mJ) (l2 : Int32) (l3 : Int32) :
  evk zcod none d zc_X12_sure 41 [(2, .int l2), (3, .int l3)] [] (S, I, L) =
  evk zcod none d zc_X12_sure 25 [(2, .int l2), (3, .int (l3 + (nI 1)))] [] (S, I, L) :=
  (blk_ok zcod none d zc_X12_sure [(44, .goto (-19), 47, [25], none)] (41, .iinc 3 1, 44, [], some [2, 3]) (by decide +kernel) _ _ _).trans rfl
set_option maxRecDepth 20000 in
set_option maxHeartbeats 4000000 in
theorem R_X12_sure_47 (d : Nat) (S : mS) (I : mI) (L : mJ)  :
  evk zcod none d zc_X12_sure 47 [] [] (S, I, L) =
  some (some (.int ((Int8.ofInt (-100)).toInt32)), (S, I, L)) :=
  (blk_ok zcod none d zc_X12_sure [(49, .ireturn, 50, [0], none)] (47, .bipush (-100), 49, [], some []) (by decide +kernel) _ _ _).trans rfl
theorem B_X12_sure_47 (d : Nat) (S : mS) (I : mI) (L : mJ)  :
  evk zcod none d zc_X12_sure 47 [] [] (S, I, L) =
  some (some (.int (-100 : Int32)), (S, I, L)) := by
  simpa only [cvN] using R_X12_sure_47 d S I L 
theorem E_X12_hold (d : Nat) (M : zM) (l0 : Nat) (l1 : Int32) : evM zcod (d + 1) 259 [.ref l0, .int l1] M = evk zcod none d zc_X12_hold 0 [(0, .ref l0), (1, .int l1)] [] M := evM_eq zcod d 259 _ M (Nat.le_of_ble_eq_true rfl)
set_option maxRecDepth 20000 in
set_option maxHeartbeats 4000000 in
theorem B_X12_hold_0 (d : Nat) (S : mS) (I : mI) (L : mJ) (l0 : Nat) (l1 : Int32) :
  evk zcod none d zc_X12_hold 0 [(0, .ref l0), (1, .int l1)] [] (S, I, L) =
  bI (evM zcod d 191 [.int l1, .int (nI 0), .int (nI 2)] (S, I, L)) fun x1 M1 =>
 if M1.1.1 = S.1 then
 (if ¬ x1 = (nI 0) then
 evk zcod none d zc_X12_hold 11 [(0, .ref l0), (1, .int l1)] [] M1
 else
 some (some (.int (nI 0)), M1)) else none :=
  (blk_ok zcod none d zc_X12_hold [(1, .iconst 0, 2, [], none), (2, .iconst 2, 3, [], none), (3, .invokestatic 340, 6, [191, 3, 1, 0, 771, 772, 662], none), (6, .ifCond .ne 5, 9, [11], none), (9, .iconst 0, 10, [], none), (10, .ireturn, 11, [1], none)] (0, .iload_n 1, 1, [], none) (by decide +kernel) _ _ _).trans rfl
set_option maxRecDepth 20000 in
set_option maxHeartbeats 4000000 in
theorem B_X12_hold_11 (d : Nat) (S : mS) (I : mI) (L : mJ) (l0 : Nat) (l1 : Int32) :
  evk zcod none d zc_X12_hold 11 [(0, .ref l0), (1, .int l1)] [] (S, I, L) =
  if kK S l0 = 12 then
 (if kK S (kR S l0 80) = 22 ∧ zin l1 (kN S (kR S l0 80)) then
 (evk zcod none d zc_X12_hold 20 [(0, .ref l0), (1, .int l1), (2, .int (nI 0))] [] (S, (uI I (kR S l0 80) (zix l1) ((nI 1) &&& nI 1)), L)) else none) else none :=
  (blk_ok zcod none d zc_X12_hold [(12, .getfield 170, 15, [12, 80, 2, 657, 0], none), (15, .iload_n 1, 16, [], none), (16, .iconst 1, 17, [], none), (17, .bastore, 18, [22], none), (18, .iconst 0, 19, [], none), (19, .istore_n 2, 20, [], none)] (11, .aload_n 0, 12, [], some [0, 1]) (by decide +kernel) _ _ _).trans rfl
set_option maxRecDepth 20000 in
set_option maxHeartbeats 4000000 in
theorem B_X12_hold_20 (d : Nat) (S : mS) (I : mI) (L : mJ) (l0 : Nat) (l1 : Int32) (l2 : Int32) :
  evk zcod none d zc_X12_hold 20 [(0, .ref l0), (1, .int l1), (2, .int l2)] [] (S, I, L) =
  if (nI 58) ≤ l2 then
 evk zcod none d zc_X12_hold 49 [] [] (S, I, L)
 else
 if kK S l0 = 12 then
 (if kK S l0 = 12 then
 (if kK S (kR S l0 52) = 20 ∧ zin l2 (kN S (kR S l0 52)) then
 (if kK S (kR S l0 81) = 20 ∧ zin (((nI 58) * l1) + l2) (kN S (kR S l0 81)) then
 (evk zcod none d zc_X12_hold 20 [(0, .ref l0), (1, .int l1), (2, .int (l2 + (nI 1)))] [] (S, (uI I (kR S l0 81) (zix (((nI 58) * l1) + l2)) (I (kR S l0 52) (zix l2))), L)) else none) else none) else none) else none :=
  (blk_ok zcod none d zc_X12_hold [(21, .bipush 58, 23, [], none), (23, .if_icmp .ge 26, 26, [49], none), (26, .aload_n 0, 27, [], none), (27, .getfield 173, 30, [12, 81, 2, 658, 0], none), (30, .bipush 58, 32, [], none), (32, .iload_n 1, 33, [], none), (33, .imul, 34, [], none), (34, .iload_n 2, 35, [], none), (35, .iadd, 36, [], none), (36, .aload_n 0, 37, [], none), (37, .getfield 122, 40, [12, 52, 2, 641, 0], none), (40, .iload_n 2, 41, [], none), (41, .iaload, 42, [20], none), (42, .iastore, 43, [20], none), (43, .iinc 2 1, 46, [], none), (46, .goto (-26), 49, [20], none)] (20, .iload_n 2, 21, [], some [0, 1, 2]) (by decide +kernel) _ _ _).trans rfl
set_option maxRecDepth 20000 in
set_option maxHeartbeats 4000000 in
theorem B_X12_hold_49 (d : Nat) (S : mS) (I : mI) (L : mJ)  :
  evk zcod none d zc_X12_hold 49 [] [] (S, I, L) =
  some (some (.int (nI 1)), (S, I, L)) :=
  (blk_ok zcod none d zc_X12_hold [(50, .ireturn, 51, [1], none)] (49, .iconst 1, 50, [], some []) (by decide +kernel) _ _ _).trans rfl
theorem E_X12_restore (d : Nat) (M : zM) (l0 : Nat) (l1 : Int32) : evM zcod (d + 1) 260 [.ref l0, .int l1] M = evk zcod none d zc_X12_restore 0 [(0, .ref l0), (1, .int l1)] [] M := evM_eq zcod d 260 _ M (Nat.le_of_ble_eq_true rfl)
set_option maxRecDepth 20000 in
set_option maxHeartbeats 4000000 in
theorem B_X12_restore_0 (d : Nat) (S : mS) (I : mI) (L : mJ) (l0 : Nat) (l1 : Int32) :
  evk zcod none d zc_X12_restore 0 [(0, .ref l0), (1, .int l1)] [] (S, I, L) =
  bI (evM zcod d 191 [.int l1, .int (nI 0), .int (nI 2)] (S, I, L)) fun x1 M1 =>
 if M1.1.1 = S.1 then
 (if x1 = (nI 0) then
 evk zcod none d zc_X12_restore 18 [] [] M1
 else
 if kK M1.1 l0 = 12 then
 (if kK M1.1 (kR M1.1 l0 80) = 22 ∧ zin l1 (kN M1.1 (kR M1.1 l0 80)) then
 (if ¬ (M1.2.1 (kR M1.1 l0 80) (zix l1)) = (nI 0) then
 evk zcod none d zc_X12_restore 20 [(0, .ref l0), (1, .int l1)] [] M1
 else
 evk zcod none d zc_X12_restore 18 [] [] M1) else none) else none) else none :=
  (blk_ok zcod none d zc_X12_restore [(1, .iconst 0, 2, [], none), (2, .iconst 2, 3, [], none), (3, .invokestatic 340, 6, [191, 3, 1, 0, 771, 772, 662], none), (6, .ifCond .eq 12, 9, [18], none), (9, .aload_n 0, 10, [], none), (10, .getfield 170, 13, [12, 80, 2, 657, 0], none), (13, .iload_n 1, 14, [], none), (14, .baload, 15, [22], none), (15, .ifCond .ne 5, 18, [20], none)] (0, .iload_n 1, 1, [], none) (by decide +kernel) _ _ _).trans rfl
set_option maxRecDepth 20000 in
set_option maxHeartbeats 4000000 in
theorem B_X12_restore_18 (d : Nat) (S : mS) (I : mI) (L : mJ)  :
  evk zcod none d zc_X12_restore 18 [] [] (S, I, L) =
  some (some (.int (nI 0)), (S, I, L)) :=
  (blk_ok zcod none d zc_X12_restore [(19, .ireturn, 20, [1], none)] (18, .iconst 0, 19, [], some []) (by decide +kernel) _ _ _).trans rfl
set_option maxRecDepth 20000 in
set_option maxHeartbeats 4000000 in
theorem B_X12_restore_20 (d : Nat) (S : mS) (I : mI) (L : mJ) (l0 : Nat) (l1 : Int32) :
  evk zcod none d zc_X12_restore 20 [(0, .ref l0), (1, .int l1)] [] (S, I, L) =
  evk zcod none d zc_X12_restore 22 [(0, .ref l0), (1, .int l1), (2, .int (nI 0))] [] (S, I, L) :=
  (blk_ok zcod none d zc_X12_restore [(21, .istore_n 2, 22, [], none)] (20, .iconst 0, 21, [], some [0, 1]) (by decide +kernel) _ _ _).trans rfl
set_option maxRecDepth 20000 in
set_option maxHeartbeats 4000000 in
theorem B_X12_restore_22 (d : Nat) (S : mS) (I : mI) (L : mJ) (l0 : Nat) (l1 : Int32) (l2 : Int32) :
  evk zcod none d zc_X12_restore 22 [(0, .ref l0), (1, .int l1), (2, .int l2)] [] (S, I, L) =
  if (nI 58) ≤ l2 then
 evk zcod none d zc_X12_restore 51 [(0, .ref l0)] [] (S, I, L)
 else
 if kK S l0 = 12 then
 (if kK S l0 = 12 then
 (if kK S (kR S l0 81) = 20 ∧ zin (((nI 58) * l1) + l2) (kN S (kR S l0 81)) then
 (if kK S (kR S l0 52) = 20 ∧ zin l2 (kN S (kR S l0 52)) then
 (evk zcod none d zc_X12_restore 22 [(0, .ref l0), (1, .int l1), (2, .int (l2 + (nI 1)))] [] (S, (uI I (kR S l0 52) (zix l2) (I (kR S l0 81) (zix (((nI 58) * l1) + l2)))), L)) else none) else none) else none) else none :=
  (blk_ok zcod none d zc_X12_restore [(23, .bipush 58, 25, [], none), (25, .if_icmp .ge 26, 28, [51], none), (28, .aload_n 0, 29, [], none), (29, .getfield 122, 32, [12, 52, 2, 641, 0], none), (32, .iload_n 2, 33, [], none), (33, .aload_n 0, 34, [], none), (34, .getfield 173, 37, [12, 81, 2, 658, 0], none), (37, .bipush 58, 39, [], none), (39, .iload_n 1, 40, [], none), (40, .imul, 41, [], none), (41, .iload_n 2, 42, [], none), (42, .iadd, 43, [], none), (43, .iaload, 44, [20], none), (44, .iastore, 45, [20], none), (45, .iinc 2 1, 48, [], none), (48, .goto (-26), 51, [22], none)] (22, .iload_n 2, 23, [], some [0, 1, 2]) (by decide +kernel) _ _ _).trans rfl
set_option maxRecDepth 20000 in
set_option maxHeartbeats 4000000 in
theorem B_X12_restore_51 (d : Nat) (S : mS) (I : mI) (L : mJ) (l0 : Nat) :
  evk zcod none d zc_X12_restore 51 [(0, .ref l0)] [] (S, I, L) =
  if kK S l0 = 12 then
 (some (some (.int (nI 1)), (S, (uI I l0 59 (nI 0)), L))) else none :=
  (blk_ok zcod none d zc_X12_restore [(52, .iconst 0, 53, [], none), (53, .putfield 275, 56, [12, 59, 0, 719, 0, 0], none), (56, .iconst 1, 57, [], none), (57, .ireturn, 58, [1], none)] (51, .aload_n 0, 52, [], some [0]) (by decide +kernel) _ _ _).trans rfl
theorem E_X12_count (d : Nat) (M : zM) (l0 : Nat) (l1 : Int32) : evM zcod (d + 1) 261 [.ref l0, .int l1] M = evk zcod none d zc_X12_count 0 [(0, .ref l0), (1, .int l1)] [] M := evM_eq zcod d 261 _ M (Nat.le_of_ble_eq_true rfl)
set_option maxRecDepth 20000 in
set_option maxHeartbeats 4000000 in
theorem B_X12_count_0 (d : Nat) (S : mS) (I : mI) (L : mJ) (l0 : Nat) (l1 : Int32) :
  evk zcod none d zc_X12_count 0 [(0, .ref l0), (1, .int l1)] [] (S, I, L) =
  if kK S l0 = 12 then
 (bV (evM zcod d 200 [.ref l0] (S, I, L)) fun M1 =>
 if M1.1.1 = S.1 then
 (if l1 = (nI 0) then evk zcod none d zc_X12_count 84 [(0, .ref l0)] [] M1 else
 if l1 = (nI 1) then evk zcod none d zc_X12_count 94 [(0, .ref l0)] [] M1 else
 if l1 = (nI 2) then evk zcod none d zc_X12_count 104 [(0, .ref l0)] [] M1 else
 if l1 = (nI 3) then evk zcod none d zc_X12_count 114 [(0, .ref l0)] [] M1 else
 if l1 = (nI 4) then evk zcod none d zc_X12_count 122 [(0, .ref l0), (1, .int l1)] [] M1 else
 if l1 = (nI 5) then evk zcod none d zc_X12_count 122 [(0, .ref l0), (1, .int l1)] [] M1 else
 if l1 = (nI 6) then evk zcod none d zc_X12_count 122 [(0, .ref l0), (1, .int l1)] [] M1 else
 if l1 = (nI 7) then evk zcod none d zc_X12_count 122 [(0, .ref l0), (1, .int l1)] [] M1 else
 if l1 = (nI 8) then evk zcod none d zc_X12_count 130 [(0, .ref l0), (1, .int l1)] [] M1 else
 if l1 = (nI 9) then evk zcod none d zc_X12_count 130 [(0, .ref l0), (1, .int l1)] [] M1 else
 if l1 = (nI 10) then evk zcod none d zc_X12_count 140 [(0, .ref l0)] [] M1 else
 if l1 = (nI 11) then evk zcod none d zc_X12_count 145 [(0, .ref l0)] [] M1 else
 if l1 = (nI 12) then evk zcod none d zc_X12_count 150 [(0, .ref l0)] [] M1 else
 if l1 = (nI 13) then evk zcod none d zc_X12_count 155 [(0, .ref l0)] [] M1 else
 if l1 = (nI 14) then evk zcod none d zc_X12_count 200 [(0, .ref l0)] [] M1 else
 if l1 = (nI 15) then evk zcod none d zc_X12_count 213 [(0, .ref l0)] [] M1 else
 evk zcod none d zc_X12_count 223 [] [] M1) else none) else none :=
  (blk_ok zcod none d zc_X12_count [(1, .invokevirtual 415, 4, [200, 0, 0, 12, 834, 835, 836, 662], none), (4, .iload_n 1, 5, [], none), (5, .tableswitch 218 0 15 #[79, 89, 99, 109, 117, 117, 117, 117, 125, 125, 135, 140, 145, 150, 195, 208], 84, [223, 84, 94, 104, 114, 122, 122, 122, 122, 130, 130, 140, 145, 150, 155, 200, 213], none)] (0, .aload_n 0, 1, [], none) (by decide +kernel) _ _ _).trans rfl
set_option maxRecDepth 20000 in
set_option maxHeartbeats 4000000 in
theorem B_X12_count_84 (d : Nat) (S : mS) (I : mI) (L : mJ) (l0 : Nat) :
  evk zcod none d zc_X12_count 84 [(0, .ref l0)] [] (S, I, L) =
  if kK S l0 = 12 then
 (if kK S l0 = 12 then
 (if kK S (kR S l0 22) = 20 ∧ zin (I l0 18) (kN S (kR S l0 22)) then
 (some (some (.int (I (kR S l0 22) (zix (I l0 18)))), (S, I, L))) else none) else none) else none :=
  (blk_ok zcod none d zc_X12_count [(85, .getfield 43, 88, [12, 22, 2, 614, 0], none), (88, .aload_n 0, 89, [], none), (89, .getfield 257, 92, [12, 18, 0, 711, 0], none), (92, .iaload, 93, [20], none), (93, .ireturn, 94, [0], none)] (84, .aload_n 0, 85, [], some [0]) (by decide +kernel) _ _ _).trans rfl
set_option maxRecDepth 20000 in
set_option maxHeartbeats 4000000 in
theorem B_X12_count_94 (d : Nat) (S : mS) (I : mI) (L : mJ) (l0 : Nat) :
  evk zcod none d zc_X12_count 94 [(0, .ref l0)] [] (S, I, L) =
  if kK S l0 = 12 then
 (if kK S l0 = 12 then
 (if kK S (kR S l0 26) = 20 ∧ zin (I l0 18) (kN S (kR S l0 26)) then
 (some (some (.int (I (kR S l0 26) (zix (I l0 18)))), (S, I, L))) else none) else none) else none :=
  (blk_ok zcod none d zc_X12_count [(95, .getfield 55, 98, [12, 26, 2, 618, 0], none), (98, .aload_n 0, 99, [], none), (99, .getfield 257, 102, [12, 18, 0, 711, 0], none), (102, .iaload, 103, [20], none), (103, .ireturn, 104, [0], none)] (94, .aload_n 0, 95, [], some [0]) (by decide +kernel) _ _ _).trans rfl
set_option maxRecDepth 20000 in
set_option maxHeartbeats 4000000 in
theorem B_X12_count_104 (d : Nat) (S : mS) (I : mI) (L : mJ) (l0 : Nat) :
  evk zcod none d zc_X12_count 104 [(0, .ref l0)] [] (S, I, L) =
  if kK S l0 = 12 then
 (if kK S l0 = 12 then
 (if kK S (kR S l0 29) = 20 ∧ zin (I l0 18) (kN S (kR S l0 29)) then
 (some (some (.int (I (kR S l0 29) (zix (I l0 18)))), (S, I, L))) else none) else none) else none :=
  (blk_ok zcod none d zc_X12_count [(105, .getfield 64, 108, [12, 29, 2, 621, 0], none), (108, .aload_n 0, 109, [], none), (109, .getfield 257, 112, [12, 18, 0, 711, 0], none), (112, .iaload, 113, [20], none), (113, .ireturn, 114, [0], none)] (104, .aload_n 0, 105, [], some [0]) (by decide +kernel) _ _ _).trans rfl
set_option maxRecDepth 20000 in
set_option maxHeartbeats 4000000 in
theorem B_X12_count_114 (d : Nat) (S : mS) (I : mI) (L : mJ) (l0 : Nat) :
  evk zcod none d zc_X12_count 114 [(0, .ref l0)] [] (S, I, L) =
  if kK S l0 = 12 then
 (if kK S (kR S l0 53) = 20 ∧ zin (nI 55) (kN S (kR S l0 53)) then
 (some (some (.int (I (kR S l0 53) (zix (nI 55)))), (S, I, L))) else none) else none :=
  (blk_ok zcod none d zc_X12_count [(115, .getfield 125, 118, [12, 53, 2, 642, 0], none), (118, .bipush 55, 120, [], none), (120, .iaload, 121, [20], none), (121, .ireturn, 122, [0], none)] (114, .aload_n 0, 115, [], some [0]) (by decide +kernel) _ _ _).trans rfl
set_option maxRecDepth 20000 in
set_option maxHeartbeats 4000000 in
theorem B_X12_count_122 (d : Nat) (S : mS) (I : mI) (L : mJ) (l0 : Nat) (l1 : Int32) :
  evk zcod none d zc_X12_count 122 [(0, .ref l0), (1, .int l1)] [] (S, I, L) =
  if kK S l0 = 12 then
 (bI (evM zcod d 203 [.ref l0, .int (l1 - (nI 4))] (S, I, L)) fun x1 M1 =>
 if M1.1.1 = S.1 then
 (some (some (.int x1), M1)) else none) else none :=
  (blk_ok zcod none d zc_X12_count [(123, .iload_n 1, 124, [], none), (124, .iconst 4, 125, [], none), (125, .isub, 126, [], none), (126, .invokevirtual 351, 129, [203, 1, 1, 12, 777, 778, 779, 662], none), (129, .ireturn, 130, [0], none)] (122, .aload_n 0, 123, [], some [0, 1]) (by decide +kernel) _ _ _).trans rfl
set_option maxRecDepth 20000 in
set_option maxHeartbeats 4000000 in
theorem B_X12_count_130 (d : Nat) (S : mS) (I : mI) (L : mJ) (l0 : Nat) (l1 : Int32) :
  evk zcod none d zc_X12_count 130 [(0, .ref l0), (1, .int l1)] [] (S, I, L) =
  if kK S l0 = 12 then
 (if kK S (kR S l0 53) = 20 ∧ zin ((nI 48) + l1) (kN S (kR S l0 53)) then
 (some (some (.int (I (kR S l0 53) (zix ((nI 48) + l1)))), (S, I, L))) else none) else none :=
  (blk_ok zcod none d zc_X12_count [(131, .getfield 125, 134, [12, 53, 2, 642, 0], none), (134, .bipush 48, 136, [], none), (136, .iload_n 1, 137, [], none), (137, .iadd, 138, [], none), (138, .iaload, 139, [20], none), (139, .ireturn, 140, [0], none)] (130, .aload_n 0, 131, [], some [0, 1]) (by decide +kernel) _ _ _).trans rfl
set_option maxRecDepth 20000 in
set_option maxHeartbeats 4000000 in
theorem B_X12_count_140 (d : Nat) (S : mS) (I : mI) (L : mJ) (l0 : Nat) :
  evk zcod none d zc_X12_count 140 [(0, .ref l0)] [] (S, I, L) =
  if kK S l0 = 12 then
 (some (some (.int (I l0 2)), (S, I, L))) else none :=
  (blk_ok zcod none d zc_X12_count [(141, .getfield 190, 144, [12, 2, 0, 671, 0], none), (144, .ireturn, 145, [0], none)] (140, .aload_n 0, 141, [], some [0]) (by decide +kernel) _ _ _).trans rfl
set_option maxRecDepth 20000 in
set_option maxHeartbeats 4000000 in
theorem B_X12_count_145 (d : Nat) (S : mS) (I : mI) (L : mJ) (l0 : Nat) :
  evk zcod none d zc_X12_count 145 [(0, .ref l0)] [] (S, I, L) =
  if kK S l0 = 12 then
 (some (some (.int (I l0 59)), (S, I, L))) else none :=
  (blk_ok zcod none d zc_X12_count [(146, .getfield 275, 149, [12, 59, 0, 719, 0], none), (149, .ireturn, 150, [0], none)] (145, .aload_n 0, 146, [], some [0]) (by decide +kernel) _ _ _).trans rfl
set_option maxRecDepth 20000 in
set_option maxHeartbeats 4000000 in
theorem B_X12_count_150 (d : Nat) (S : mS) (I : mI) (L : mJ) (l0 : Nat) :
  evk zcod none d zc_X12_count 150 [(0, .ref l0)] [] (S, I, L) =
  if kK S l0 = 12 then
 (some (some (.int (I l0 74)), (S, I, L))) else none :=
  (blk_ok zcod none d zc_X12_count [(151, .getfield 278, 154, [12, 74, 0, 720, 0], none), (154, .ireturn, 155, [0], none)] (150, .aload_n 0, 151, [], some [0]) (by decide +kernel) _ _ _).trans rfl
set_option maxRecDepth 20000 in
set_option maxHeartbeats 4000000 in
theorem B_X12_count_155 (d : Nat) (S : mS) (I : mI) (L : mJ) (l0 : Nat) :
  evk zcod none d zc_X12_count 155 [(0, .ref l0)] [] (S, I, L) =
  if kK S l0 = 12 then
 (if kK S (kR S l0 80) = 22 ∧ zin (nI 0) (kN S (kR S l0 80)) then
 (if (I (kR S l0 80) (zix (nI 0))) = (nI 0) then
 evk zcod none d zc_X12_count 168 [(0, .ref l0)] [] (S, I, L)
 else
 evk zcod none d zc_X12_count 169 [(0, .ref l0)] [.int (nI 1)] (S, I, L)) else none) else none :=
  (blk_ok zcod none d zc_X12_count [(156, .getfield 170, 159, [12, 80, 2, 657, 0], none), (159, .iconst 0, 160, [], none), (160, .baload, 161, [22], none), (161, .ifCond .eq 7, 164, [168], none), (164, .iconst 1, 165, [], none), (165, .goto 4, 168, [169], none)] (155, .aload_n 0, 156, [], some [0]) (by decide +kernel) _ _ _).trans rfl
set_option maxRecDepth 20000 in
set_option maxHeartbeats 4000000 in
theorem B_X12_count_168 (d : Nat) (S : mS) (I : mI) (L : mJ) (l0 : Nat) :
  evk zcod none d zc_X12_count 168 [(0, .ref l0)] [] (S, I, L) =
  evk zcod none d zc_X12_count 169 [(0, .ref l0)] [.int (nI 0)] (S, I, L) :=
  (blk_ok zcod none d zc_X12_count [] (168, .iconst 0, 169, [], some [0]) (by decide +kernel) _ _ _).trans rfl
set_option maxRecDepth 20000 in
set_option maxHeartbeats 4000000 in
theorem B_X12_count_169 (d : Nat) (S : mS) (I : mI) (L : mJ) (l0 : Nat) (s0 : Int32) :
  evk zcod none d zc_X12_count 169 [(0, .ref l0)] [.int s0] (S, I, L) =
  if kK S l0 = 12 then
 (if kK S (kR S l0 80) = 22 ∧ zin (nI 1) (kN S (kR S l0 80)) then
 (if (I (kR S l0 80) (zix (nI 1))) = (nI 0) then
 evk zcod none d zc_X12_count 182 [(0, .ref l0)] [.int s0] (S, I, L)
 else
 evk zcod none d zc_X12_count 183 [(0, .ref l0)] [.int (nI 1), .int s0] (S, I, L)) else none) else none :=
  (blk_ok zcod none d zc_X12_count [(170, .getfield 170, 173, [12, 80, 2, 657, 0], none), (173, .iconst 1, 174, [], none), (174, .baload, 175, [22], none), (175, .ifCond .eq 7, 178, [182], none), (178, .iconst 1, 179, [], none), (179, .goto 4, 182, [183], none)] (169, .aload_n 0, 170, [], some [0]) (by decide +kernel) _ _ _).trans rfl
set_option maxRecDepth 20000 in
set_option maxHeartbeats 4000000 in
theorem B_X12_count_182 (d : Nat) (S : mS) (I : mI) (L : mJ) (l0 : Nat) (s0 : Int32) :
  evk zcod none d zc_X12_count 182 [(0, .ref l0)] [.int s0] (S, I, L) =
  evk zcod none d zc_X12_count 183 [(0, .ref l0)] [.int (nI 0), .int s0] (S, I, L) :=
  (blk_ok zcod none d zc_X12_count [] (182, .iconst 0, 183, [], some [0]) (by decide +kernel) _ _ _).trans rfl
set_option maxRecDepth 20000 in
set_option maxHeartbeats 4000000 in
theorem B_X12_count_183 (d : Nat) (S : mS) (I : mI) (L : mJ) (l0 : Nat) (s0 : Int32) (s1 : Int32) :
  evk zcod none d zc_X12_count 183 [(0, .ref l0)] [.int s1, .int s0] (S, I, L) =
  if kK S l0 = 12 then
 (if kK S (kR S l0 80) = 22 ∧ zin (nI 2) (kN S (kR S l0 80)) then
 (if (I (kR S l0 80) (zix (nI 2))) = (nI 0) then
 evk zcod none d zc_X12_count 197 [] [.int (s0 + s1)] (S, I, L)
 else
 evk zcod none d zc_X12_count 198 [] [.int (nI 1), .int (s0 + s1)] (S, I, L)) else none) else none :=
  (blk_ok zcod none d zc_X12_count [(184, .aload_n 0, 185, [], none), (185, .getfield 170, 188, [12, 80, 2, 657, 0], none), (188, .iconst 2, 189, [], none), (189, .baload, 190, [22], none), (190, .ifCond .eq 7, 193, [197], none), (193, .iconst 1, 194, [], none), (194, .goto 4, 197, [198], none)] (183, .iadd, 184, [], some [0]) (by decide +kernel) _ _ _).trans rfl
set_option maxRecDepth 20000 in
set_option maxHeartbeats 4000000 in
theorem B_X12_count_197 (d : Nat) (S : mS) (I : mI) (L : mJ) (s0 : Int32) :
  evk zcod none d zc_X12_count 197 [] [.int s0] (S, I, L) =
  evk zcod none d zc_X12_count 198 [] [.int (nI 0), .int s0] (S, I, L) :=
  (blk_ok zcod none d zc_X12_count [] (197, .iconst 0, 198, [], some []) (by decide +kernel) _ _ _).trans rfl
set_option maxRecDepth 20000 in
set_option maxHeartbeats 4000000 in
theorem B_X12_count_198 (d : Nat) (S : mS) (I : mI) (L : mJ) (s0 : Int32) (s1 : Int32) :
  evk zcod none d zc_X12_count 198 [] [.int s1, .int s0] (S, I, L) =
  some (some (.int (s0 + s1)), (S, I, L)) :=
  (blk_ok zcod none d zc_X12_count [(199, .ireturn, 200, [0], none)] (198, .iadd, 199, [], some []) (by decide +kernel) _ _ _).trans rfl
set_option maxRecDepth 20000 in
set_option maxHeartbeats 4000000 in
theorem B_X12_count_200 (d : Nat) (S : mS) (I : mI) (L : mJ) (l0 : Nat) :
  evk zcod none d zc_X12_count 200 [(0, .ref l0)] [] (S, I, L) =
  if kK S l0 = 12 then
 (bI (evM zcod d 202 [.ref l0] (S, I, L)) fun x1 M1 =>
 if M1.1.1 = S.1 then
 (if x1 = (nI 0) then
 evk zcod none d zc_X12_count 211 [] [] M1
 else
 evk zcod none d zc_X12_count 212 [] [.int (nI 1)] M1) else none) else none :=
  (blk_ok zcod none d zc_X12_count [(201, .invokevirtual 389, 204, [202, 0, 1, 12, 810, 811, 812, 662], none), (204, .ifCond .eq 7, 207, [211], none), (207, .iconst 1, 208, [], none), (208, .goto 4, 211, [212], none)] (200, .aload_n 0, 201, [], some [0]) (by decide +kernel) _ _ _).trans rfl
set_option maxRecDepth 20000 in
set_option maxHeartbeats 4000000 in
theorem B_X12_count_211 (d : Nat) (S : mS) (I : mI) (L : mJ)  :
  evk zcod none d zc_X12_count 211 [] [] (S, I, L) =
  evk zcod none d zc_X12_count 212 [] [.int (nI 0)] (S, I, L) :=
  (blk_ok zcod none d zc_X12_count [] (211, .iconst 0, 212, [], some []) (by decide +kernel) _ _ _).trans rfl
set_option maxRecDepth 20000 in
set_option maxHeartbeats 4000000 in
theorem B_X12_count_212 (d : Nat) (S : mS) (I : mI) (L : mJ) (s0 : Int32) :
  evk zcod none d zc_X12_count 212 [] [.int s0] (S, I, L) =
  some (some (.int s0), (S, I, L)) :=
  (blk_ok zcod none d zc_X12_count [] (212, .ireturn, 213, [0], some []) (by decide +kernel) _ _ _).trans rfl
set_option maxRecDepth 20000 in
set_option maxHeartbeats 4000000 in
theorem B_X12_count_213 (d : Nat) (S : mS) (I : mI) (L : mJ) (l0 : Nat) :
  evk zcod none d zc_X12_count 213 [(0, .ref l0)] [] (S, I, L) =
  if kK S l0 = 12 then
 (if kK S l0 = 12 then
 (if kK S (kR S l0 33) = 20 ∧ zin (I l0 18) (kN S (kR S l0 33)) then
 (some (some (.int (I (kR S l0 33) (zix (I l0 18)))), (S, I, L))) else none) else none) else none :=
  (blk_ok zcod none d zc_X12_count [(214, .getfield 76, 217, [12, 33, 2, 625, 0], none), (217, .aload_n 0, 218, [], none), (218, .getfield 257, 221, [12, 18, 0, 711, 0], none), (221, .iaload, 222, [20], none), (222, .ireturn, 223, [0], none)] (213, .aload_n 0, 214, [], some [0]) (by decide +kernel) _ _ _).trans rfl
set_option maxRecDepth 20000 in
set_option maxHeartbeats 4000000 in
theorem R_X12_count_223 (d : Nat) (S : mS) (I : mI) (L : mJ)  :
  evk zcod none d zc_X12_count 223 [] [] (S, I, L) =
  some (some (.int (Int32.ofInt (-1))), (S, I, L)) :=
  (blk_ok zcod none d zc_X12_count [(224, .ireturn, 225, [0], none)] (223, .iconst (-1), 224, [], some []) (by decide +kernel) _ _ _).trans rfl
theorem B_X12_count_223 (d : Nat) (S : mS) (I : mI) (L : mJ)  :
  evk zcod none d zc_X12_count 223 [] [] (S, I, L) =
  some (some (.int (-1 : Int32)), (S, I, L)) := by
  simpa only [cvN] using R_X12_count_223 d S I L 
