/-! block equations over (S, I, L): 59f.blkf -/
theorem E_X12_bounded (d : Nat) (M : zM) (l0 : Nat) (l1 : Int32) (l2 : Int32) : evM zcod (d + 1) 180 [.ref l0, .int l1, .int l2] M = evk zcod none d zc_X12_bounded 0 [(0, .ref l0), (1, .int l1), (2, .int l2)] [] M := evM_eq zcod d 180 _ M (Nat.le_of_ble_eq_true rfl)
set_option maxRecDepth 20000 in
set_option maxHeartbeats 4000000 in
theorem B_X12_bounded_0 (d : Nat) (S : mS) (I : mI) (L : mJ) (l0 : Nat) (l1 : Int32) (l2 : Int32) :
  evk zcod none d zc_X12_bounded 0 [(0, .ref l0), (1, .int l1), (2, .int l2)] [] (S, I, L) =
  if kK S l0 = 12 then
 (if (nI 0) < (I l0 13) then
 evk zcod none d zc_X12_bounded 15 [(0, .ref l0), (1, .int l1)] [] (S, I, L)
 else
 if kK S l0 = 12 then
 (bI (evM zcod d 167 [.ref l0, .int (nI 2)] (S, I, L)) fun x1 M1 =>
 if M1.1.1 = S.1 then
 (if ¬ x1 = (nI 0) then
 evk zcod none d zc_X12_bounded 22 [(0, .ref l0), (1, .int l1), (2, .int l2)] [] M1
 else
 evk zcod none d zc_X12_bounded 15 [(0, .ref l0), (1, .int l1)] [] M1) else none) else none) else none :=
  (blk_ok zcod none d zc_X12_bounded [(1, .getfield 227, 4, [12, 13, 0, 693, 0], none), (4, .ifCond .gt 11, 7, [15], none), (7, .aload_n 0, 8, [], none), (8, .iconst 2, 9, [], none), (9, .invokevirtual 245, 12, [167, 1, 1, 12, 701, 702, 703, 662], none), (12, .ifCond .ne 10, 15, [22], none)] (0, .aload_n 0, 1, [], none) (by decide +kernel) _ _ _).trans rfl
set_option maxRecDepth 20000 in
set_option maxHeartbeats 4000000 in
theorem B_X12_bounded_15 (d : Nat) (S : mS) (I : mI) (L : mJ) (l0 : Nat) (l1 : Int32) :
  evk zcod none d zc_X12_bounded 15 [(0, .ref l0), (1, .int l1)] [] (S, I, L) =
  if kK S l0 = 12 then
 (bV (evM zcod d 168 [.ref l0, .int (nI 1)] (S, I, L)) fun M1 =>
 if M1.1.1 = S.1 then
 (some (some (.int l1), M1)) else none) else none :=
  (blk_ok zcod none d zc_X12_bounded [(16, .iconst 1, 17, [], none), (17, .invokevirtual 242, 20, [168, 1, 0, 12, 698, 699, 700, 662], none), (20, .iload_n 1, 21, [], none), (21, .ireturn, 22, [0], none)] (15, .aload_n 0, 16, [], some [0, 1]) (by decide +kernel) _ _ _).trans rfl
set_option maxRecDepth 20000 in
set_option maxHeartbeats 4000000 in
theorem B_X12_bounded_22 (d : Nat) (S : mS) (I : mI) (L : mJ) (l0 : Nat) (l1 : Int32) (l2 : Int32) :
  evk zcod none d zc_X12_bounded 22 [(0, .ref l0), (1, .int l1), (2, .int l2)] [] (S, I, L) =
  if kK S l0 = 12 then
 (if kK S l0 = 12 then
 (if kK S (kR S l0 7) = 20 ∧ zin (I l0 11) (kN S (kR S l0 7)) then
 (if (I (kR S l0 7) (zix (I l0 11))) < l1 then
 evk zcod none d zc_X12_bounded 42 [(0, .ref l0), (3, .int (I (kR S l0 7) (zix (I l0 11))))] [] (S, I, L)
 else
 if (I (kR S l0 7) (zix (I l0 11))) ≤ l2 then
 evk zcod none d zc_X12_bounded 51 [(0, .ref l0), (3, .int (I (kR S l0 7) (zix (I l0 11))))] [] (S, I, L)
 else
 evk zcod none d zc_X12_bounded 42 [(0, .ref l0), (3, .int (I (kR S l0 7) (zix (I l0 11))))] [] (S, I, L)) else none) else none) else none :=
  (blk_ok zcod none d zc_X12_bounded [(23, .getfield 27, 26, [12, 7, 2, 609, 0], none), (26, .aload_n 0, 27, [], none), (27, .getfield 230, 30, [12, 11, 0, 694, 0], none), (30, .iaload, 31, [20], none), (31, .istore_n 3, 32, [], none), (32, .iload_n 3, 33, [], none), (33, .iload_n 1, 34, [], none), (34, .if_icmp .lt 8, 37, [42], none), (37, .iload_n 3, 38, [], none), (38, .iload_n 2, 39, [], none), (39, .if_icmp .le 12, 42, [51], none)] (22, .aload_n 0, 23, [], some [0, 1, 2]) (by decide +kernel) _ _ _).trans rfl
set_option maxRecDepth 20000 in
set_option maxHeartbeats 4000000 in
theorem B_X12_bounded_42 (d : Nat) (S : mS) (I : mI) (L : mJ) (l0 : Nat) (l3 : Int32) :
  evk zcod none d zc_X12_bounded 42 [(0, .ref l0), (3, .int l3)] [] (S, I, L) =
  if kK S l0 = 12 then
 (if kK S l0 = 12 then
 (bV (evM zcod d 169 [.ref l0, .int (nI 5), .int (I l0 11)] (S, I, L)) fun M1 =>
 if M1.1.1 = S.1 then
 (evk zcod none d zc_X12_bounded 51 [(0, .ref l0), (3, .int l3)] [] M1) else none) else none) else none :=
  (blk_ok zcod none d zc_X12_bounded [(43, .iconst 5, 44, [], none), (44, .aload_n 0, 45, [], none), (45, .getfield 230, 48, [12, 11, 0, 694, 0], none), (48, .invokevirtual 307, 51, [169, 2, 0, 12, 745, 746, 747, 662], none)] (42, .aload_n 0, 43, [], some [0, 3]) (by decide +kernel) _ _ _).trans rfl
set_option maxRecDepth 20000 in
set_option maxHeartbeats 4000000 in
theorem B_X12_bounded_51 (d : Nat) (S : mS) (I : mI) (L : mJ) (l0 : Nat) (l3 : Int32) :
  evk zcod none d zc_X12_bounded 51 [(0, .ref l0), (3, .int l3)] [] (S, I, L) =
  if kK S l0 = 12 then
 (bV (evM zcod d 170 [.ref l0] (S, I, L)) fun M1 =>
 if M1.1.1 = S.1 then
 (some (some (.int l3), M1)) else none) else none :=
  (blk_ok zcod none d zc_X12_bounded [(52, .invokevirtual 248, 55, [170, 0, 0, 12, 704, 705, 706, 662], none), (55, .iload_n 3, 56, [], none), (56, .ireturn, 57, [0], none)] (51, .aload_n 0, 52, [], some [0, 3]) (by decide +kernel) _ _ _).trans rfl
theorem E_X12_tellLoad (d : Nat) (M : zM) (l0 : Nat) : evM zcod (d + 1) 181 [.ref l0] M = evk zcod none d zc_X12_tellLoad 0 [(0, .ref l0)] [] M := evM_eq zcod d 181 _ M (Nat.le_of_ble_eq_true rfl)
set_option maxRecDepth 20000 in
set_option maxHeartbeats 4000000 in
theorem B_X12_tellLoad_0 (d : Nat) (S : mS) (I : mI) (L : mJ) (l0 : Nat) :
  evk zcod none d zc_X12_tellLoad 0 [(0, .ref l0)] [] (S, I, L) =
  if kK S l0 = 12 then
 (if kK S l0 = 12 then
 (if kK S l0 = 12 then
 (if kK S (kR S l0 22) = 20 ∧ zin (I l0 19) (kN S (kR S l0 22)) then
 (if kK S l0 = 12 then
 (bI (evM zcod d 178 [.ref l0] (S, I, L)) fun x1 M1 =>
 if M1.1.1 = S.1 then
 (if kK M1.1 l0 = 12 then
 (if kK M1.1 l0 = 12 then
 (bI (evM zcod d 180 [.ref l0, .int (nI 0), .int (nI 19)] M1) fun x2 M2 =>
 if M2.1.1 = M1.1.1 then
 (if kK M2.1 (kR M1.1 l0 23) = 20 ∧ zin (((nI 7) * (I l0 19)) + (I (kR S l0 22) (zix (I l0 19)))) (kN M2.1 (kR M1.1 l0 23)) then
 (if kK M2.1 l0 = 12 then
 (if kK M2.1 l0 = 12 then
 (bI (evM zcod d 180 [.ref l0, .int (nI 1), .int (nI 9)] (M2.1, (uI M2.2.1 (kR M1.1 l0 23) (zix (((nI 7) * (I l0 19)) + (I (kR S l0 22) (zix (I l0 19))))) x2), M2.2.2)) fun x3 M3 =>
 if M3.1.1 = M2.1.1 then
 (if kK M3.1 (kR M2.1 l0 24) = 20 ∧ zin (((nI 7) * (I l0 19)) + (I (kR S l0 22) (zix (I l0 19)))) (kN M3.1 (kR M2.1 l0 24)) then
 (evk zcod none d zc_X12_tellLoad 49 [(0, .ref l0), (1, .int (((nI 7) * (I l0 19)) + (I (kR S l0 22) (zix (I l0 19))))), (2, .int x1)] [] (M3.1, (uI M3.2.1 (kR M2.1 l0 24) (zix (((nI 7) * (I l0 19)) + (I (kR S l0 22) (zix (I l0 19))))) x3), M3.2.2)) else none) else none) else none) else none) else none) else none) else none) else none) else none) else none) else none) else none) else none) else none :=
  (blk_ok zcod none d zc_X12_tellLoad [(2, .aload_n 0, 3, [], none), (3, .getfield 260, 6, [12, 19, 0, 712, 0], none), (6, .imul, 7, [], none), (7, .aload_n 0, 8, [], none), (8, .getfield 43, 11, [12, 22, 2, 614, 0], none), (11, .aload_n 0, 12, [], none), (12, .getfield 260, 15, [12, 19, 0, 712, 0], none), (15, .iaload, 16, [20], none), (16, .iadd, 17, [], none), (17, .istore_n 1, 18, [], none), (18, .aload_n 0, 19, [], none), (19, .invokevirtual 310, 22, [178, 0, 1, 12, 748, 749, 750, 662], none), (22, .istore_n 2, 23, [], none), (23, .aload_n 0, 24, [], none), (24, .getfield 46, 27, [12, 23, 2, 615, 0], none), (27, .iload_n 1, 28, [], none), (28, .aload_n 0, 29, [], none), (29, .iconst 0, 30, [], none), (30, .bipush 19, 32, [], none), (32, .invokevirtual 281, 35, [180, 2, 1, 12, 721, 722, 723, 662], none), (35, .iastore, 36, [20], none), (36, .aload_n 0, 37, [], none), (37, .getfield 49, 40, [12, 24, 2, 616, 0], none), (40, .iload_n 1, 41, [], none), (41, .aload_n 0, 42, [], none), (42, .iconst 1, 43, [], none), (43, .bipush 9, 45, [], none), (45, .invokevirtual 281, 48, [180, 2, 1, 12, 721, 722, 723, 662], none), (48, .iastore, 49, [20], none)] (0, .bipush 7, 2, [], none) (by decide +kernel) _ _ _).trans rfl
set_option maxRecDepth 20000 in
set_option maxHeartbeats 4000000 in
theorem B_X12_tellLoad_49 (d : Nat) (S : mS) (I : mI) (L : mJ) (l0 : Nat) (l1 : Int32) (l2 : Int32) :
  evk zcod none d zc_X12_tellLoad 49 [(0, .ref l0), (1, .int l1), (2, .int l2)] [] (S, I, L) =
  if kK S l0 = 12 then
 (if kK S l0 = 12 then
 (bI (evM zcod d 180 [.ref l0, .int (nI 0), .int (nI 99)] (S, I, L)) fun x1 M1 =>
 if M1.1.1 = S.1 then
 (if kK M1.1 (kR S l0 25) = 20 ∧ zin l1 (kN M1.1 (kR S l0 25)) then
 (if kK M1.1 l0 = 12 then
 (bV (evM zcod d 179 [.ref l0, .int l2] (M1.1, (uI M1.2.1 (kR S l0 25) (zix l1) x1), M1.2.2)) fun M2 =>
 if M2.1.1 = M1.1.1 then
 (if kK M2.1 l0 = 12 then
 (if ¬ (M2.2.1 l0 13) = (nI 0) then
 evk zcod none d zc_X12_tellLoad 87 [] [] M2
 else
 if kK M2.1 l0 = 12 then
 (if kK M2.1 l0 = 12 then
 (if kK M2.1 (kR M2.1 l0 22) = 20 ∧ zin (M2.2.1 l0 19) (kN M2.1 (kR M2.1 l0 22)) then
 (if kK M2.1 (kR M2.1 l0 22) = 20 ∧ zin (M2.2.1 l0 19) (kN M2.1 (kR M2.1 l0 22)) then
 (evk zcod none d zc_X12_tellLoad 87 [] [] (M2.1, (uI M2.2.1 (kR M2.1 l0 22) (zix (M2.2.1 l0 19)) ((M2.2.1 (kR M2.1 l0 22) (zix (M2.2.1 l0 19))) + (nI 1))), M2.2.2)) else none) else none) else none) else none) else none) else none) else none) else none) else none) else none) else none :=
  (blk_ok zcod none d zc_X12_tellLoad [(50, .getfield 52, 53, [12, 25, 2, 617, 0], none), (53, .iload_n 1, 54, [], none), (54, .aload_n 0, 55, [], none), (55, .iconst 0, 56, [], none), (56, .bipush 99, 58, [], none), (58, .invokevirtual 281, 61, [180, 2, 1, 12, 721, 722, 723, 662], none), (61, .iastore, 62, [20], none), (62, .aload_n 0, 63, [], none), (63, .iload_n 2, 64, [], none), (64, .invokevirtual 314, 67, [179, 1, 0, 12, 751, 752, 753, 662], none), (67, .aload_n 0, 68, [], none), (68, .getfield 227, 71, [12, 13, 0, 693, 0], none), (71, .ifCond .ne 16, 74, [87], none), (74, .aload_n 0, 75, [], none), (75, .getfield 43, 78, [12, 22, 2, 614, 0], none), (78, .aload_n 0, 79, [], none), (79, .getfield 260, 82, [12, 19, 0, 712, 0], none), (82, .dup2, 83, [], none), (83, .iaload, 84, [20], none), (84, .iconst 1, 85, [], none), (85, .iadd, 86, [], none), (86, .iastore, 87, [20], none)] (49, .aload_n 0, 50, [], some [0, 1, 2]) (by decide +kernel) _ _ _).trans rfl
set_option maxRecDepth 20000 in
set_option maxHeartbeats 4000000 in
theorem B_X12_tellLoad_87 (d : Nat) (S : mS) (I : mI) (L : mJ)  :
  evk zcod none d zc_X12_tellLoad 87 [] [] (S, I, L) =
  some (none, (S, I, L)) :=
  (blk_ok zcod none d zc_X12_tellLoad [] (87, .return_, 88, [], some []) (by decide +kernel) _ _ _).trans rfl
theorem E_X12_tellSilk (d : Nat) (M : zM) (l0 : Nat) : evM zcod (d + 1) 182 [.ref l0] M = evk zcod none d zc_X12_tellSilk 0 [(0, .ref l0)] [] M := evM_eq zcod d 182 _ M (Nat.le_of_ble_eq_true rfl)
set_option maxRecDepth 20000 in
set_option maxHeartbeats 4000000 in
theorem B_X12_tellSilk_0 (d : Nat) (S : mS) (I : mI) (L : mJ) (l0 : Nat) :
  evk zcod none d zc_X12_tellSilk 0 [(0, .ref l0)] [] (S, I, L) =
  if kK S l0 = 12 then
 (if kK S l0 = 12 then
 (if kK S l0 = 12 then
 (if kK S (kR S l0 26) = 20 ∧ zin (I l0 19) (kN S (kR S l0 26)) then
 (if kK S l0 = 12 then
 (bI (evM zcod d 178 [.ref l0] (S, I, L)) fun x1 M1 =>
 if M1.1.1 = S.1 then
 (if kK M1.1 l0 = 12 then
 (if kK M1.1 l0 = 12 then
 (bI (evM zcod d 180 [.ref l0, .int (nI 1), .int (nI 9)] M1) fun x2 M2 =>
 if M2.1.1 = M1.1.1 then
 (if kK M2.1 (kR M1.1 l0 27) = 20 ∧ zin (((nI 5) * (I l0 19)) + (I (kR S l0 26) (zix (I l0 19)))) (kN M2.1 (kR M1.1 l0 27)) then
 (if kK M2.1 l0 = 12 then
 (if ¬ ((uI M2.2.1 (kR M1.1 l0 27) (zix (((nI 5) * (I l0 19)) + (I (kR S l0 26) (zix (I l0 19))))) x2) l0 13) = (nI 0) then
 evk zcod none d zc_X12_tellSilk 55 [(0, .ref l0), (1, .int (((nI 5) * (I l0 19)) + (I (kR S l0 26) (zix (I l0 19))))), (2, .int x1)] [] (M2.1, (uI M2.2.1 (kR M1.1 l0 27) (zix (((nI 5) * (I l0 19)) + (I (kR S l0 26) (zix (I l0 19))))) x2), M2.2.2)
 else
 if kK M2.1 l0 = 12 then
 (bI (evM zcod d 167 [.ref l0, .int (nI 9)] (M2.1, (uI M2.2.1 (kR M1.1 l0 27) (zix (((nI 5) * (I l0 19)) + (I (kR S l0 26) (zix (I l0 19))))) x2), M2.2.2)) fun x3 M3 =>
 if M3.1.1 = M2.1.1 then
 (if x3 = (nI 0) then
 evk zcod none d zc_X12_tellSilk 55 [(0, .ref l0), (1, .int (((nI 5) * (I l0 19)) + (I (kR S l0 26) (zix (I l0 19))))), (2, .int x1)] [] M3
 else
 evk zcod none d zc_X12_tellSilk 51 [(0, .ref l0), (1, .int (((nI 5) * (I l0 19)) + (I (kR S l0 26) (zix (I l0 19))))), (2, .int x1)] [] M3) else none) else none) else none) else none) else none) else none) else none) else none) else none) else none) else none) else none) else none :=
  (blk_ok zcod none d zc_X12_tellSilk [(1, .aload_n 0, 2, [], none), (2, .getfield 260, 5, [12, 19, 0, 712, 0], none), (5, .imul, 6, [], none), (6, .aload_n 0, 7, [], none), (7, .getfield 55, 10, [12, 26, 2, 618, 0], none), (10, .aload_n 0, 11, [], none), (11, .getfield 260, 14, [12, 19, 0, 712, 0], none), (14, .iaload, 15, [20], none), (15, .iadd, 16, [], none), (16, .istore_n 1, 17, [], none), (17, .aload_n 0, 18, [], none), (18, .invokevirtual 310, 21, [178, 0, 1, 12, 748, 749, 750, 662], none), (21, .istore_n 2, 22, [], none), (22, .aload_n 0, 23, [], none), (23, .getfield 58, 26, [12, 27, 2, 619, 0], none), (26, .iload_n 1, 27, [], none), (27, .aload_n 0, 28, [], none), (28, .iconst 1, 29, [], none), (29, .bipush 9, 31, [], none), (31, .invokevirtual 281, 34, [180, 2, 1, 12, 721, 722, 723, 662], none), (34, .iastore, 35, [20], none), (35, .aload_n 0, 36, [], none), (36, .getfield 227, 39, [12, 13, 0, 693, 0], none), (39, .ifCond .ne 16, 42, [55], none), (42, .aload_n 0, 43, [], none), (43, .bipush 9, 45, [], none), (45, .invokevirtual 245, 48, [167, 1, 1, 12, 701, 702, 703, 662], none), (48, .ifCond .eq 7, 51, [55], none)] (0, .iconst 5, 1, [], none) (by decide +kernel) _ _ _).trans rfl
set_option maxRecDepth 20000 in
set_option maxHeartbeats 4000000 in
theorem B_X12_tellSilk_51 (d : Nat) (S : mS) (I : mI) (L : mJ) (l0 : Nat) (l1 : Int32) (l2 : Int32) :
  evk zcod none d zc_X12_tellSilk 51 [(0, .ref l0), (1, .int l1), (2, .int l2)] [] (S, I, L) =
  evk zcod none d zc_X12_tellSilk 56 [(0, .ref l0), (1, .int l1), (2, .int l2)] [.int (nI 1)] (S, I, L) :=
  (blk_ok zcod none d zc_X12_tellSilk [(52, .goto 4, 55, [56], none)] (51, .iconst 1, 52, [], some [0, 1, 2]) (by decide +kernel) _ _ _).trans rfl
set_option maxRecDepth 20000 in
set_option maxHeartbeats 4000000 in
theorem B_X12_tellSilk_55 (d : Nat) (S : mS) (I : mI) (L : mJ) (l0 : Nat) (l1 : Int32) (l2 : Int32) :
  evk zcod none d zc_X12_tellSilk 55 [(0, .ref l0), (1, .int l1), (2, .int l2)] [] (S, I, L) =
  evk zcod none d zc_X12_tellSilk 56 [(0, .ref l0), (1, .int l1), (2, .int l2)] [.int (nI 0)] (S, I, L) :=
  (blk_ok zcod none d zc_X12_tellSilk [] (55, .iconst 0, 56, [], some [0, 1, 2]) (by decide +kernel) _ _ _).trans rfl
set_option maxRecDepth 20000 in
set_option maxHeartbeats 4000000 in
theorem B_X12_tellSilk_56 (d : Nat) (S : mS) (I : mI) (L : mJ) (l0 : Nat) (l1 : Int32) (l2 : Int32) (s0 : Int32) :
  evk zcod none d zc_X12_tellSilk 56 [(0, .ref l0), (1, .int l1), (2, .int l2)] [.int s0] (S, I, L) =
  if s0 = (nI 0) then
 evk zcod none d zc_X12_tellSilk 65 [(0, .ref l0), (1, .int l1), (2, .int l2), (3, .int s0)] [] (S, I, L)
 else
 if kK S l0 = 12 then
 (bV (evM zcod d 170 [.ref l0] (S, I, L)) fun M1 =>
 if M1.1.1 = S.1 then
 (evk zcod none d zc_X12_tellSilk 65 [(0, .ref l0), (1, .int l1), (2, .int l2), (3, .int s0)] [] M1) else none) else none :=
  (blk_ok zcod none d zc_X12_tellSilk [(57, .iload_n 3, 58, [], none), (58, .ifCond .eq 7, 61, [65], none), (61, .aload_n 0, 62, [], none), (62, .invokevirtual 248, 65, [170, 0, 0, 12, 704, 705, 706, 662], none)] (56, .istore_n 3, 57, [], some [0, 1, 2]) (by decide +kernel) _ _ _).trans rfl
set_option maxRecDepth 20000 in
set_option maxHeartbeats 4000000 in
theorem B_X12_tellSilk_65 (d : Nat) (S : mS) (I : mI) (L : mJ) (l0 : Nat) (l1 : Int32) (l2 : Int32) (l3 : Int32) :
  evk zcod none d zc_X12_tellSilk 65 [(0, .ref l0), (1, .int l1), (2, .int l2), (3, .int l3)] [] (S, I, L) =
  if kK S l0 = 12 then
 (bI (evM zcod d 180 [.ref l0, .int (nI 0), .int (nI 3)] (S, I, L)) fun x1 M1 =>
 if M1.1.1 = S.1 then
 (if kK M1.1 l0 = 12 then
 (if l3 = (nI 0) then
 evk zcod none d zc_X12_tellSilk 88 [(0, .ref l0), (2, .int l2), (4, .int x1)] [.int l1, .ref (kR M1.1 l0 28)] M1
 else
 evk zcod none d zc_X12_tellSilk 90 [(0, .ref l0), (2, .int l2)] [.int (-x1), .int l1, .ref (kR M1.1 l0 28)] M1) else none) else none) else none :=
  (blk_ok zcod none d zc_X12_tellSilk [(66, .iconst 0, 67, [], none), (67, .iconst 3, 68, [], none), (68, .invokevirtual 281, 71, [180, 2, 1, 12, 721, 722, 723, 662], none), (71, .istore 4, 73, [], none), (73, .aload_n 0, 74, [], none), (74, .getfield 61, 77, [12, 28, 2, 620, 0], none), (77, .iload_n 1, 78, [], none), (78, .iload_n 3, 79, [], none), (79, .ifCond .eq 9, 82, [88], none), (82, .iload 4, 84, [], none), (84, .ineg, 85, [], none), (85, .goto 5, 88, [90], none)] (65, .aload_n 0, 66, [], some [0, 1, 2, 3]) (by decide +kernel) _ _ _).trans rfl
set_option maxRecDepth 20000 in
set_option maxHeartbeats 4000000 in
theorem B_X12_tellSilk_88 (d : Nat) (S : mS) (I : mI) (L : mJ) (l0 : Nat) (l2 : Int32) (l4 : Int32) (s0 : Nat) (s1 : Int32) :
  evk zcod none d zc_X12_tellSilk 88 [(0, .ref l0), (2, .int l2), (4, .int l4)] [.int s1, .ref s0] (S, I, L) =
  evk zcod none d zc_X12_tellSilk 90 [(0, .ref l0), (2, .int l2)] [.int l4, .int s1, .ref s0] (S, I, L) :=
  (blk_ok zcod none d zc_X12_tellSilk [] (88, .iload 4, 90, [], some [0, 2, 4]) (by decide +kernel) _ _ _).trans rfl
set_option maxRecDepth 20000 in
set_option maxHeartbeats 4000000 in
theorem B_X12_tellSilk_90 (d : Nat) (S : mS) (I : mI) (L : mJ) (l0 : Nat) (l2 : Int32) (s0 : Nat) (s1 : Int32) (s2 : Int32) :
  evk zcod none d zc_X12_tellSilk 90 [(0, .ref l0), (2, .int l2)] [.int s2, .int s1, .ref s0] (S, I, L) =
  if kK S s0 = 20 ∧ zin s1 (kN S s0) then
 (if kK S l0 = 12 then
 (bV (evM zcod d 179 [.ref l0, .int l2] (S, (uI I s0 (zix s1) s2), L)) fun M1 =>
 if M1.1.1 = S.1 then
 (if kK M1.1 l0 = 12 then
 (if ¬ (M1.2.1 l0 13) = (nI 0) then
 evk zcod none d zc_X12_tellSilk 116 [] [] M1
 else
 if kK M1.1 l0 = 12 then
 (if kK M1.1 l0 = 12 then
 (if kK M1.1 (kR M1.1 l0 26) = 20 ∧ zin (M1.2.1 l0 19) (kN M1.1 (kR M1.1 l0 26)) then
 (if kK M1.1 (kR M1.1 l0 26) = 20 ∧ zin (M1.2.1 l0 19) (kN M1.1 (kR M1.1 l0 26)) then
 (evk zcod none d zc_X12_tellSilk 116 [] [] (M1.1, (uI M1.2.1 (kR M1.1 l0 26) (zix (M1.2.1 l0 19)) ((M1.2.1 (kR M1.1 l0 26) (zix (M1.2.1 l0 19))) + (nI 1))), M1.2.2)) else none) else none) else none) else none) else none) else none) else none) else none :=
  (blk_ok zcod none d zc_X12_tellSilk [(91, .aload_n 0, 92, [], none), (92, .iload_n 2, 93, [], none), (93, .invokevirtual 314, 96, [179, 1, 0, 12, 751, 752, 753, 662], none), (96, .aload_n 0, 97, [], none), (97, .getfield 227, 100, [12, 13, 0, 693, 0], none), (100, .ifCond .ne 16, 103, [116], none), (103, .aload_n 0, 104, [], none), (104, .getfield 55, 107, [12, 26, 2, 618, 0], none), (107, .aload_n 0, 108, [], none), (108, .getfield 260, 111, [12, 19, 0, 712, 0], none), (111, .dup2, 112, [], none), (112, .iaload, 113, [20], none), (113, .iconst 1, 114, [], none), (114, .iadd, 115, [], none), (115, .iastore, 116, [20], none)] (90, .iastore, 91, [20], some [0, 2]) (by decide +kernel) _ _ _).trans rfl
set_option maxRecDepth 20000 in
set_option maxHeartbeats 4000000 in
theorem B_X12_tellSilk_116 (d : Nat) (S : mS) (I : mI) (L : mJ)  :
  evk zcod none d zc_X12_tellSilk 116 [] [] (S, I, L) =
  some (none, (S, I, L)) :=
  (blk_ok zcod none d zc_X12_tellSilk [] (116, .return_, 117, [], some []) (by decide +kernel) _ _ _).trans rfl
theorem E_X12_tellHook (d : Nat) (M : zM) (l0 : Nat) : evM zcod (d + 1) 183 [.ref l0] M = evk zcod none d zc_X12_tellHook 0 [(0, .ref l0)] [] M := evM_eq zcod d 183 _ M (Nat.le_of_ble_eq_true rfl)
set_option maxRecDepth 20000 in
set_option maxHeartbeats 4000000 in
theorem B_X12_tellHook_0 (d : Nat) (S : mS) (I : mI) (L : mJ) (l0 : Nat) :
  evk zcod none d zc_X12_tellHook 0 [(0, .ref l0)] [] (S, I, L) =
  if kK S l0 = 12 then
 (if kK S l0 = 12 then
 (if kK S l0 = 12 then
 (if kK S (kR S l0 29) = 20 ∧ zin (I l0 19) (kN S (kR S l0 29)) then
 (if kK S l0 = 12 then
 (bI (evM zcod d 178 [.ref l0] (S, I, L)) fun x1 M1 =>
 if M1.1.1 = S.1 then
 (if kK M1.1 l0 = 12 then
 (if kK M1.1 l0 = 12 then
 (bI (evM zcod d 180 [.ref l0, .int (nI 0), .int (nI 19)] M1) fun x2 M2 =>
 if M2.1.1 = M1.1.1 then
 (if kK M2.1 (kR M1.1 l0 30) = 20 ∧ zin (((nI 5) * (I l0 19)) + (I (kR S l0 29) (zix (I l0 19)))) (kN M2.1 (kR M1.1 l0 30)) then
 (if kK M2.1 l0 = 12 then
 (if kK M2.1 l0 = 12 then
 (bI (evM zcod d 180 [.ref l0, .int (nI 0), .int (nI 5)] (M2.1, (uI M2.2.1 (kR M1.1 l0 30) (zix (((nI 5) * (I l0 19)) + (I (kR S l0 29) (zix (I l0 19))))) x2), M2.2.2)) fun x3 M3 =>
 if M3.1.1 = M2.1.1 then
 (if kK M3.1 (kR M2.1 l0 31) = 20 ∧ zin (((nI 5) * (I l0 19)) + (I (kR S l0 29) (zix (I l0 19)))) (kN M3.1 (kR M2.1 l0 31)) then
 (evk zcod none d zc_X12_tellHook 47 [(0, .ref l0), (1, .int (((nI 5) * (I l0 19)) + (I (kR S l0 29) (zix (I l0 19))))), (2, .int x1)] [] (M3.1, (uI M3.2.1 (kR M2.1 l0 31) (zix (((nI 5) * (I l0 19)) + (I (kR S l0 29) (zix (I l0 19))))) x3), M3.2.2)) else none) else none) else none) else none) else none) else none) else none) else none) else none) else none) else none) else none) else none) else none :=
  (blk_ok zcod none d zc_X12_tellHook [(1, .aload_n 0, 2, [], none), (2, .getfield 260, 5, [12, 19, 0, 712, 0], none), (5, .imul, 6, [], none), (6, .aload_n 0, 7, [], none), (7, .getfield 64, 10, [12, 29, 2, 621, 0], none), (10, .aload_n 0, 11, [], none), (11, .getfield 260, 14, [12, 19, 0, 712, 0], none), (14, .iaload, 15, [20], none), (15, .iadd, 16, [], none), (16, .istore_n 1, 17, [], none), (17, .aload_n 0, 18, [], none), (18, .invokevirtual 310, 21, [178, 0, 1, 12, 748, 749, 750, 662], none), (21, .istore_n 2, 22, [], none), (22, .aload_n 0, 23, [], none), (23, .getfield 67, 26, [12, 30, 2, 622, 0], none), (26, .iload_n 1, 27, [], none), (27, .aload_n 0, 28, [], none), (28, .iconst 0, 29, [], none), (29, .bipush 19, 31, [], none), (31, .invokevirtual 281, 34, [180, 2, 1, 12, 721, 722, 723, 662], none), (34, .iastore, 35, [20], none), (35, .aload_n 0, 36, [], none), (36, .getfield 70, 39, [12, 31, 2, 623, 0], none), (39, .iload_n 1, 40, [], none), (40, .aload_n 0, 41, [], none), (41, .iconst 0, 42, [], none), (42, .iconst 5, 43, [], none), (43, .invokevirtual 281, 46, [180, 2, 1, 12, 721, 722, 723, 662], none), (46, .iastore, 47, [20], none)] (0, .iconst 5, 1, [], none) (by decide +kernel) _ _ _).trans rfl
set_option maxRecDepth 20000 in
set_option maxHeartbeats 4000000 in
theorem B_X12_tellHook_47 (d : Nat) (S : mS) (I : mI) (L : mJ) (l0 : Nat) (l1 : Int32) (l2 : Int32) :
  evk zcod none d zc_X12_tellHook 47 [(0, .ref l0), (1, .int l1), (2, .int l2)] [] (S, I, L) =
  if kK S l0 = 12 then
 (if kK S l0 = 12 then
 (bI (evM zcod d 180 [.ref l0, .int (nI 1), .int (nI 9)] (S, I, L)) fun x1 M1 =>
 if M1.1.1 = S.1 then
 (if kK M1.1 (kR S l0 32) = 20 ∧ zin l1 (kN M1.1 (kR S l0 32)) then
 (if kK M1.1 l0 = 12 then
 (bV (evM zcod d 179 [.ref l0, .int l2] (M1.1, (uI M1.2.1 (kR S l0 32) (zix l1) x1), M1.2.2)) fun M2 =>
 if M2.1.1 = M1.1.1 then
 (if kK M2.1 l0 = 12 then
 (if ¬ (M2.2.1 l0 13) = (nI 0) then
 evk zcod none d zc_X12_tellHook 85 [] [] M2
 else
 if kK M2.1 l0 = 12 then
 (if kK M2.1 l0 = 12 then
 (if kK M2.1 (kR M2.1 l0 29) = 20 ∧ zin (M2.2.1 l0 19) (kN M2.1 (kR M2.1 l0 29)) then
 (if kK M2.1 (kR M2.1 l0 29) = 20 ∧ zin (M2.2.1 l0 19) (kN M2.1 (kR M2.1 l0 29)) then
 (evk zcod none d zc_X12_tellHook 85 [] [] (M2.1, (uI M2.2.1 (kR M2.1 l0 29) (zix (M2.2.1 l0 19)) ((M2.2.1 (kR M2.1 l0 29) (zix (M2.2.1 l0 19))) + (nI 1))), M2.2.2)) else none) else none) else none) else none) else none) else none) else none) else none) else none) else none) else none :=
  (blk_ok zcod none d zc_X12_tellHook [(48, .getfield 73, 51, [12, 32, 2, 624, 0], none), (51, .iload_n 1, 52, [], none), (52, .aload_n 0, 53, [], none), (53, .iconst 1, 54, [], none), (54, .bipush 9, 56, [], none), (56, .invokevirtual 281, 59, [180, 2, 1, 12, 721, 722, 723, 662], none), (59, .iastore, 60, [20], none), (60, .aload_n 0, 61, [], none), (61, .iload_n 2, 62, [], none), (62, .invokevirtual 314, 65, [179, 1, 0, 12, 751, 752, 753, 662], none), (65, .aload_n 0, 66, [], none), (66, .getfield 227, 69, [12, 13, 0, 693, 0], none), (69, .ifCond .ne 16, 72, [85], none), (72, .aload_n 0, 73, [], none), (73, .getfield 64, 76, [12, 29, 2, 621, 0], none), (76, .aload_n 0, 77, [], none), (77, .getfield 260, 80, [12, 19, 0, 712, 0], none), (80, .dup2, 81, [], none), (81, .iaload, 82, [20], none), (82, .iconst 1, 83, [], none), (83, .iadd, 84, [], none), (84, .iastore, 85, [20], none)] (47, .aload_n 0, 48, [], some [0, 1, 2]) (by decide +kernel) _ _ _).trans rfl
set_option maxRecDepth 20000 in
set_option maxHeartbeats 4000000 in
theorem B_X12_tellHook_85 (d : Nat) (S : mS) (I : mI) (L : mJ)  :
  evk zcod none d zc_X12_tellHook 85 [] [] (S, I, L) =
  some (none, (S, I, L)) :=
  (blk_ok zcod none d zc_X12_tellHook [] (85, .return_, 86, [], some []) (by decide +kernel) _ _ _).trans rfl
theorem E_X12_tellLaw (d : Nat) (M : zM) (l0 : Nat) (l1 : Int32) : evM zcod (d + 1) 184 [.ref l0, .int l1] M = evk zcod none d zc_X12_tellLaw 0 [(0, .ref l0), (1, .int l1)] [] M := evM_eq zcod d 184 _ M (Nat.le_of_ble_eq_true rfl)
set_option maxRecDepth 20000 in
set_option maxHeartbeats 4000000 in
theorem B_X12_tellLaw_0 (d : Nat) (S : mS) (I : mI) (L : mJ) (l0 : Nat) (l1 : Int32) :
  evk zcod none d zc_X12_tellLaw 0 [(0, .ref l0), (1, .int l1)] [] (S, I, L) =
  if kK S l0 = 12 then
 (bV (evM zcod d 171 [.ref l0, .int (nI 5)] (S, I, L)) fun M1 =>
 if M1.1.1 = S.1 then
 (if kK M1.1 l0 = 12 then
 (evk zcod none d zc_X12_tellLaw 12 [(0, .ref l0), (1, .int l1), (2, .int (M1.2.1 l0 38)), (3, .int (nI 0))] [] M1) else none) else none) else none :=
  (blk_ok zcod none d zc_X12_tellLaw [(1, .iconst 5, 2, [], none), (2, .invokevirtual 285, 5, [171, 1, 0, 12, 724, 725, 726, 662], none), (5, .aload_n 0, 6, [], none), (6, .getfield 266, 9, [12, 38, 0, 714, 0], none), (9, .istore_n 2, 10, [], none), (10, .iconst 0, 11, [], none), (11, .istore_n 3, 12, [], none)] (0, .aload_n 0, 1, [], none) (by decide +kernel) _ _ _).trans rfl
set_option maxRecDepth 20000 in
set_option maxHeartbeats 4000000 in
theorem B_X12_tellLaw_12 (d : Nat) (S : mS) (I : mI) (L : mJ) (l0 : Nat) (l1 : Int32) (l2 : Int32) (l3 : Int32) :
  evk zcod none d zc_X12_tellLaw 12 [(0, .ref l0), (1, .int l1), (2, .int l2), (3, .int l3)] [] (S, I, L) =
  if kK S l0 = 12 then
 (if ¬ (I l0 13) = (nI 0) then
 evk zcod none d zc_X12_tellLaw 129 [(0, .ref l0), (1, .int l1), (2, .int l2)] [] (S, I, L)
 else
 if kK S l0 = 12 then
 (bI (evM zcod d 167 [.ref l0, .int (nI 30)] (S, I, L)) fun x1 M1 =>
 if M1.1.1 = S.1 then
 (if x1 = (nI 0) then
 evk zcod none d zc_X12_tellLaw 129 [(0, .ref l0), (1, .int l1), (2, .int l2)] [] M1
 else
 if ¬ l3 = (nI 4) then
 evk zcod none d zc_X12_tellLaw 38 [(0, .ref l0), (1, .int l1), (2, .int l2), (3, .int l3)] [] M1
 else
 if kK M1.1 l0 = 12 then
 (bV (evM zcod d 168 [.ref l0, .int (nI 2)] M1) fun M2 =>
 if M2.1.1 = M1.1.1 then
 (evk zcod none d zc_X12_tellLaw 38 [(0, .ref l0), (1, .int l1), (2, .int l2), (3, .int l3)] [] M2) else none) else none) else none) else none) else none :=
  (blk_ok zcod none d zc_X12_tellLaw [(13, .getfield 227, 16, [12, 13, 0, 693, 0], none), (16, .ifCond .ne 113, 19, [129], none), (19, .aload_n 0, 20, [], none), (20, .bipush 30, 22, [], none), (22, .invokevirtual 245, 25, [167, 1, 1, 12, 701, 702, 703, 662], none), (25, .ifCond .eq 104, 28, [129], none), (28, .iload_n 3, 29, [], none), (29, .iconst 4, 30, [], none), (30, .if_icmp .ne 8, 33, [38], none), (33, .aload_n 0, 34, [], none), (34, .iconst 2, 35, [], none), (35, .invokevirtual 242, 38, [168, 1, 0, 12, 698, 699, 700, 662], none)] (12, .aload_n 0, 13, [], some [0, 1, 2, 3]) (by decide +kernel) _ _ _).trans rfl
set_option maxRecDepth 20000 in
set_option maxHeartbeats 4000000 in
theorem B_X12_tellLaw_38 (d : Nat) (S : mS) (I : mI) (L : mJ) (l0 : Nat) (l1 : Int32) (l2 : Int32) (l3 : Int32) :
  evk zcod none d zc_X12_tellLaw 38 [(0, .ref l0), (1, .int l1), (2, .int l2), (3, .int l3)] [] (S, I, L) =
  if kK S l0 = 12 then
 (if (I l0 13) ≤ (nI 0) then
 evk zcod none d zc_X12_tellLaw 46 [(0, .ref l0), (1, .int l1), (2, .int l2), (3, .int l3)] [] (S, I, L)
 else
 some (none, (S, I, L))) else none :=
  (blk_ok zcod none d zc_X12_tellLaw [(39, .getfield 227, 42, [12, 13, 0, 693, 0], none), (42, .ifCond .le 4, 45, [46], none), (45, .return_, 46, [], none)] (38, .aload_n 0, 39, [], some [0, 1, 2, 3]) (by decide +kernel) _ _ _).trans rfl
set_option maxRecDepth 20000 in
set_option maxHeartbeats 4000000 in
theorem B_X12_tellLaw_46 (d : Nat) (S : mS) (I : mI) (L : mJ) (l0 : Nat) (l1 : Int32) (l2 : Int32) (l3 : Int32) :
  evk zcod none d zc_X12_tellLaw 46 [(0, .ref l0), (1, .int l1), (2, .int l2), (3, .int l3)] [] (S, I, L) =
  if kK S l0 = 12 then
 (bV (evM zcod d 170 [.ref l0] (S, I, L)) fun M1 =>
 if M1.1.1 = S.1 then
 (if kK M1.1 l0 = 12 then
 (if kK M1.1 l0 = 12 then
 (if kK M1.1 (kR M1.1 l0 39) = 22 ∧ zin (M1.2.1 l0 38) (kN M1.1 (kR M1.1 l0 39)) then
 (if kK M1.1 l0 = 12 then
 (if kK M1.1 l0 = 12 then
 (if kK M1.1 l0 = 12 then
 (if kK M1.1 (kR M1.1 l0 40) = 20 ∧ zin ((uI M1.2.1 (kR M1.1 l0 39) (zix (M1.2.1 l0 38)) ((nI 1) &&& nI 1)) l0 38) (kN M1.1 (kR M1.1 l0 40)) then
 (if kK M1.1 l0 = 12 then
 (bV (evM zcod d 188 [.ref l0] (M1.1, (uI (uI M1.2.1 (kR M1.1 l0 39) (zix (M1.2.1 l0 38)) ((nI 1) &&& nI 1)) (kR M1.1 l0 40) (zix ((uI M1.2.1 (kR M1.1 l0 39) (zix (M1.2.1 l0 38)) ((nI 1) &&& nI 1)) l0 38)) ((uI M1.2.1 (kR M1.1 l0 39) (zix (M1.2.1 l0 38)) ((nI 1) &&& nI 1)) l0 44)), M1.2.2)) fun M2 =>
 if M2.1.1 = M1.1.1 then
 (evk zcod none d zc_X12_tellLaw 80 [(0, .ref l0), (1, .int l1), (2, .int l2), (3, .int (l3 + (nI 1)))] [] M2) else none) else none) else none) else none) else none) else none) else none) else none) else none) else none) else none :=
  (blk_ok zcod none d zc_X12_tellLaw [(49, .aload_n 0, 50, [], none), (50, .invokevirtual 248, 53, [170, 0, 0, 12, 704, 705, 706, 662], none), (53, .aload_n 0, 54, [], none), (54, .getfield 91, 57, [12, 39, 2, 631, 0], none), (57, .aload_n 0, 58, [], none), (58, .getfield 266, 61, [12, 38, 0, 714, 0], none), (61, .iconst 1, 62, [], none), (62, .bastore, 63, [22], none), (63, .aload_n 0, 64, [], none), (64, .getfield 95, 67, [12, 40, 2, 632, 0], none), (67, .aload_n 0, 68, [], none), (68, .getfield 266, 71, [12, 38, 0, 714, 0], none), (71, .aload_n 0, 72, [], none), (72, .getfield 269, 75, [12, 44, 0, 715, 0], none), (75, .iastore, 76, [20], none), (76, .aload_n 0, 77, [], none), (77, .invokevirtual 317, 80, [188, 0, 0, 12, 754, 755, 756, 662], none)] (46, .iinc 3 1, 49, [], some [0, 1, 2, 3]) (by decide +kernel) _ _ _).trans rfl
set_option maxRecDepth 20000 in
set_option maxHeartbeats 4000000 in
theorem B_X12_tellLaw_80 (d : Nat) (S : mS) (I : mI) (L : mJ) (l0 : Nat) (l1 : Int32) (l2 : Int32) (l3 : Int32) :
  evk zcod none d zc_X12_tellLaw 80 [(0, .ref l0), (1, .int l1), (2, .int l2), (3, .int l3)] [] (S, I, L) =
  if kK S l0 = 12 then
 (bV (evM zcod d 171 [.ref l0, .int (nI 13)] (S, I, L)) fun M1 =>
 if M1.1.1 = S.1 then
 (if kK M1.1 l0 = 12 then
 (if kK M1.1 l0 = 12 then
 (if kK M1.1 l0 = 12 then
 (if kK M1.1 (kR M1.1 l0 41) = 20 ∧ zin (M1.2.1 l0 38) (kN M1.1 (kR M1.1 l0 41)) then
 (if kK M1.1 l0 = 12 then
 (if ¬ ((uI M1.2.1 (kR M1.1 l0 41) (zix (M1.2.1 l0 38)) (M1.2.1 l0 44)) l0 13) = (nI 0) then
 evk zcod none d zc_X12_tellLaw 110 [(0, .ref l0), (1, .int l1), (2, .int l2), (3, .int l3)] [] (M1.1, (uI M1.2.1 (kR M1.1 l0 41) (zix (M1.2.1 l0 38)) (M1.2.1 l0 44)), M1.2.2)
 else
 if kK M1.1 l0 = 12 then
 (bV (evM zcod d 188 [.ref l0] (M1.1, (uI M1.2.1 (kR M1.1 l0 41) (zix (M1.2.1 l0 38)) (M1.2.1 l0 44)), M1.2.2)) fun M2 =>
 if M2.1.1 = M1.1.1 then
 (evk zcod none d zc_X12_tellLaw 110 [(0, .ref l0), (1, .int l1), (2, .int l2), (3, .int l3)] [] M2) else none) else none) else none) else none) else none) else none) else none) else none) else none :=
  (blk_ok zcod none d zc_X12_tellLaw [(81, .bipush 13, 83, [], none), (83, .invokevirtual 285, 86, [171, 1, 0, 12, 724, 725, 726, 662], none), (86, .aload_n 0, 87, [], none), (87, .getfield 98, 90, [12, 41, 2, 633, 0], none), (90, .aload_n 0, 91, [], none), (91, .getfield 266, 94, [12, 38, 0, 714, 0], none), (94, .aload_n 0, 95, [], none), (95, .getfield 269, 98, [12, 44, 0, 715, 0], none), (98, .iastore, 99, [20], none), (99, .aload_n 0, 100, [], none), (100, .getfield 227, 103, [12, 13, 0, 693, 0], none), (103, .ifCond .ne 7, 106, [110], none), (106, .aload_n 0, 107, [], none), (107, .invokevirtual 317, 110, [188, 0, 0, 12, 754, 755, 756, 662], none)] (80, .aload_n 0, 81, [], some [0, 1, 2, 3]) (by decide +kernel) _ _ _).trans rfl
set_option maxRecDepth 20000 in
set_option maxHeartbeats 4000000 in
theorem B_X12_tellLaw_110 (d : Nat) (S : mS) (I : mI) (L : mJ) (l0 : Nat) (l1 : Int32) (l2 : Int32) (l3 : Int32) :
  evk zcod none d zc_X12_tellLaw 110 [(0, .ref l0), (1, .int l1), (2, .int l2), (3, .int l3)] [] (S, I, L) =
  if kK S l0 = 12 then
 (bV (evM zcod d 171 [.ref l0, .int (nI 31)] (S, I, L)) fun M1 =>
 if M1.1.1 = S.1 then
 (if kK M1.1 l0 = 12 then
 (bV (evM zcod d 185 [.ref l0] M1) fun M2 =>
 if M2.1.1 = M1.1.1 then
 (if kK M2.1 l0 = 12 then
 (bV (evM zcod d 171 [.ref l0, .int (nI 32)] M2) fun M3 =>
 if M3.1.1 = M2.1.1 then
 (evk zcod none d zc_X12_tellLaw 12 [(0, .ref l0), (1, .int l1), (2, .int l2), (3, .int l3)] [] M3) else none) else none) else none) else none) else none) else none :=
  (blk_ok zcod none d zc_X12_tellLaw [(111, .bipush 31, 113, [], none), (113, .invokevirtual 285, 116, [171, 1, 0, 12, 724, 725, 726, 662], none), (116, .aload_n 0, 117, [], none), (117, .invokevirtual 320, 120, [185, 0, 0, 12, 757, 758, 759, 662], none), (120, .aload_n 0, 121, [], none), (121, .bipush 32, 123, [], none), (123, .invokevirtual 285, 126, [171, 1, 0, 12, 724, 725, 726, 662], none), (126, .goto (-114), 129, [12], none)] (110, .aload_n 0, 111, [], some [0, 1, 2, 3]) (by decide +kernel) _ _ _).trans rfl
set_option maxRecDepth 20000 in
set_option maxHeartbeats 4000000 in
theorem B_X12_tellLaw_129 (d : Nat) (S : mS) (I : mI) (L : mJ) (l0 : Nat) (l1 : Int32) (l2 : Int32) :
  evk zcod none d zc_X12_tellLaw 129 [(0, .ref l0), (1, .int l1), (2, .int l2)] [] (S, I, L) =
  if kK S l0 = 12 then
 (if kK S l0 = 12 then
 (if kK S (kR S l0 39) = 22 ∧ zin (I l0 38) (kN S (kR S l0 39)) then
 (if kK S l0 = 12 then
 (bV (evM zcod d 185 [.ref l0] (S, (uI I (kR S l0 39) (zix (I l0 38)) ((nI 0) &&& nI 1)), L)) fun M1 =>
 if M1.1.1 = S.1 then
 (if kK M1.1 l0 = 12 then
 (bV (evM zcod d 171 [.ref l0, .int (nI 4)] M1) fun M2 =>
 if M2.1.1 = M1.1.1 then
 (if kK M2.1 l0 = 12 then
 (if (M2.2.1 l0 13) ≤ (nI 0) then
 evk zcod none d zc_X12_tellLaw 156 [(0, .ref l0), (1, .int l1), (2, .int l2)] [] M2
 else
 some (none, M2)) else none) else none) else none) else none) else none) else none) else none) else none :=
  (blk_ok zcod none d zc_X12_tellLaw [(130, .getfield 91, 133, [12, 39, 2, 631, 0], none), (133, .aload_n 0, 134, [], none), (134, .getfield 266, 137, [12, 38, 0, 714, 0], none), (137, .iconst 0, 138, [], none), (138, .bastore, 139, [22], none), (139, .aload_n 0, 140, [], none), (140, .invokevirtual 320, 143, [185, 0, 0, 12, 757, 758, 759, 662], none), (143, .aload_n 0, 144, [], none), (144, .iconst 4, 145, [], none), (145, .invokevirtual 285, 148, [171, 1, 0, 12, 724, 725, 726, 662], none), (148, .aload_n 0, 149, [], none), (149, .getfield 227, 152, [12, 13, 0, 693, 0], none), (152, .ifCond .le 4, 155, [156], none), (155, .return_, 156, [], none)] (129, .aload_n 0, 130, [], some [0, 1, 2]) (by decide +kernel) _ _ _).trans rfl
set_option maxRecDepth 20000 in
set_option maxHeartbeats 4000000 in
theorem B_X12_tellLaw_156 (d : Nat) (S : mS) (I : mI) (L : mJ) (l0 : Nat) (l1 : Int32) (l2 : Int32) :
  evk zcod none d zc_X12_tellLaw 156 [(0, .ref l0), (1, .int l1), (2, .int l2)] [] (S, I, L) =
  if kK S l0 = 12 then
 (if kK S l0 = 12 then
 (if kK S (kR S l0 36) = 20 ∧ zin (((nI 4) * (I l0 19)) + l1) (kN S (kR S l0 36)) then
 (if kK S l0 = 12 then
 (if kK S l0 = 12 then
 (if kK S l0 = 12 then
 (if kK S (kR S l0 37) = 20 ∧ zin (((nI 4) * ((uI I (kR S l0 36) (zix (((nI 4) * (I l0 19)) + l1)) l2) l0 19)) + l1) (kN S (kR S l0 37)) then
 (some (none, (S, (uI (uI I (kR S l0 36) (zix (((nI 4) * (I l0 19)) + l1)) l2) (kR S l0 37) (zix (((nI 4) * ((uI I (kR S l0 36) (zix (((nI 4) * (I l0 19)) + l1)) l2) l0 19)) + l1)) ((uI I (kR S l0 36) (zix (((nI 4) * (I l0 19)) + l1)) l2) l0 38)), L))) else none) else none) else none) else none) else none) else none) else none :=
  (blk_ok zcod none d zc_X12_tellLaw [(157, .getfield 85, 160, [12, 36, 2, 628, 0], none), (160, .iconst 4, 161, [], none), (161, .aload_n 0, 162, [], none), (162, .getfield 260, 165, [12, 19, 0, 712, 0], none), (165, .imul, 166, [], none), (166, .iload_n 1, 167, [], none), (167, .iadd, 168, [], none), (168, .iload_n 2, 169, [], none), (169, .iastore, 170, [20], none), (170, .aload_n 0, 171, [], none), (171, .getfield 88, 174, [12, 37, 2, 629, 0], none), (174, .iconst 4, 175, [], none), (175, .aload_n 0, 176, [], none), (176, .getfield 260, 179, [12, 19, 0, 712, 0], none), (179, .imul, 180, [], none), (180, .iload_n 1, 181, [], none), (181, .iadd, 182, [], none), (182, .aload_n 0, 183, [], none), (183, .getfield 266, 186, [12, 38, 0, 714, 0], none), (186, .iastore, 187, [20], none), (187, .return_, 188, [], none)] (156, .aload_n 0, 157, [], some [0, 1, 2]) (by decide +kernel) _ _ _).trans rfl
theorem E_X12_term (d : Nat) (M : zM) (l0 : Nat) : evM zcod (d + 1) 185 [.ref l0] M = evk zcod none d zc_X12_term 0 [(0, .ref l0)] [] M := evM_eq zcod d 185 _ M (Nat.le_of_ble_eq_true rfl)
set_option maxRecDepth 20000 in
set_option maxHeartbeats 4000000 in
theorem B_X12_term_0 (d : Nat) (S : mS) (I : mI) (L : mJ) (l0 : Nat) :
  evk zcod none d zc_X12_term 0 [(0, .ref l0)] [] (S, I, L) =
  if kK S l0 = 12 then
 (if kK S l0 = 12 then
 (if kK S l0 = 12 then
 (if kK S (kR S l0 42) = 20 ∧ zin (I l0 38) (kN S (kR S l0 42)) then
 (if kK S l0 = 12 then
 (if ¬ ((uI I (kR S l0 42) (zix (I l0 38)) (I l0 44)) l0 13) = (nI 0) then
 evk zcod none d zc_X12_term 24 [(0, .ref l0)] [] (S, (uI I (kR S l0 42) (zix (I l0 38)) (I l0 44)), L)
 else
 if kK S l0 = 12 then
 (bV (evM zcod d 188 [.ref l0] (S, (uI I (kR S l0 42) (zix (I l0 38)) (I l0 44)), L)) fun M1 =>
 if M1.1.1 = S.1 then
 (evk zcod none d zc_X12_term 24 [(0, .ref l0)] [] M1) else none) else none) else none) else none) else none) else none) else none :=
  (blk_ok zcod none d zc_X12_term [(1, .getfield 101, 4, [12, 42, 2, 634, 0], none), (4, .aload_n 0, 5, [], none), (5, .getfield 266, 8, [12, 38, 0, 714, 0], none), (8, .aload_n 0, 9, [], none), (9, .getfield 269, 12, [12, 44, 0, 715, 0], none), (12, .iastore, 13, [20], none), (13, .aload_n 0, 14, [], none), (14, .getfield 227, 17, [12, 13, 0, 693, 0], none), (17, .ifCond .ne 7, 20, [24], none), (20, .aload_n 0, 21, [], none), (21, .invokevirtual 317, 24, [188, 0, 0, 12, 754, 755, 756, 662], none)] (0, .aload_n 0, 1, [], none) (by decide +kernel) _ _ _).trans rfl
set_option maxRecDepth 20000 in
set_option maxHeartbeats 4000000 in
theorem B_X12_term_24 (d : Nat) (S : mS) (I : mI) (L : mJ) (l0 : Nat) :
  evk zcod none d zc_X12_term 24 [(0, .ref l0)] [] (S, I, L) =
  if kK S l0 = 12 then
 (if kK S l0 = 12 then
 (if kK S l0 = 12 then
 (if kK S (kR S l0 43) = 20 ∧ zin (I l0 38) (kN S (kR S l0 43)) then
 (if kK S l0 = 12 then
 (if kK S l0 = 12 then
 (some (none, (S, (uI (uI I (kR S l0 43) (zix (I l0 38)) (I l0 44)) l0 38 (((uI I (kR S l0 43) (zix (I l0 38)) (I l0 44)) l0 38) + (nI 1))), L))) else none) else none) else none) else none) else none) else none :=
  (blk_ok zcod none d zc_X12_term [(25, .getfield 104, 28, [12, 43, 2, 635, 0], none), (28, .aload_n 0, 29, [], none), (29, .getfield 266, 32, [12, 38, 0, 714, 0], none), (32, .aload_n 0, 33, [], none), (33, .getfield 269, 36, [12, 44, 0, 715, 0], none), (36, .iastore, 37, [20], none), (37, .aload_n 0, 38, [], none), (38, .dup, 39, [], none), (39, .getfield 266, 42, [12, 38, 0, 714, 0], none), (42, .iconst 1, 43, [], none), (43, .iadd, 44, [], none), (44, .putfield 266, 47, [12, 38, 0, 714, 0, 0], none), (47, .return_, 48, [], none)] (24, .aload_n 0, 25, [], some [0]) (by decide +kernel) _ _ _).trans rfl
theorem E_X12_emit (d : Nat) (M : zM) (l0 : Nat) (l1 : Int32) (l2 : Int32) : evM zcod (d + 1) 186 [.ref l0, .int l1, .int l2] M = evk zcod none d zc_X12_emit 0 [(0, .ref l0), (1, .int l1), (2, .int l2)] [] M := evM_eq zcod d 186 _ M (Nat.le_of_ble_eq_true rfl)
set_option maxRecDepth 20000 in
set_option maxHeartbeats 4000000 in
theorem B_X12_emit_0 (d : Nat) (S : mS) (I : mI) (L : mJ) (l0 : Nat) (l1 : Int32) (l2 : Int32) :
  evk zcod none d zc_X12_emit 0 [(0, .ref l0), (1, .int l1), (2, .int l2)] [] (S, I, L) =
  if kK S l0 = 12 then
 (if kK S l0 = 12 then
 (if kK S (kR S l0 45) = 20 ∧ zin (I l0 44) (kN S (kR S l0 45)) then
 (if kK S l0 = 12 then
 (if kK S l0 = 12 then
 (if kK S (kR S l0 46) = 20 ∧ zin ((uI I (kR S l0 45) (zix (I l0 44)) l1) l0 44) (kN S (kR S l0 46)) then
 (if kK S l0 = 12 then
 (if kK S l0 = 12 then
 (some (none, (S, (uI (uI (uI I (kR S l0 45) (zix (I l0 44)) l1) (kR S l0 46) (zix ((uI I (kR S l0 45) (zix (I l0 44)) l1) l0 44)) l2) l0 44 (((uI (uI I (kR S l0 45) (zix (I l0 44)) l1) (kR S l0 46) (zix ((uI I (kR S l0 45) (zix (I l0 44)) l1) l0 44)) l2) l0 44) + (nI 1))), L))) else none) else none) else none) else none) else none) else none) else none) else none :=
  (blk_ok zcod none d zc_X12_emit [(1, .getfield 107, 4, [12, 45, 2, 636, 0], none), (4, .aload_n 0, 5, [], none), (5, .getfield 269, 8, [12, 44, 0, 715, 0], none), (8, .iload_n 1, 9, [], none), (9, .iastore, 10, [20], none), (10, .aload_n 0, 11, [], none), (11, .getfield 110, 14, [12, 46, 2, 637, 0], none), (14, .aload_n 0, 15, [], none), (15, .getfield 269, 18, [12, 44, 0, 715, 0], none), (18, .iload_n 2, 19, [], none), (19, .iastore, 20, [20], none), (20, .aload_n 0, 21, [], none), (21, .dup, 22, [], none), (22, .getfield 269, 25, [12, 44, 0, 715, 0], none), (25, .iconst 1, 26, [], none), (26, .iadd, 27, [], none), (27, .putfield 269, 30, [12, 44, 0, 715, 0, 0], none), (30, .return_, 31, [], none)] (0, .aload_n 0, 1, [], none) (by decide +kernel) _ _ _).trans rfl
theorem E_X12_comesOut (d : Nat) (M : zM) (l0 : Nat) (l1 : Int32) : evM zcod (d + 1) 187 [.ref l0, .int l1] M = evk zcod none d zc_X12_comesOut 0 [(0, .ref l0), (1, .int l1)] [] M := evM_eq zcod d 187 _ M (Nat.le_of_ble_eq_true rfl)
set_option maxRecDepth 20000 in
set_option maxHeartbeats 4000000 in
theorem B_X12_comesOut_0 (d : Nat) (S : mS) (I : mI) (L : mJ) (l0 : Nat) (l1 : Int32) :
  evk zcod none d zc_X12_comesOut 0 [(0, .ref l0), (1, .int l1)] [] (S, I, L) =
  if kK S l0 = 12 then
 (if (I l0 48) ≤ (nI 0) then
 evk zcod none d zc_X12_comesOut 91 [] [] (S, I, L)
 else
 if kK S l0 = 12 then
 (if kK S l0 = 12 then
 (if kK S (kR S l0 47) = 20 ∧ zin ((I l0 48) - (nI 1)) (kN S (kR S l0 47)) then
 (if (I (kR S l0 47) (zix ((I l0 48) - (nI 1)))) = (nI 6) then
 evk zcod none d zc_X12_comesOut 41 [] [] (S, I, L)
 else
 if l1 = (nI 0) then
 evk zcod none d zc_X12_comesOut 42 [(0, .ref l0), (1, .int l1), (2, .int (I (kR S l0 47) (zix ((I l0 48) - (nI 1)))))] [] (S, I, L)
 else
 if (I (kR S l0 47) (zix ((I l0 48) - (nI 1)))) = (nI 8) then
 evk zcod none d zc_X12_comesOut 41 [] [] (S, I, L)
 else
 if ¬ (I (kR S l0 47) (zix ((I l0 48) - (nI 1)))) = (nI 9) then
 evk zcod none d zc_X12_comesOut 42 [(0, .ref l0), (1, .int l1), (2, .int (I (kR S l0 47) (zix ((I l0 48) - (nI 1)))))] [] (S, I, L)
 else
 evk zcod none d zc_X12_comesOut 41 [] [] (S, I, L)) else none) else none) else none) else none :=
  (blk_ok zcod none d zc_X12_comesOut [(1, .getfield 323, 4, [12, 48, 0, 760, 0], none), (4, .ifCond .le 87, 7, [91], none), (7, .aload_n 0, 8, [], none), (8, .getfield 113, 11, [12, 47, 2, 638, 0], none), (11, .aload_n 0, 12, [], none), (12, .getfield 323, 15, [12, 48, 0, 760, 0], none), (15, .iconst 1, 16, [], none), (16, .isub, 17, [], none), (17, .iaload, 18, [20], none), (18, .istore_n 2, 19, [], none), (19, .iload_n 2, 20, [], none), (20, .bipush 6, 22, [], none), (22, .if_icmp .eq 19, 25, [41], none), (25, .iload_n 1, 26, [], none), (26, .ifCond .eq 16, 29, [42], none), (29, .iload_n 2, 30, [], none), (30, .bipush 8, 32, [], none), (32, .if_icmp .eq 9, 35, [41], none), (35, .iload_n 2, 36, [], none), (36, .bipush 9, 38, [], none), (38, .if_icmp .ne 4, 41, [42], none)] (0, .aload_n 0, 1, [], some [0, 1]) (by decide +kernel) _ _ _).trans rfl
set_option maxRecDepth 20000 in
set_option maxHeartbeats 4000000 in
theorem B_X12_comesOut_41 (d : Nat) (S : mS) (I : mI) (L : mJ)  :
  evk zcod none d zc_X12_comesOut 41 [] [] (S, I, L) =
  some (none, (S, I, L)) :=
  (blk_ok zcod none d zc_X12_comesOut [] (41, .return_, 42, [], some []) (by decide +kernel) _ _ _).trans rfl
set_option maxRecDepth 20000 in
set_option maxHeartbeats 4000000 in
theorem B_X12_comesOut_42 (d : Nat) (S : mS) (I : mI) (L : mJ) (l0 : Nat) (l1 : Int32) (l2 : Int32) :
  evk zcod none d zc_X12_comesOut 42 [(0, .ref l0), (1, .int l1), (2, .int l2)] [] (S, I, L) =
  if kK S l0 = 12 then
 (if kK S l0 = 12 then
 (if ¬ l2 = (nI 8) then
 evk zcod none d zc_X12_comesOut 63 [(0, .ref l0), (1, .int l1), (2, .int l2)] [.ref l0] (S, (uI I l0 48 ((I l0 48) - (nI 1))), L)
 else
 evk zcod none d zc_X12_comesOut 84 [(0, .ref l0), (1, .int l1)] [.int (nI 2), .ref l0] (S, (uI I l0 48 ((I l0 48) - (nI 1))), L)) else none) else none :=
  (blk_ok zcod none d zc_X12_comesOut [(43, .dup, 44, [], none), (44, .getfield 323, 47, [12, 48, 0, 760, 0], none), (47, .iconst 1, 48, [], none), (48, .isub, 49, [], none), (49, .putfield 323, 52, [12, 48, 0, 760, 0, 0], none), (52, .aload_n 0, 53, [], none), (53, .iload_n 2, 54, [], none), (54, .bipush 8, 56, [], none), (56, .if_icmp .ne 7, 59, [63], none), (59, .iconst 2, 60, [], none), (60, .goto 24, 63, [84], none)] (42, .aload_n 0, 43, [], some [0, 1, 2]) (by decide +kernel) _ _ _).trans rfl
set_option maxRecDepth 20000 in
set_option maxHeartbeats 4000000 in
theorem B_X12_comesOut_63 (d : Nat) (S : mS) (I : mI) (L : mJ) (l0 : Nat) (l1 : Int32) (l2 : Int32) (s0 : Nat) :
  evk zcod none d zc_X12_comesOut 63 [(0, .ref l0), (1, .int l1), (2, .int l2)] [.ref s0] (S, I, L) =
  if ¬ l2 = (nI 9) then
 evk zcod none d zc_X12_comesOut 73 [(0, .ref l0), (1, .int l1), (2, .int l2)] [.ref s0] (S, I, L)
 else
 evk zcod none d zc_X12_comesOut 84 [(0, .ref l0), (1, .int l1)] [.int (nI 3), .ref s0] (S, I, L) :=
  (blk_ok zcod none d zc_X12_comesOut [(64, .bipush 9, 66, [], none), (66, .if_icmp .ne 7, 69, [73], none), (69, .iconst 3, 70, [], none), (70, .goto 14, 73, [84], none)] (63, .iload_n 2, 64, [], some [0, 1, 2]) (by decide +kernel) _ _ _).trans rfl
set_option maxRecDepth 20000 in
set_option maxHeartbeats 4000000 in
theorem B_X12_comesOut_73 (d : Nat) (S : mS) (I : mI) (L : mJ) (l0 : Nat) (l1 : Int32) (l2 : Int32) (s0 : Nat) :
  evk zcod none d zc_X12_comesOut 73 [(0, .ref l0), (1, .int l1), (2, .int l2)] [.ref s0] (S, I, L) =
  if ¬ l2 = (nI 10) then
 evk zcod none d zc_X12_comesOut 83 [(0, .ref l0), (1, .int l1)] [.ref s0] (S, I, L)
 else
 evk zcod none d zc_X12_comesOut 84 [(0, .ref l0), (1, .int l1)] [.int (nI 4), .ref s0] (S, I, L) :=
  (blk_ok zcod none d zc_X12_comesOut [(74, .bipush 10, 76, [], none), (76, .if_icmp .ne 7, 79, [83], none), (79, .iconst 4, 80, [], none), (80, .goto 4, 83, [84], none)] (73, .iload_n 2, 74, [], some [0, 1, 2]) (by decide +kernel) _ _ _).trans rfl
set_option maxRecDepth 20000 in
set_option maxHeartbeats 4000000 in
theorem B_X12_comesOut_83 (d : Nat) (S : mS) (I : mI) (L : mJ) (l0 : Nat) (l1 : Int32) (s0 : Nat) :
  evk zcod none d zc_X12_comesOut 83 [(0, .ref l0), (1, .int l1)] [.ref s0] (S, I, L) =
  evk zcod none d zc_X12_comesOut 84 [(0, .ref l0), (1, .int l1)] [.int (nI 5), .ref s0] (S, I, L) :=
  (blk_ok zcod none d zc_X12_comesOut [] (83, .iconst 5, 84, [], some [0, 1]) (by decide +kernel) _ _ _).trans rfl
set_option maxRecDepth 20000 in
set_option maxHeartbeats 4000000 in
theorem B_X12_comesOut_84 (d : Nat) (S : mS) (I : mI) (L : mJ) (l0 : Nat) (l1 : Int32) (s0 : Nat) (s1 : Int32) :
  evk zcod none d zc_X12_comesOut 84 [(0, .ref l0), (1, .int l1)] [.int s1, .ref s0] (S, I, L) =
  if kK S s0 = 12 then
 (bV (evM zcod d 186 [.ref s0, .int s1, .int (nI 0)] (S, I, L)) fun M1 =>
 if M1.1.1 = S.1 then
 (evk zcod none d zc_X12_comesOut 0 [(0, .ref l0), (1, .int l1)] [] M1) else none) else none :=
  (blk_ok zcod none d zc_X12_comesOut [(85, .invokevirtual 326, 88, [186, 2, 0, 12, 761, 762, 763, 662], none), (88, .goto (-88), 91, [0], none)] (84, .iconst 0, 85, [], some [0, 1]) (by decide +kernel) _ _ _).trans rfl
set_option maxRecDepth 20000 in
set_option maxHeartbeats 4000000 in
theorem B_X12_comesOut_91 (d : Nat) (S : mS) (I : mI) (L : mJ)  :
  evk zcod none d zc_X12_comesOut 91 [] [] (S, I, L) =
  some (none, (S, I, L)) :=
  (blk_ok zcod none d zc_X12_comesOut [] (91, .return_, 92, [], some []) (by decide +kernel) _ _ _).trans rfl
theorem E_X12_expression (d : Nat) (M : zM) (l0 : Nat) : evM zcod (d + 1) 188 [.ref l0] M = evk zcod none d zc_X12_expression 0 [(0, .ref l0)] [] M := evM_eq zcod d 188 _ M (Nat.le_of_ble_eq_true rfl)
set_option maxRecDepth 20000 in
set_option maxHeartbeats 4000000 in
theorem B_X12_expression_0 (d : Nat) (S : mS) (I : mI) (L : mJ) (l0 : Nat) :
  evk zcod none d zc_X12_expression 0 [(0, .ref l0)] [] (S, I, L) =
  if kK S l0 = 12 then
 (if kK S l0 = 12 then
 (evk zcod none d zc_X12_expression 12 [(0, .ref l0), (1, .int ((uI I l0 48 (nI 0)) l0 12)), (2, .int (nI 1))] [] (S, (uI I l0 48 (nI 0)), L)) else none) else none :=
  (blk_ok zcod none d zc_X12_expression [(1, .iconst 0, 2, [], none), (2, .putfield 323, 5, [12, 48, 0, 760, 0, 0], none), (5, .aload_n 0, 6, [], none), (6, .getfield 254, 9, [12, 12, 0, 710, 0], none), (9, .istore_n 1, 10, [], none), (10, .iconst 1, 11, [], none), (11, .istore_n 2, 12, [], none)] (0, .aload_n 0, 1, [], none) (by decide +kernel) _ _ _).trans rfl
set_option maxRecDepth 20000 in
set_option maxHeartbeats 4000000 in
theorem B_X12_expression_12 (d : Nat) (S : mS) (I : mI) (L : mJ) (l0 : Nat) (l1 : Int32) (l2 : Int32) :
  evk zcod none d zc_X12_expression 12 [(0, .ref l0), (1, .int l1), (2, .int l2)] [] (S, I, L) =
  if l2 = (nI 0) then
 evk zcod none d zc_X12_expression 272 [] [] (S, I, L)
 else
 if kK S l0 = 12 then
 (if ¬ (I l0 13) = (nI 0) then
 evk zcod none d zc_X12_expression 272 [] [] (S, I, L)
 else
 evk zcod none d zc_X12_expression 23 [(0, .ref l0), (1, .int l1)] [] (S, I, L)) else none :=
  (blk_ok zcod none d zc_X12_expression [(13, .ifCond .eq 259, 16, [272], none), (16, .aload_n 0, 17, [], none), (17, .getfield 227, 20, [12, 13, 0, 693, 0], none), (20, .ifCond .ne 252, 23, [272], none)] (12, .iload_n 2, 13, [], some [0, 1, 2]) (by decide +kernel) _ _ _).trans rfl
set_option maxRecDepth 20000 in
set_option maxHeartbeats 4000000 in
theorem B_X12_expression_23 (d : Nat) (S : mS) (I : mI) (L : mJ) (l0 : Nat) (l1 : Int32) :
  evk zcod none d zc_X12_expression 23 [(0, .ref l0), (1, .int l1)] [] (S, I, L) =
  if kK S l0 = 12 then
 (bI (evM zcod d 167 [.ref l0, .int (nI 6)] (S, I, L)) fun x1 M1 =>
 if M1.1.1 = S.1 then
 (if x1 = (nI 0) then
 evk zcod none d zc_X12_expression 84 [(0, .ref l0), (1, .int l1)] [] M1
 else
 if kK M1.1 l0 = 12 then
 (if ¬ (M1.2.1 l0 12) = (nI 6) then
 evk zcod none d zc_X12_expression 46 [(0, .ref l0), (1, .int l1)] [] M1
 else
 if kK M1.1 l0 = 12 then
 (bV (evM zcod d 168 [.ref l0, .int (nI 2)] M1) fun M2 =>
 if M2.1.1 = M1.1.1 then
 (evk zcod none d zc_X12_expression 46 [(0, .ref l0), (1, .int l1)] [] M2) else none) else none) else none) else none) else none :=
  (blk_ok zcod none d zc_X12_expression [(24, .bipush 6, 26, [], none), (26, .invokevirtual 245, 29, [167, 1, 1, 12, 701, 702, 703, 662], none), (29, .ifCond .eq 55, 32, [84], none), (32, .aload_n 0, 33, [], none), (33, .getfield 254, 36, [12, 12, 0, 710, 0], none), (36, .bipush 6, 38, [], none), (38, .if_icmp .ne 8, 41, [46], none), (41, .aload_n 0, 42, [], none), (42, .iconst 2, 43, [], none), (43, .invokevirtual 242, 46, [168, 1, 0, 12, 698, 699, 700, 662], none)] (23, .aload_n 0, 24, [], some [0, 1]) (by decide +kernel) _ _ _).trans rfl
set_option maxRecDepth 20000 in
set_option maxHeartbeats 4000000 in
theorem B_X12_expression_46 (d : Nat) (S : mS) (I : mI) (L : mJ) (l0 : Nat) (l1 : Int32) :
  evk zcod none d zc_X12_expression 46 [(0, .ref l0), (1, .int l1)] [] (S, I, L) =
  if kK S l0 = 12 then
 (if kK S l0 = 12 then
 (if kK S l0 = 12 then
 (bV (evM zcod d 170 [.ref l0] (S, (uI I l0 12 ((I l0 12) + (nI 1))), L)) fun M1 =>
 if M1.1.1 = S.1 then
 (if kK M1.1 l0 = 12 then
 (if kK M1.1 l0 = 12 then
 (if kK M1.1 (kR M1.1 l0 47) = 20 ∧ zin (M1.2.1 l0 48) (kN M1.1 (kR M1.1 l0 47)) then
 (if kK M1.1 l0 = 12 then
 (if kK M1.1 l0 = 12 then
 (evk zcod none d zc_X12_expression 81 [(0, .ref l0), (1, .int l1)] [] (M1.1, (uI (uI M1.2.1 (kR M1.1 l0 47) (zix (M1.2.1 l0 48)) (nI 6)) l0 48 (((uI M1.2.1 (kR M1.1 l0 47) (zix (M1.2.1 l0 48)) (nI 6)) l0 48) + (nI 1))), M1.2.2)) else none) else none) else none) else none) else none) else none) else none) else none) else none :=
  (blk_ok zcod none d zc_X12_expression [(47, .dup, 48, [], none), (48, .getfield 254, 51, [12, 12, 0, 710, 0], none), (51, .iconst 1, 52, [], none), (52, .iadd, 53, [], none), (53, .putfield 254, 56, [12, 12, 0, 710, 0, 0], none), (56, .aload_n 0, 57, [], none), (57, .invokevirtual 248, 60, [170, 0, 0, 12, 704, 705, 706, 662], none), (60, .aload_n 0, 61, [], none), (61, .getfield 113, 64, [12, 47, 2, 638, 0], none), (64, .aload_n 0, 65, [], none), (65, .getfield 323, 68, [12, 48, 0, 760, 0], none), (68, .bipush 6, 70, [], none), (70, .iastore, 71, [20], none), (71, .aload_n 0, 72, [], none), (72, .dup, 73, [], none), (73, .getfield 323, 76, [12, 48, 0, 760, 0], none), (76, .iconst 1, 77, [], none), (77, .iadd, 78, [], none), (78, .putfield 323, 81, [12, 48, 0, 760, 0, 0], none)] (46, .aload_n 0, 47, [], some [0, 1]) (by decide +kernel) _ _ _).trans rfl
set_option maxRecDepth 20000 in
set_option maxHeartbeats 4000000 in
theorem B_X12_expression_81 (d : Nat) (S : mS) (I : mI) (L : mJ) (l0 : Nat) (l1 : Int32) :
  evk zcod none d zc_X12_expression 81 [(0, .ref l0), (1, .int l1)] [] (S, I, L) =
  evk zcod none d zc_X12_expression 23 [(0, .ref l0), (1, .int l1)] [] (S, I, L) :=
  (blk_ok zcod none d zc_X12_expression [] (81, .goto (-58), 84, [23], some [0, 1]) (by decide +kernel) _ _ _).trans rfl
set_option maxRecDepth 20000 in
set_option maxHeartbeats 4000000 in
theorem B_X12_expression_84 (d : Nat) (S : mS) (I : mI) (L : mJ) (l0 : Nat) (l1 : Int32) :
  evk zcod none d zc_X12_expression 84 [(0, .ref l0), (1, .int l1)] [] (S, I, L) =
  if kK S l0 = 12 then
 (bV (evM zcod d 189 [.ref l0] (S, I, L)) fun M1 =>
 if M1.1.1 = S.1 then
 (if kK M1.1 l0 = 12 then
 (if (M1.2.1 l0 13) ≤ (nI 0) then
 evk zcod none d zc_X12_expression 96 [(0, .ref l0), (1, .int l1)] [] M1
 else
 some (none, M1)) else none) else none) else none :=
  (blk_ok zcod none d zc_X12_expression [(85, .invokevirtual 329, 88, [189, 0, 0, 12, 764, 765, 766, 662], none), (88, .aload_n 0, 89, [], none), (89, .getfield 227, 92, [12, 13, 0, 693, 0], none), (92, .ifCond .le 4, 95, [96], none), (95, .return_, 96, [], none)] (84, .aload_n 0, 85, [], some [0, 1]) (by decide +kernel) _ _ _).trans rfl
set_option maxRecDepth 20000 in
set_option maxHeartbeats 4000000 in
theorem B_X12_expression_96 (d : Nat) (S : mS) (I : mI) (L : mJ) (l0 : Nat) (l1 : Int32) :
  evk zcod none d zc_X12_expression 96 [(0, .ref l0), (1, .int l1)] [] (S, I, L) =
  if kK S l0 = 12 then
 (bI (evM zcod d 167 [.ref l0, .int (nI 7)] (S, I, L)) fun x1 M1 =>
 if M1.1.1 = S.1 then
 (if x1 = (nI 0) then
 evk zcod none d zc_X12_expression 145 [(0, .ref l0), (1, .int l1)] [] M1
 else
 if kK M1.1 l0 = 12 then
 (if (M1.2.1 l0 12) ≤ l1 then
 evk zcod none d zc_X12_expression 145 [(0, .ref l0), (1, .int l1)] [] M1
 else
 if kK M1.1 l0 = 12 then
 (bV (evM zcod d 187 [.ref l0, .int (nI 0)] M1) fun M2 =>
 if M2.1.1 = M1.1.1 then
 (if kK M2.1 l0 = 12 then
 (if kK M2.1 l0 = 12 then
 (if kK M2.1 l0 = 12 then
 (if kK M2.1 l0 = 12 then
 (evk zcod none d zc_X12_expression 138 [(0, .ref l0), (1, .int l1)] [] (M2.1, (uI (uI M2.2.1 l0 48 ((M2.2.1 l0 48) - (nI 1))) l0 12 (((uI M2.2.1 l0 48 ((M2.2.1 l0 48) - (nI 1))) l0 12) - (nI 1))), M2.2.2)) else none) else none) else none) else none) else none) else none) else none) else none) else none :=
  (blk_ok zcod none d zc_X12_expression [(97, .bipush 7, 99, [], none), (99, .invokevirtual 245, 102, [167, 1, 1, 12, 701, 702, 703, 662], none), (102, .ifCond .eq 43, 105, [145], none), (105, .aload_n 0, 106, [], none), (106, .getfield 254, 109, [12, 12, 0, 710, 0], none), (109, .iload_n 1, 110, [], none), (110, .if_icmp .le 35, 113, [145], none), (113, .aload_n 0, 114, [], none), (114, .iconst 0, 115, [], none), (115, .invokevirtual 332, 118, [187, 1, 0, 12, 767, 768, 769, 662], none), (118, .aload_n 0, 119, [], none), (119, .dup, 120, [], none), (120, .getfield 323, 123, [12, 48, 0, 760, 0], none), (123, .iconst 1, 124, [], none), (124, .isub, 125, [], none), (125, .putfield 323, 128, [12, 48, 0, 760, 0, 0], none), (128, .aload_n 0, 129, [], none), (129, .dup, 130, [], none), (130, .getfield 254, 133, [12, 12, 0, 710, 0], none), (133, .iconst 1, 134, [], none), (134, .isub, 135, [], none), (135, .putfield 254, 138, [12, 12, 0, 710, 0, 0], none)] (96, .aload_n 0, 97, [], some [0, 1]) (by decide +kernel) _ _ _).trans rfl
set_option maxRecDepth 20000 in
set_option maxHeartbeats 4000000 in
theorem B_X12_expression_138 (d : Nat) (S : mS) (I : mI) (L : mJ) (l0 : Nat) (l1 : Int32) :
  evk zcod none d zc_X12_expression 138 [(0, .ref l0), (1, .int l1)] [] (S, I, L) =
  if kK S l0 = 12 then
 (bV (evM zcod d 170 [.ref l0] (S, I, L)) fun M1 =>
 if M1.1.1 = S.1 then
 (evk zcod none d zc_X12_expression 96 [(0, .ref l0), (1, .int l1)] [] M1) else none) else none :=
  (blk_ok zcod none d zc_X12_expression [(139, .invokevirtual 248, 142, [170, 0, 0, 12, 704, 705, 706, 662], none), (142, .goto (-46), 145, [96], none)] (138, .aload_n 0, 139, [], some [0, 1]) (by decide +kernel) _ _ _).trans rfl
set_option maxRecDepth 20000 in
set_option maxHeartbeats 4000000 in
theorem B_X12_expression_145 (d : Nat) (S : mS) (I : mI) (L : mJ) (l0 : Nat) (l1 : Int32) :
  evk zcod none d zc_X12_expression 145 [(0, .ref l0), (1, .int l1)] [] (S, I, L) =
  if kK S l0 = 12 then
 (bI (evM zcod d 167 [.ref l0, .int (nI 8)] (S, I, L)) fun x1 M1 =>
 if M1.1.1 = S.1 then
 (if ¬ x1 = (nI 0) then
 evk zcod none d zc_X12_expression 181 [(0, .ref l0), (1, .int l1)] [] M1
 else
 if kK M1.1 l0 = 12 then
 (bI (evM zcod d 167 [.ref l0, .int (nI 9)] M1) fun x2 M2 =>
 if M2.1.1 = M1.1.1 then
 (if ¬ x2 = (nI 0) then
 evk zcod none d zc_X12_expression 181 [(0, .ref l0), (1, .int l1)] [] M2
 else
 if kK M2.1 l0 = 12 then
 (bI (evM zcod d 167 [.ref l0, .int (nI 10)] M2) fun x3 M3 =>
 if M3.1.1 = M2.1.1 then
 (if ¬ x3 = (nI 0) then
 evk zcod none d zc_X12_expression 181 [(0, .ref l0), (1, .int l1)] [] M3
 else
 if kK M3.1 l0 = 12 then
 (bI (evM zcod d 167 [.ref l0, .int (nI 15)] M3) fun x4 M4 =>
 if M4.1.1 = M3.1.1 then
 (if x4 = (nI 0) then
 evk zcod none d zc_X12_expression 185 [(0, .ref l0), (1, .int l1)] [] M4
 else
 evk zcod none d zc_X12_expression 181 [(0, .ref l0), (1, .int l1)] [] M4) else none) else none) else none) else none) else none) else none) else none) else none :=
  (blk_ok zcod none d zc_X12_expression [(146, .bipush 8, 148, [], none), (148, .invokevirtual 245, 151, [167, 1, 1, 12, 701, 702, 703, 662], none), (151, .ifCond .ne 30, 154, [181], none), (154, .aload_n 0, 155, [], none), (155, .bipush 9, 157, [], none), (157, .invokevirtual 245, 160, [167, 1, 1, 12, 701, 702, 703, 662], none), (160, .ifCond .ne 21, 163, [181], none), (163, .aload_n 0, 164, [], none), (164, .bipush 10, 166, [], none), (166, .invokevirtual 245, 169, [167, 1, 1, 12, 701, 702, 703, 662], none), (169, .ifCond .ne 12, 172, [181], none), (172, .aload_n 0, 173, [], none), (173, .bipush 15, 175, [], none), (175, .invokevirtual 245, 178, [167, 1, 1, 12, 701, 702, 703, 662], none), (178, .ifCond .eq 7, 181, [185], none)] (145, .aload_n 0, 146, [], some [0, 1]) (by decide +kernel) _ _ _).trans rfl
set_option maxRecDepth 20000 in
set_option maxHeartbeats 4000000 in
theorem B_X12_expression_181 (d : Nat) (S : mS) (I : mI) (L : mJ) (l0 : Nat) (l1 : Int32) :
  evk zcod none d zc_X12_expression 181 [(0, .ref l0), (1, .int l1)] [] (S, I, L) =
  evk zcod none d zc_X12_expression 186 [(0, .ref l0), (1, .int l1)] [.int (nI 1)] (S, I, L) :=
  (blk_ok zcod none d zc_X12_expression [(182, .goto 4, 185, [186], none)] (181, .iconst 1, 182, [], some [0, 1]) (by decide +kernel) _ _ _).trans rfl
set_option maxRecDepth 20000 in
set_option maxHeartbeats 4000000 in
theorem B_X12_expression_185 (d : Nat) (S : mS) (I : mI) (L : mJ) (l0 : Nat) (l1 : Int32) :
  evk zcod none d zc_X12_expression 185 [(0, .ref l0), (1, .int l1)] [] (S, I, L) =
  evk zcod none d zc_X12_expression 186 [(0, .ref l0), (1, .int l1)] [.int (nI 0)] (S, I, L) :=
  (blk_ok zcod none d zc_X12_expression [] (185, .iconst 0, 186, [], some [0, 1]) (by decide +kernel) _ _ _).trans rfl
set_option maxRecDepth 20000 in
set_option maxHeartbeats 4000000 in
theorem B_X12_expression_186 (d : Nat) (S : mS) (I : mI) (L : mJ) (l0 : Nat) (l1 : Int32) (s0 : Int32) :
  evk zcod none d zc_X12_expression 186 [(0, .ref l0), (1, .int l1)] [.int s0] (S, I, L) =
  if ¬ s0 = (nI 0) then
 evk zcod none d zc_X12_expression 210 [(0, .ref l0), (1, .int l1), (2, .int s0)] [] (S, I, L)
 else
 if kK S l0 = 12 then
 (if (I l0 12) ≤ l1 then
 evk zcod none d zc_X12_expression 204 [(0, .ref l0)] [] (S, I, L)
 else
 if kK S l0 = 12 then
 (bV (evM zcod d 168 [.ref l0, .int (nI 1)] (S, I, L)) fun M1 =>
 if M1.1.1 = S.1 then
 (evk zcod none d zc_X12_expression 204 [(0, .ref l0)] [] M1) else none) else none) else none :=
  (blk_ok zcod none d zc_X12_expression [(187, .iload_n 2, 188, [], none), (188, .ifCond .ne 22, 191, [210], none), (191, .aload_n 0, 192, [], none), (192, .getfield 254, 195, [12, 12, 0, 710, 0], none), (195, .iload_n 1, 196, [], none), (196, .if_icmp .le 8, 199, [204], none), (199, .aload_n 0, 200, [], none), (200, .iconst 1, 201, [], none), (201, .invokevirtual 242, 204, [168, 1, 0, 12, 698, 699, 700, 662], none)] (186, .istore_n 2, 187, [], some [0, 1]) (by decide +kernel) _ _ _).trans rfl
set_option maxRecDepth 20000 in
set_option maxHeartbeats 4000000 in
theorem B_X12_expression_204 (d : Nat) (S : mS) (I : mI) (L : mJ) (l0 : Nat) :
  evk zcod none d zc_X12_expression 204 [(0, .ref l0)] [] (S, I, L) =
  if kK S l0 = 12 then
 (bV (evM zcod d 187 [.ref l0, .int (nI 0)] (S, I, L)) fun M1 =>
 if M1.1.1 = S.1 then
 (some (none, M1)) else none) else none :=
  (blk_ok zcod none d zc_X12_expression [(205, .iconst 0, 206, [], none), (206, .invokevirtual 332, 209, [187, 1, 0, 12, 767, 768, 769, 662], none), (209, .return_, 210, [], none)] (204, .aload_n 0, 205, [], some [0]) (by decide +kernel) _ _ _).trans rfl
set_option maxRecDepth 20000 in
set_option maxHeartbeats 4000000 in
theorem B_X12_expression_210 (d : Nat) (S : mS) (I : mI) (L : mJ) (l0 : Nat) (l1 : Int32) (l2 : Int32) :
  evk zcod none d zc_X12_expression 210 [(0, .ref l0), (1, .int l1), (2, .int l2)] [] (S, I, L) =
  if kK S l0 = 12 then
 (bI (evM zcod d 167 [.ref l0, .int (nI 10)] (S, I, L)) fun x1 M1 =>
 if M1.1.1 = S.1 then
 (if ¬ x1 = (nI 0) then
 evk zcod none d zc_X12_expression 229 [(0, .ref l0), (1, .int l1), (2, .int l2)] [.ref l0] M1
 else
 if kK M1.1 l0 = 12 then
 (bI (evM zcod d 167 [.ref l0, .int (nI 15)] M1) fun x2 M2 =>
 if M2.1.1 = M1.1.1 then
 (if x2 = (nI 0) then
 evk zcod none d zc_X12_expression 233 [(0, .ref l0), (1, .int l1), (2, .int l2)] [.ref l0] M2
 else
 evk zcod none d zc_X12_expression 229 [(0, .ref l0), (1, .int l1), (2, .int l2)] [.ref l0] M2) else none) else none) else none) else none :=
  (blk_ok zcod none d zc_X12_expression [(211, .aload_n 0, 212, [], none), (212, .bipush 10, 214, [], none), (214, .invokevirtual 245, 217, [167, 1, 1, 12, 701, 702, 703, 662], none), (217, .ifCond .ne 12, 220, [229], none), (220, .aload_n 0, 221, [], none), (221, .bipush 15, 223, [], none), (223, .invokevirtual 245, 226, [167, 1, 1, 12, 701, 702, 703, 662], none), (226, .ifCond .eq 7, 229, [233], none)] (210, .aload_n 0, 211, [], some [0, 1, 2]) (by decide +kernel) _ _ _).trans rfl
set_option maxRecDepth 20000 in
set_option maxHeartbeats 4000000 in
theorem B_X12_expression_229 (d : Nat) (S : mS) (I : mI) (L : mJ) (l0 : Nat) (l1 : Int32) (l2 : Int32) (s0 : Nat) :
  evk zcod none d zc_X12_expression 229 [(0, .ref l0), (1, .int l1), (2, .int l2)] [.ref s0] (S, I, L) =
  evk zcod none d zc_X12_expression 234 [(0, .ref l0), (1, .int l1), (2, .int l2)] [.int (nI 1), .ref s0] (S, I, L) :=
  (blk_ok zcod none d zc_X12_expression [(230, .goto 4, 233, [234], none)] (229, .iconst 1, 230, [], some [0, 1, 2]) (by decide +kernel) _ _ _).trans rfl
set_option maxRecDepth 20000 in
set_option maxHeartbeats 4000000 in
theorem B_X12_expression_233 (d : Nat) (S : mS) (I : mI) (L : mJ) (l0 : Nat) (l1 : Int32) (l2 : Int32) (s0 : Nat) :
  evk zcod none d zc_X12_expression 233 [(0, .ref l0), (1, .int l1), (2, .int l2)] [.ref s0] (S, I, L) =
  evk zcod none d zc_X12_expression 234 [(0, .ref l0), (1, .int l1), (2, .int l2)] [.int (nI 0), .ref s0] (S, I, L) :=
  (blk_ok zcod none d zc_X12_expression [] (233, .iconst 0, 234, [], some [0, 1, 2]) (by decide +kernel) _ _ _).trans rfl
set_option maxRecDepth 20000 in
set_option maxHeartbeats 4000000 in
theorem B_X12_expression_234 (d : Nat) (S : mS) (I : mI) (L : mJ) (l0 : Nat) (l1 : Int32) (l2 : Int32) (s0 : Nat) (s1 : Int32) :
  evk zcod none d zc_X12_expression 234 [(0, .ref l0), (1, .int l1), (2, .int l2)] [.int s1, .ref s0] (S, I, L) =
  if kK S s0 = 12 then
 (bV (evM zcod d 187 [.ref s0, .int s1] (S, I, L)) fun M1 =>
 if M1.1.1 = S.1 then
 (if kK M1.1 l0 = 12 then
 (if kK M1.1 l0 = 12 then
 (if kK M1.1 l0 = 12 then
 (if kK M1.1 l0 = 12 then
 (if kK M1.1 (kR M1.1 l0 5) = 20 ∧ zin (M1.2.1 l0 11) (kN M1.1 (kR M1.1 l0 5)) then
 (if kK M1.1 (kR M1.1 l0 47) = 20 ∧ zin (M1.2.1 l0 48) (kN M1.1 (kR M1.1 l0 47)) then
 (if kK M1.1 l0 = 12 then
 (if kK M1.1 l0 = 12 then
 (if kK M1.1 l0 = 12 then
 (bV (evM zcod d 170 [.ref l0] (M1.1, (uI (uI M1.2.1 (kR M1.1 l0 47) (zix (M1.2.1 l0 48)) (M1.2.1 (kR M1.1 l0 5) (zix (M1.2.1 l0 11)))) l0 48 (((uI M1.2.1 (kR M1.1 l0 47) (zix (M1.2.1 l0 48)) (M1.2.1 (kR M1.1 l0 5) (zix (M1.2.1 l0 11)))) l0 48) + (nI 1))), M1.2.2)) fun M2 =>
 if M2.1.1 = M1.1.1 then
 (evk zcod none d zc_X12_expression 269 [(0, .ref l0), (1, .int l1), (2, .int l2)] [] M2) else none) else none) else none) else none) else none) else none) else none) else none) else none) else none) else none) else none :=
  (blk_ok zcod none d zc_X12_expression [(237, .aload_n 0, 238, [], none), (238, .getfield 113, 241, [12, 47, 2, 638, 0], none), (241, .aload_n 0, 242, [], none), (242, .getfield 323, 245, [12, 48, 0, 760, 0], none), (245, .aload_n 0, 246, [], none), (246, .getfield 20, 249, [12, 5, 2, 607, 0], none), (249, .aload_n 0, 250, [], none), (250, .getfield 230, 253, [12, 11, 0, 694, 0], none), (253, .iaload, 254, [20], none), (254, .iastore, 255, [20], none), (255, .aload_n 0, 256, [], none), (256, .dup, 257, [], none), (257, .getfield 323, 260, [12, 48, 0, 760, 0], none), (260, .iconst 1, 261, [], none), (261, .iadd, 262, [], none), (262, .putfield 323, 265, [12, 48, 0, 760, 0, 0], none), (265, .aload_n 0, 266, [], none), (266, .invokevirtual 248, 269, [170, 0, 0, 12, 704, 705, 706, 662], none)] (234, .invokevirtual 332, 237, [187, 1, 0, 12, 767, 768, 769, 662], some [0, 1, 2]) (by decide +kernel) _ _ _).trans rfl
set_option maxRecDepth 20000 in
set_option maxHeartbeats 4000000 in
theorem B_X12_expression_269 (d : Nat) (S : mS) (I : mI) (L : mJ) (l0 : Nat) (l1 : Int32) (l2 : Int32) :
  evk zcod none d zc_X12_expression 269 [(0, .ref l0), (1, .int l1), (2, .int l2)] [] (S, I, L) =
  evk zcod none d zc_X12_expression 12 [(0, .ref l0), (1, .int l1), (2, .int l2)] [] (S, I, L) :=
  (blk_ok zcod none d zc_X12_expression [] (269, .goto (-257), 272, [12], some [0, 1, 2]) (by decide +kernel) _ _ _).trans rfl
set_option maxRecDepth 20000 in
set_option maxHeartbeats 4000000 in
theorem B_X12_expression_272 (d : Nat) (S : mS) (I : mI) (L : mJ)  :
  evk zcod none d zc_X12_expression 272 [] [] (S, I, L) =
  some (none, (S, I, L)) :=
  (blk_ok zcod none d zc_X12_expression [] (272, .return_, 273, [], some []) (by decide +kernel) _ _ _).trans rfl
theorem E_X12_unit (d : Nat) (M : zM) (l0 : Nat) : evM zcod (d + 1) 189 [.ref l0] M = evk zcod none d zc_X12_unit 0 [(0, .ref l0)] [] M := evM_eq zcod d 189 _ M (Nat.le_of_ble_eq_true rfl)
set_option maxRecDepth 20000 in
set_option maxHeartbeats 4000000 in
theorem B_X12_unit_0 (d : Nat) (S : mS) (I : mI) (L : mJ) (l0 : Nat) :
  evk zcod none d zc_X12_unit 0 [(0, .ref l0)] [] (S, I, L) =
  if kK S l0 = 12 then
 (bI (evM zcod d 167 [.ref l0, .int (nI 2)] (S, I, L)) fun x1 M1 =>
 if M1.1.1 = S.1 then
 (if x1 = (nI 0) then
 evk zcod none d zc_X12_unit 29 [(0, .ref l0)] [] M1
 else
 if kK M1.1 l0 = 12 then
 (if kK M1.1 l0 = 12 then
 (if kK M1.1 (kR M1.1 l0 7) = 20 ∧ zin (M1.2.1 l0 11) (kN M1.1 (kR M1.1 l0 7)) then
 (if kK M1.1 l0 = 12 then
 (bV (evM zcod d 186 [.ref l0, .int (nI 0), .int (M1.2.1 (kR M1.1 l0 7) (zix (M1.2.1 l0 11)))] M1) fun M2 =>
 if M2.1.1 = M1.1.1 then
 (if kK M2.1 l0 = 12 then
 (bV (evM zcod d 170 [.ref l0] M2) fun M3 =>
 if M3.1.1 = M2.1.1 then
 (evk zcod none d zc_X12_unit 93 [] [] M3) else none) else none) else none) else none) else none) else none) else none) else none) else none :=
  (blk_ok zcod none d zc_X12_unit [(1, .iconst 2, 2, [], none), (2, .invokevirtual 245, 5, [167, 1, 1, 12, 701, 702, 703, 662], none), (5, .ifCond .eq 24, 8, [29], none), (8, .aload_n 0, 9, [], none), (9, .iconst 0, 10, [], none), (10, .aload_n 0, 11, [], none), (11, .getfield 27, 14, [12, 7, 2, 609, 0], none), (14, .aload_n 0, 15, [], none), (15, .getfield 230, 18, [12, 11, 0, 694, 0], none), (18, .iaload, 19, [20], none), (19, .invokevirtual 326, 22, [186, 2, 0, 12, 761, 762, 763, 662], none), (22, .aload_n 0, 23, [], none), (23, .invokevirtual 248, 26, [170, 0, 0, 12, 704, 705, 706, 662], none), (26, .goto 67, 29, [93], none)] (0, .aload_n 0, 1, [], none) (by decide +kernel) _ _ _).trans rfl
set_option maxRecDepth 20000 in
set_option maxHeartbeats 4000000 in
theorem B_X12_unit_29 (d : Nat) (S : mS) (I : mI) (L : mJ) (l0 : Nat) :
  evk zcod none d zc_X12_unit 29 [(0, .ref l0)] [] (S, I, L) =
  if kK S l0 = 12 then
 (if ¬ (I l0 13) = (nI 0) then
 evk zcod none d zc_X12_unit 88 [(0, .ref l0)] [] (S, I, L)
 else
 if kK S l0 = 12 then
 (if kK S l0 = 12 then
 (if kK S (kR S l0 5) = 20 ∧ zin (I l0 11) (kN S (kR S l0 5)) then
 (if (I (kR S l0 5) (zix (I l0 11))) < (nI 33) then
 evk zcod none d zc_X12_unit 88 [(0, .ref l0)] [] (S, I, L)
 else
 if kK S l0 = 12 then
 (if kK S l0 = 12 then
 (if kK S (kR S l0 5) = 20 ∧ zin (I l0 11) (kN S (kR S l0 5)) then
 (if (nI 41) < (I (kR S l0 5) (zix (I l0 11))) then
 evk zcod none d zc_X12_unit 88 [(0, .ref l0)] [] (S, I, L)
 else
 if kK S l0 = 12 then
 (if kK S l0 = 12 then
 (if kK S (kR S l0 5) = 20 ∧ zin (I l0 11) (kN S (kR S l0 5)) then
 (if kK S l0 = 12 then
 (bV (evM zcod d 186 [.ref l0, .int (nI 1), .int ((I (kR S l0 5) (zix (I l0 11))) - (nI 33))] (S, I, L)) fun M1 =>
 if M1.1.1 = S.1 then
 (if kK M1.1 l0 = 12 then
 (bV (evM zcod d 170 [.ref l0] M1) fun M2 =>
 if M2.1.1 = M1.1.1 then
 (evk zcod none d zc_X12_unit 93 [] [] M2) else none) else none) else none) else none) else none) else none) else none) else none) else none) else none) else none) else none) else none) else none :=
  (blk_ok zcod none d zc_X12_unit [(30, .getfield 227, 33, [12, 13, 0, 693, 0], none), (33, .ifCond .ne 55, 36, [88], none), (36, .aload_n 0, 37, [], none), (37, .getfield 20, 40, [12, 5, 2, 607, 0], none), (40, .aload_n 0, 41, [], none), (41, .getfield 230, 44, [12, 11, 0, 694, 0], none), (44, .iaload, 45, [20], none), (45, .bipush 33, 47, [], none), (47, .if_icmp .lt 41, 50, [88], none), (50, .aload_n 0, 51, [], none), (51, .getfield 20, 54, [12, 5, 2, 607, 0], none), (54, .aload_n 0, 55, [], none), (55, .getfield 230, 58, [12, 11, 0, 694, 0], none), (58, .iaload, 59, [20], none), (59, .bipush 41, 61, [], none), (61, .if_icmp .gt 27, 64, [88], none), (64, .aload_n 0, 65, [], none), (65, .iconst 1, 66, [], none), (66, .aload_n 0, 67, [], none), (67, .getfield 20, 70, [12, 5, 2, 607, 0], none), (70, .aload_n 0, 71, [], none), (71, .getfield 230, 74, [12, 11, 0, 694, 0], none), (74, .iaload, 75, [20], none), (75, .bipush 33, 77, [], none), (77, .isub, 78, [], none), (78, .invokevirtual 326, 81, [186, 2, 0, 12, 761, 762, 763, 662], none), (81, .aload_n 0, 82, [], none), (82, .invokevirtual 248, 85, [170, 0, 0, 12, 704, 705, 706, 662], none), (85, .goto 8, 88, [93], none)] (29, .aload_n 0, 30, [], some [0]) (by decide +kernel) _ _ _).trans rfl
set_option maxRecDepth 20000 in
set_option maxHeartbeats 4000000 in
theorem B_X12_unit_88 (d : Nat) (S : mS) (I : mI) (L : mJ) (l0 : Nat) :
  evk zcod none d zc_X12_unit 88 [(0, .ref l0)] [] (S, I, L) =
  if kK S l0 = 12 then
 (bV (evM zcod d 168 [.ref l0, .int (nI 1)] (S, I, L)) fun M1 =>
 if M1.1.1 = S.1 then
 (evk zcod none d zc_X12_unit 93 [] [] M1) else none) else none :=
  (blk_ok zcod none d zc_X12_unit [(89, .iconst 1, 90, [], none), (90, .invokevirtual 242, 93, [168, 1, 0, 12, 698, 699, 700, 662], none)] (88, .aload_n 0, 89, [], some [0]) (by decide +kernel) _ _ _).trans rfl
set_option maxRecDepth 20000 in
set_option maxHeartbeats 4000000 in
theorem B_X12_unit_93 (d : Nat) (S : mS) (I : mI) (L : mJ)  :
  evk zcod none d zc_X12_unit 93 [] [] (S, I, L) =
  some (none, (S, I, L)) :=
  (blk_ok zcod none d zc_X12_unit [] (93, .return_, 94, [], some []) (by decide +kernel) _ _ _).trans rfl
theorem E_X12_termOf (d : Nat) (M : zM) (l0 : Nat) (l1 : Int32) (l2 : Int32) : evM zcod (d + 1) 190 [.ref l0, .int l1, .int l2] M = evk zcod none d zc_X12_termOf 0 [(0, .ref l0), (1, .int l1), (2, .int l2)] [] M := evM_eq zcod d 190 _ M (Nat.le_of_ble_eq_true rfl)
set_option maxRecDepth 20000 in
set_option maxHeartbeats 4000000 in
theorem B_X12_termOf_0 (d : Nat) (S : mS) (I : mI) (L : mJ) (l0 : Nat) (l1 : Int32) (l2 : Int32) :
  evk zcod none d zc_X12_termOf 0 [(0, .ref l0), (1, .int l1), (2, .int l2)] [] (S, I, L) =
  evk zcod none d zc_X12_termOf 5 [(0, .ref l0), (2, .int l2), (3, .int (nI 0)), (4, .int l1)] [] (S, I, L) :=
  (blk_ok zcod none d zc_X12_termOf [(1, .istore_n 3, 2, [], none), (2, .iload_n 1, 3, [], none), (3, .istore 4, 5, [], none)] (0, .iconst 0, 1, [], none) (by decide +kernel) _ _ _).trans rfl
set_option maxRecDepth 20000 in
set_option maxHeartbeats 4000000 in
theorem B_X12_termOf_5 (d : Nat) (S : mS) (I : mI) (L : mJ) (l0 : Nat) (l2 : Int32) (l3 : Int32) (l4 : Int32) :
  evk zcod none d zc_X12_termOf 5 [(0, .ref l0), (2, .int l2), (3, .int l3), (4, .int l4)] [] (S, I, L) =
  if l2 ≤ l4 then
 evk zcod none d zc_X12_termOf 165 [(0, .ref l0)] [] (S, I, L)
 else
 if kK S l0 = 12 then
 (if kK S (kR S l0 45) = 20 ∧ zin l4 (kN S (kR S l0 45)) then
 (if (nI 2) ≤ (I (kR S l0 45) (zix l4)) then
 evk zcod none d zc_X12_termOf 65 [(0, .ref l0), (2, .int l2), (3, .int l3), (4, .int l4), (5, .int (I (kR S l0 45) (zix l4)))] [] (S, I, L)
 else
 if kK S l0 = 12 then
 (if ¬ (I (kR S l0 45) (zix l4)) = (nI 0) then
 evk zcod none d zc_X12_termOf 46 [(0, .ref l0), (2, .int l2), (3, .int l3), (4, .int l4)] [.int l3, .ref (kR S l0 50)] (S, I, L)
 else
 if kK S l0 = 12 then
 (if kK S (kR S l0 46) = 20 ∧ zin l4 (kN S (kR S l0 46)) then
 (evk zcod none d zc_X12_termOf 58 [(0, .ref l0), (2, .int l2), (3, .int l3), (4, .int l4)] [.int (I (kR S l0 46) (zix l4)), .int l3, .ref (kR S l0 50)] (S, I, L)) else none) else none) else none) else none) else none :=
  (blk_ok zcod none d zc_X12_termOf [(7, .iload_n 2, 8, [], none), (8, .if_icmp .ge 157, 11, [165], none), (11, .aload_n 0, 12, [], none), (12, .getfield 107, 15, [12, 45, 2, 636, 0], none), (15, .iload 4, 17, [], none), (17, .iaload, 18, [20], none), (18, .istore 5, 20, [], none), (20, .iload 5, 22, [], none), (22, .iconst 2, 23, [], none), (23, .if_icmp .ge 42, 26, [65], none), (26, .aload_n 0, 27, [], none), (27, .getfield 119, 30, [12, 50, 2, 640, 0], none), (30, .iload_n 3, 31, [], none), (31, .iload 5, 33, [], none), (33, .ifCond .ne 13, 36, [46], none), (36, .aload_n 0, 37, [], none), (37, .getfield 110, 40, [12, 46, 2, 637, 0], none), (40, .iload 4, 42, [], none), (42, .iaload, 43, [20], none), (43, .goto 15, 46, [58], none)] (5, .iload 4, 7, [], some [0, 2, 3, 4]) (by decide +kernel) _ _ _).trans rfl
set_option maxRecDepth 20000 in
set_option maxHeartbeats 4000000 in
theorem B_X12_termOf_46 (d : Nat) (S : mS) (I : mI) (L : mJ) (l0 : Nat) (l2 : Int32) (l3 : Int32) (l4 : Int32) (s0 : Nat) (s1 : Int32) :
  evk zcod none d zc_X12_termOf 46 [(0, .ref l0), (2, .int l2), (3, .int l3), (4, .int l4)] [.int s1, .ref s0] (S, I, L) =
  if kK S l0 = 12 then
 (if kK S l0 = 12 then
 (if kK S (kR S l0 46) = 20 ∧ zin l4 (kN S (kR S l0 46)) then
 (if kK S (kR S l0 49) = 20 ∧ zin (I (kR S l0 46) (zix l4)) (kN S (kR S l0 49)) then
 (evk zcod none d zc_X12_termOf 58 [(0, .ref l0), (2, .int l2), (3, .int l3), (4, .int l4)] [.int (I (kR S l0 49) (zix (I (kR S l0 46) (zix l4)))), .int s1, .ref s0] (S, I, L)) else none) else none) else none) else none :=
  (blk_ok zcod none d zc_X12_termOf [(47, .getfield 116, 50, [12, 49, 2, 639, 0], none), (50, .aload_n 0, 51, [], none), (51, .getfield 110, 54, [12, 46, 2, 637, 0], none), (54, .iload 4, 56, [], none), (56, .iaload, 57, [20], none), (57, .iaload, 58, [20], none)] (46, .aload_n 0, 47, [], some [0, 2, 3, 4]) (by decide +kernel) _ _ _).trans rfl
set_option maxRecDepth 20000 in
set_option maxHeartbeats 4000000 in
theorem B_X12_termOf_58 (d : Nat) (S : mS) (I : mI) (L : mJ) (l0 : Nat) (l2 : Int32) (l3 : Int32) (l4 : Int32) (s0 : Nat) (s1 : Int32) (s2 : Int32) :
  evk zcod none d zc_X12_termOf 58 [(0, .ref l0), (2, .int l2), (3, .int l3), (4, .int l4)] [.int s2, .int s1, .ref s0] (S, I, L) =
  if kK S s0 = 20 ∧ zin s1 (kN S s0) then
 (evk zcod none d zc_X12_termOf 159 [(0, .ref l0), (2, .int l2), (3, .int (l3 + (nI 1))), (4, .int l4)] [] (S, (uI I s0 (zix s1) s2), L)) else none :=
  (blk_ok zcod none d zc_X12_termOf [(59, .iinc 3 1, 62, [], none), (62, .goto 97, 65, [159], none)] (58, .iastore, 59, [20], some [0, 2, 3, 4]) (by decide +kernel) _ _ _).trans rfl
set_option maxRecDepth 20000 in
set_option maxHeartbeats 4000000 in
theorem R_X12_termOf_65 (d : Nat) (S : mS) (I : mI) (L : mJ) (l0 : Nat) (l2 : Int32) (l3 : Int32) (l4 : Int32) (l5 : Int32) :
  evk zcod none d zc_X12_termOf 65 [(0, .ref l0), (2, .int l2), (3, .int l3), (4, .int l4), (5, .int l5)] [] (S, I, L) =
  if kK S l0 = 12 then
 (if kK S (kR S l0 50) = 20 ∧ zin ((l3 + (Int32.ofInt (-1))) - (nI 1)) (kN S (kR S l0 50)) then
 (if kK S l0 = 12 then
 (if kK S (kR S l0 50) = 20 ∧ zin (l3 + (Int32.ofInt (-1))) (kN S (kR S l0 50)) then
 (if ¬ l5 = (nI 5) then
 evk zcod none d zc_X12_termOf 104 [(0, .ref l0), (2, .int l2), (3, .int (l3 + (Int32.ofInt (-1)))), (4, .int l4), (5, .int l5), (6, .int (I (kR S l0 50) (zix ((l3 + (Int32.ofInt (-1))) - (nI 1))))), (7, .int (I (kR S l0 50) (zix (l3 + (Int32.ofInt (-1))))))] [] (S, I, L)
 else
 if ¬ (I (kR S l0 50) (zix (l3 + (Int32.ofInt (-1))))) = (nI 0) then
 evk zcod none d zc_X12_termOf 104 [(0, .ref l0), (2, .int l2), (3, .int (l3 + (Int32.ofInt (-1)))), (4, .int l4), (5, .int l5), (6, .int (I (kR S l0 50) (zix ((l3 + (Int32.ofInt (-1))) - (nI 1))))), (7, .int (I (kR S l0 50) (zix (l3 + (Int32.ofInt (-1))))))] [] (S, I, L)
 else
 if kK S l0 = 12 ∧ ((nI 1) = nI 0 ∨ (nI 1) = nI 1) then
 (some (some (.int (nI 0)), (S, (uI I l0 51 (nI 1)), L))) else none) else none) else none) else none) else none :=
  (blk_ok zcod none d zc_X12_termOf [(68, .aload_n 0, 69, [], none), (69, .getfield 119, 72, [12, 50, 2, 640, 0], none), (72, .iload_n 3, 73, [], none), (73, .iconst 1, 74, [], none), (74, .isub, 75, [], none), (75, .iaload, 76, [20], none), (76, .istore 6, 78, [], none), (78, .aload_n 0, 79, [], none), (79, .getfield 119, 82, [12, 50, 2, 640, 0], none), (82, .iload_n 3, 83, [], none), (83, .iaload, 84, [20], none), (84, .istore 7, 86, [], none), (86, .iload 5, 88, [], none), (88, .iconst 5, 89, [], none), (89, .if_icmp .ne 15, 92, [104], none), (92, .iload 7, 94, [], none), (94, .ifCond .ne 10, 97, [104], none), (97, .aload_n 0, 98, [], none), (98, .iconst 1, 99, [], none), (99, .putfield 336, 102, [12, 51, 3, 770, 0, 0], none), (102, .iconst 0, 103, [], none), (103, .ireturn, 104, [0], none)] (65, .iinc 3 (-1), 68, [], some [0, 2, 3, 4, 5]) (by decide +kernel) _ _ _).trans rfl
theorem B_X12_termOf_65 (d : Nat) (S : mS) (I : mI) (L : mJ) (l0 : Nat) (l2 : Int32) (l3 : Int32) (l4 : Int32) (l5 : Int32) :
  evk zcod none d zc_X12_termOf 65 [(0, .ref l0), (2, .int l2), (3, .int l3), (4, .int l4), (5, .int l5)] [] (S, I, L) =
  if kK S l0 = 12 then
 (if kK S (kR S l0 50) = 20 ∧ zin ((l3 + (-1 : Int32)) - (nI 1)) (kN S (kR S l0 50)) then
 (if kK S l0 = 12 then
 (if kK S (kR S l0 50) = 20 ∧ zin (l3 + (-1 : Int32)) (kN S (kR S l0 50)) then
 (if ¬ l5 = (nI 5) then
 evk zcod none d zc_X12_termOf 104 [(0, .ref l0), (2, .int l2), (3, .int (l3 + (-1 : Int32))), (4, .int l4), (5, .int l5), (6, .int (I (kR S l0 50) (zix ((l3 + (-1 : Int32)) - (nI 1))))), (7, .int (I (kR S l0 50) (zix (l3 + (-1 : Int32)))))] [] (S, I, L)
 else
 if ¬ (I (kR S l0 50) (zix (l3 + (-1 : Int32)))) = (nI 0) then
 evk zcod none d zc_X12_termOf 104 [(0, .ref l0), (2, .int l2), (3, .int (l3 + (-1 : Int32))), (4, .int l4), (5, .int l5), (6, .int (I (kR S l0 50) (zix ((l3 + (-1 : Int32)) - (nI 1))))), (7, .int (I (kR S l0 50) (zix (l3 + (-1 : Int32)))))] [] (S, I, L)
 else
 if kK S l0 = 12 ∧ ((nI 1) = nI 0 ∨ (nI 1) = nI 1) then
 (some (some (.int (nI 0)), (S, (uI I l0 51 (nI 1)), L))) else none) else none) else none) else none) else none := by
  simpa only [cvN] using R_X12_termOf_65 d S I L l0 l2 l3 l4 l5
set_option maxRecDepth 20000 in
set_option maxHeartbeats 4000000 in
theorem B_X12_termOf_104 (d : Nat) (S : mS) (I : mI) (L : mJ) (l0 : Nat) (l2 : Int32) (l3 : Int32) (l4 : Int32) (l5 : Int32) (l6 : Int32) (l7 : Int32) :
  evk zcod none d zc_X12_termOf 104 [(0, .ref l0), (2, .int l2), (3, .int l3), (4, .int l4), (5, .int l5), (6, .int l6), (7, .int l7)] [] (S, I, L) =
  if kK S l0 = 12 then
 (if ¬ l5 = (nI 2) then
 evk zcod none d zc_X12_termOf 125 [(0, .ref l0), (2, .int l2), (3, .int l3), (4, .int l4), (5, .int l5), (6, .int l6), (7, .int l7)] [.int (l3 - (nI 1)), .ref (kR S l0 50)] (S, I, L)
 else
 evk zcod none d zc_X12_termOf 158 [(0, .ref l0), (2, .int l2), (3, .int l3), (4, .int l4)] [.int (l6 + l7), .int (l3 - (nI 1)), .ref (kR S l0 50)] (S, I, L)) else none :=
  (blk_ok zcod none d zc_X12_termOf [(105, .getfield 119, 108, [12, 50, 2, 640, 0], none), (108, .iload_n 3, 109, [], none), (109, .iconst 1, 110, [], none), (110, .isub, 111, [], none), (111, .iload 5, 113, [], none), (113, .iconst 2, 114, [], none), (114, .if_icmp .ne 11, 117, [125], none), (117, .iload 6, 119, [], none), (119, .iload 7, 121, [], none), (121, .iadd, 122, [], none), (122, .goto 36, 125, [158], none)] (104, .aload_n 0, 105, [], some [0, 2, 3, 4, 5, 6, 7]) (by decide +kernel) _ _ _).trans rfl
set_option maxRecDepth 20000 in
set_option maxHeartbeats 4000000 in
theorem B_X12_termOf_125 (d : Nat) (S : mS) (I : mI) (L : mJ) (l0 : Nat) (l2 : Int32) (l3 : Int32) (l4 : Int32) (l5 : Int32) (l6 : Int32) (l7 : Int32) (s0 : Nat) (s1 : Int32) :
  evk zcod none d zc_X12_termOf 125 [(0, .ref l0), (2, .int l2), (3, .int l3), (4, .int l4), (5, .int l5), (6, .int l6), (7, .int l7)] [.int s1, .ref s0] (S, I, L) =
  if ¬ l5 = (nI 3) then
 evk zcod none d zc_X12_termOf 139 [(0, .ref l0), (2, .int l2), (3, .int l3), (4, .int l4), (5, .int l5), (6, .int l6), (7, .int l7)] [.int s1, .ref s0] (S, I, L)
 else
 evk zcod none d zc_X12_termOf 158 [(0, .ref l0), (2, .int l2), (3, .int l3), (4, .int l4)] [.int (l6 - l7), .int s1, .ref s0] (S, I, L) :=
  (blk_ok zcod none d zc_X12_termOf [(127, .iconst 3, 128, [], none), (128, .if_icmp .ne 11, 131, [139], none), (131, .iload 6, 133, [], none), (133, .iload 7, 135, [], none), (135, .isub, 136, [], none), (136, .goto 22, 139, [158], none)] (125, .iload 5, 127, [], some [0, 2, 3, 4, 5, 6, 7]) (by decide +kernel) _ _ _).trans rfl
set_option maxRecDepth 20000 in
set_option maxHeartbeats 4000000 in
theorem B_X12_termOf_139 (d : Nat) (S : mS) (I : mI) (L : mJ) (l0 : Nat) (l2 : Int32) (l3 : Int32) (l4 : Int32) (l5 : Int32) (l6 : Int32) (l7 : Int32) (s0 : Nat) (s1 : Int32) :
  evk zcod none d zc_X12_termOf 139 [(0, .ref l0), (2, .int l2), (3, .int l3), (4, .int l4), (5, .int l5), (6, .int l6), (7, .int l7)] [.int s1, .ref s0] (S, I, L) =
  if ¬ l5 = (nI 4) then
 evk zcod none d zc_X12_termOf 153 [(0, .ref l0), (2, .int l2), (3, .int l3), (4, .int l4), (6, .int l6), (7, .int l7)] [.int s1, .ref s0] (S, I, L)
 else
 evk zcod none d zc_X12_termOf 158 [(0, .ref l0), (2, .int l2), (3, .int l3), (4, .int l4)] [.int (l6 * l7), .int s1, .ref s0] (S, I, L) :=
  (blk_ok zcod none d zc_X12_termOf [(141, .iconst 4, 142, [], none), (142, .if_icmp .ne 11, 145, [153], none), (145, .iload 6, 147, [], none), (147, .iload 7, 149, [], none), (149, .imul, 150, [], none), (150, .goto 8, 153, [158], none)] (139, .iload 5, 141, [], some [0, 2, 3, 4, 5, 6, 7]) (by decide +kernel) _ _ _).trans rfl
set_option maxRecDepth 20000 in
set_option maxHeartbeats 4000000 in
theorem B_X12_termOf_153 (d : Nat) (S : mS) (I : mI) (L : mJ) (l0 : Nat) (l2 : Int32) (l3 : Int32) (l4 : Int32) (l6 : Int32) (l7 : Int32) (s0 : Nat) (s1 : Int32) :
  evk zcod none d zc_X12_termOf 153 [(0, .ref l0), (2, .int l2), (3, .int l3), (4, .int l4), (6, .int l6), (7, .int l7)] [.int s1, .ref s0] (S, I, L) =
  if l7 = nI 0 then none else
 evk zcod none d zc_X12_termOf 158 [(0, .ref l0), (2, .int l2), (3, .int l3), (4, .int l4)] [.int (l6 / l7), .int s1, .ref s0] (S, I, L) :=
  (blk_ok zcod none d zc_X12_termOf [(155, .iload 7, 157, [], none), (157, .idiv, 158, [], none)] (153, .iload 6, 155, [], some [0, 2, 3, 4, 6, 7]) (by decide +kernel) _ _ _).trans rfl
set_option maxRecDepth 20000 in
set_option maxHeartbeats 4000000 in
theorem B_X12_termOf_158 (d : Nat) (S : mS) (I : mI) (L : mJ) (l0 : Nat) (l2 : Int32) (l3 : Int32) (l4 : Int32) (s0 : Nat) (s1 : Int32) (s2 : Int32) :
  evk zcod none d zc_X12_termOf 158 [(0, .ref l0), (2, .int l2), (3, .int l3), (4, .int l4)] [.int s2, .int s1, .ref s0] (S, I, L) =
  if kK S s0 = 20 ∧ zin s1 (kN S s0) then
 (evk zcod none d zc_X12_termOf 159 [(0, .ref l0), (2, .int l2), (3, .int l3), (4, .int l4)] [] (S, (uI I s0 (zix s1) s2), L)) else none :=
  (blk_ok zcod none d zc_X12_termOf [] (158, .iastore, 159, [20], some [0, 2, 3, 4]) (by decide +kernel) _ _ _).trans rfl
set_option maxRecDepth 20000 in
set_option maxHeartbeats 4000000 in
theorem B_X12_termOf_159 (d : Nat) (S : mS) (I : mI) (L : mJ) (l0 : Nat) (l2 : Int32) (l3 : Int32) (l4 : Int32) :
  evk zcod none d zc_X12_termOf 159 [(0, .ref l0), (2, .int l2), (3, .int l3), (4, .int l4)] [] (S, I, L) =
  evk zcod none d zc_X12_termOf 5 [(0, .ref l0), (2, .int l2), (3, .int l3), (4, .int (l4 + (nI 1)))] [] (S, I, L) :=
  (blk_ok zcod none d zc_X12_termOf [(162, .goto (-157), 165, [5], none)] (159, .iinc 4 1, 162, [], some [0, 2, 3, 4]) (by decide +kernel) _ _ _).trans rfl
set_option maxRecDepth 20000 in
set_option maxHeartbeats 4000000 in
theorem B_X12_termOf_165 (d : Nat) (S : mS) (I : mI) (L : mJ) (l0 : Nat) :
  evk zcod none d zc_X12_termOf 165 [(0, .ref l0)] [] (S, I, L) =
  if kK S l0 = 12 then
 (if kK S (kR S l0 50) = 20 ∧ zin (nI 0) (kN S (kR S l0 50)) then
 (some (some (.int (I (kR S l0 50) (zix (nI 0)))), (S, I, L))) else none) else none :=
  (blk_ok zcod none d zc_X12_termOf [(166, .getfield 119, 169, [12, 50, 2, 640, 0], none), (169, .iconst 0, 170, [], none), (170, .iaload, 171, [20], none), (171, .ireturn, 172, [0], none)] (165, .aload_n 0, 166, [], some [0]) (by decide +kernel) _ _ _).trans rfl
theorem E_X12_in (d : Nat) (M : zM) (l0 : Int32) (l1 : Int32) (l2 : Int32) : evM zcod (d + 1) 191 [.int l0, .int l1, .int l2] M = evk zcod none d zc_X12_in 0 [(0, .int l0), (1, .int l1), (2, .int l2)] [] M := evM_eq zcod d 191 _ M (Nat.le_of_ble_eq_true rfl)
set_option maxRecDepth 20000 in
set_option maxHeartbeats 4000000 in
theorem B_X12_in_0 (d : Nat) (S : mS) (I : mI) (L : mJ) (l0 : Int32) (l1 : Int32) (l2 : Int32) :
  evk zcod none d zc_X12_in 0 [(0, .int l0), (1, .int l1), (2, .int l2)] [] (S, I, L) =
  if l0 < l1 then
 evk zcod none d zc_X12_in 14 [] [] (S, I, L)
 else
 if l2 < l0 then
 evk zcod none d zc_X12_in 14 [] [] (S, I, L)
 else
 evk zcod none d zc_X12_in 15 [] [.int (nI 1)] (S, I, L) :=
  (blk_ok zcod none d zc_X12_in [(1, .iload_n 1, 2, [], none), (2, .if_icmp .lt 12, 5, [14], none), (5, .iload_n 0, 6, [], none), (6, .iload_n 2, 7, [], none), (7, .if_icmp .gt 7, 10, [14], none), (10, .iconst 1, 11, [], none), (11, .goto 4, 14, [15], none)] (0, .iload_n 0, 1, [], none) (by decide +kernel) _ _ _).trans rfl
set_option maxRecDepth 20000 in
set_option maxHeartbeats 4000000 in
theorem B_X12_in_14 (d : Nat) (S : mS) (I : mI) (L : mJ)  :
  evk zcod none d zc_X12_in 14 [] [] (S, I, L) =
  evk zcod none d zc_X12_in 15 [] [.int (nI 0)] (S, I, L) :=
  (blk_ok zcod none d zc_X12_in [] (14, .iconst 0, 15, [], some []) (by decide +kernel) _ _ _).trans rfl
set_option maxRecDepth 20000 in
set_option maxHeartbeats 4000000 in
theorem B_X12_in_15 (d : Nat) (S : mS) (I : mI) (L : mJ) (s0 : Int32) :
  evk zcod none d zc_X12_in 15 [] [.int s0] (S, I, L) =
  if s0 = nI 0 ∨ s0 = nI 1 then some (some (.int s0), (S, I, L)) else none :=
  (blk_ok zcod none d zc_X12_in [] (15, .ireturn, 16, [1], some []) (by decide +kernel) _ _ _).trans rfl
theorem E_X12_held (d : Nat) (M : zM) (l0 : Int32) (l1 : Int32) (l2 : Int32) : evM zcod (d + 1) 192 [.int l0, .int l1, .int l2] M = evk zcod none d zc_X12_held 0 [(0, .int l0), (1, .int l1), (2, .int l2)] [] M := evM_eq zcod d 192 _ M (Nat.le_of_ble_eq_true rfl)
set_option maxRecDepth 20000 in
set_option maxHeartbeats 4000000 in
theorem B_X12_held_0 (d : Nat) (S : mS) (I : mI) (L : mJ) (l0 : Int32) (l1 : Int32) (l2 : Int32) :
  evk zcod none d zc_X12_held 0 [(0, .int l0), (1, .int l1), (2, .int l2)] [] (S, I, L) =
  if l1 ≤ l0 then
 evk zcod none d zc_X12_held 9 [(0, .int l0), (2, .int l2)] [] (S, I, L)
 else
 evk zcod none d zc_X12_held 19 [] [.int l1] (S, I, L) :=
  (blk_ok zcod none d zc_X12_held [(1, .iload_n 1, 2, [], none), (2, .if_icmp .ge 7, 5, [9], none), (5, .iload_n 1, 6, [], none), (6, .goto 13, 9, [19], none)] (0, .iload_n 0, 1, [], none) (by decide +kernel) _ _ _).trans rfl
set_option maxRecDepth 20000 in
set_option maxHeartbeats 4000000 in
theorem B_X12_held_9 (d : Nat) (S : mS) (I : mI) (L : mJ) (l0 : Int32) (l2 : Int32) :
  evk zcod none d zc_X12_held 9 [(0, .int l0), (2, .int l2)] [] (S, I, L) =
  if l0 ≤ l2 then
 evk zcod none d zc_X12_held 18 [(0, .int l0)] [] (S, I, L)
 else
 evk zcod none d zc_X12_held 19 [] [.int l2] (S, I, L) :=
  (blk_ok zcod none d zc_X12_held [(10, .iload_n 2, 11, [], none), (11, .if_icmp .le 7, 14, [18], none), (14, .iload_n 2, 15, [], none), (15, .goto 4, 18, [19], none)] (9, .iload_n 0, 10, [], some [0, 2]) (by decide +kernel) _ _ _).trans rfl
set_option maxRecDepth 20000 in
set_option maxHeartbeats 4000000 in
theorem B_X12_held_18 (d : Nat) (S : mS) (I : mI) (L : mJ) (l0 : Int32) :
  evk zcod none d zc_X12_held 18 [(0, .int l0)] [] (S, I, L) =
  evk zcod none d zc_X12_held 19 [] [.int l0] (S, I, L) :=
  (blk_ok zcod none d zc_X12_held [] (18, .iload_n 0, 19, [], some [0]) (by decide +kernel) _ _ _).trans rfl
set_option maxRecDepth 20000 in
set_option maxHeartbeats 4000000 in
theorem B_X12_held_19 (d : Nat) (S : mS) (I : mI) (L : mJ) (s0 : Int32) :
  evk zcod none d zc_X12_held 19 [] [.int s0] (S, I, L) =
  some (some (.int s0), (S, I, L)) :=
  (blk_ok zcod none d zc_X12_held [] (19, .ireturn, 20, [0], some []) (by decide +kernel) _ _ _).trans rfl
theorem E_X12_bits (d : Nat) (M : zM) (l0 : Int32) : evM zcod (d + 1) 193 [.int l0] M = evk zcod none d zc_X12_bits 0 [(0, .int l0)] [] M := evM_eq zcod d 193 _ M (Nat.le_of_ble_eq_true rfl)
set_option maxRecDepth 20000 in
set_option maxHeartbeats 4000000 in
theorem B_X12_bits_0 (d : Nat) (S : mS) (I : mI) (L : mJ) (l0 : Int32) :
  evk zcod none d zc_X12_bits 0 [(0, .int l0)] [] (S, I, L) =
  evk zcod none d zc_X12_bits 4 [(0, .int l0), (1, .int (nI 0)), (2, .int (nI 0))] [] (S, I, L) :=
  (blk_ok zcod none d zc_X12_bits [(1, .istore_n 1, 2, [], none), (2, .iconst 0, 3, [], none), (3, .istore_n 2, 4, [], none)] (0, .iconst 0, 1, [], none) (by decide +kernel) _ _ _).trans rfl
set_option maxRecDepth 20000 in
set_option maxHeartbeats 4000000 in
theorem B_X12_bits_4 (d : Nat) (S : mS) (I : mI) (L : mJ) (l0 : Int32) (l1 : Int32) (l2 : Int32) :
  evk zcod none d zc_X12_bits 4 [(0, .int l0), (1, .int l1), (2, .int l2)] [] (S, I, L) =
  if (nI 7) ≤ l2 then
 evk zcod none d zc_X12_bits 24 [(1, .int l1)] [] (S, I, L)
 else
 evk zcod none d zc_X12_bits 4 [(0, .int l0), (1, .int (l1 + ((l0 >>> (l2 &&& nI 31)) &&& (nI 1)))), (2, .int (l2 + (nI 1)))] [] (S, I, L) :=
  (blk_ok zcod none d zc_X12_bits [(5, .bipush 7, 7, [], none), (7, .if_icmp .ge 17, 10, [24], none), (10, .iload_n 1, 11, [], none), (11, .iload_n 0, 12, [], none), (12, .iload_n 2, 13, [], none), (13, .ishr, 14, [], none), (14, .iconst 1, 15, [], none), (15, .iand, 16, [], none), (16, .iadd, 17, [], none), (17, .istore_n 1, 18, [], none), (18, .iinc 2 1, 21, [], none), (21, .goto (-17), 24, [4], none)] (4, .iload_n 2, 5, [], some [0, 1, 2]) (by decide +kernel) _ _ _).trans rfl
set_option maxRecDepth 20000 in
set_option maxHeartbeats 4000000 in
theorem B_X12_bits_24 (d : Nat) (S : mS) (I : mI) (L : mJ) (l1 : Int32) :
  evk zcod none d zc_X12_bits 24 [(1, .int l1)] [] (S, I, L) =
  some (some (.int l1), (S, I, L)) :=
  (blk_ok zcod none d zc_X12_bits [(25, .ireturn, 26, [0], none)] (24, .iload_n 1, 25, [], some [1]) (by decide +kernel) _ _ _).trans rfl
theorem E_X12_off (d : Nat) (M : zM) (l0 : Int32) (l1 : Int32) : evM zcod (d + 1) 194 [.int l0, .int l1] M = evk zcod none d zc_X12_off 0 [(0, .int l0), (1, .int l1)] [] M := evM_eq zcod d 194 _ M (Nat.le_of_ble_eq_true rfl)
set_option maxRecDepth 20000 in
set_option maxHeartbeats 4000000 in
theorem B_X12_off_0 (d : Nat) (S : mS) (I : mI) (L : mJ) (l0 : Int32) (l1 : Int32) :
  evk zcod none d zc_X12_off 0 [(0, .int l0), (1, .int l1)] [] (S, I, L) =
  if l1 ≤ l0 then
 evk zcod none d zc_X12_off 11 [(0, .int l0), (1, .int l1)] [] (S, I, L)
 else
 evk zcod none d zc_X12_off 14 [] [.int (l1 - l0)] (S, I, L) :=
  (blk_ok zcod none d zc_X12_off [(1, .iload_n 1, 2, [], none), (2, .if_icmp .ge 9, 5, [11], none), (5, .iload_n 1, 6, [], none), (6, .iload_n 0, 7, [], none), (7, .isub, 8, [], none), (8, .goto 6, 11, [14], none)] (0, .iload_n 0, 1, [], none) (by decide +kernel) _ _ _).trans rfl
set_option maxRecDepth 20000 in
set_option maxHeartbeats 4000000 in
theorem B_X12_off_11 (d : Nat) (S : mS) (I : mI) (L : mJ) (l0 : Int32) (l1 : Int32) :
  evk zcod none d zc_X12_off 11 [(0, .int l0), (1, .int l1)] [] (S, I, L) =
  evk zcod none d zc_X12_off 14 [] [.int (l0 - l1)] (S, I, L) :=
  (blk_ok zcod none d zc_X12_off [(12, .iload_n 1, 13, [], none), (13, .isub, 14, [], none)] (11, .iload_n 0, 12, [], some [0, 1]) (by decide +kernel) _ _ _).trans rfl
set_option maxRecDepth 20000 in
set_option maxHeartbeats 4000000 in
theorem B_X12_off_14 (d : Nat) (S : mS) (I : mI) (L : mJ) (s0 : Int32) :
  evk zcod none d zc_X12_off 14 [] [.int s0] (S, I, L) =
  some (some (.int s0), (S, I, L)) :=
  (blk_ok zcod none d zc_X12_off [] (14, .ireturn, 15, [0], some []) (by decide +kernel) _ _ _).trans rfl
theorem E_X12_isLoad (d : Nat) (M : zM) (l0 : Nat) (l1 : Int32) : evM zcod (d + 1) 195 [.ref l0, .int l1] M = evk zcod none d zc_X12_isLoad 0 [(0, .ref l0), (1, .int l1)] [] M := evM_eq zcod d 195 _ M (Nat.le_of_ble_eq_true rfl)
set_option maxRecDepth 20000 in
set_option maxHeartbeats 4000000 in
theorem B_X12_isLoad_0 (d : Nat) (S : mS) (I : mI) (L : mJ) (l0 : Nat) (l1 : Int32) :
  evk zcod none d zc_X12_isLoad 0 [(0, .ref l0), (1, .int l1)] [] (S, I, L) =
  if kK S l0 = 12 then
 (if kK S l0 = 12 then
 (if kK S (kR S l0 22) = 20 ∧ zin (I l0 18) (kN S (kR S l0 22)) then
 (bI (evM zcod d 191 [.int l1, .int (nI 0), .int ((I (kR S l0 22) (zix (I l0 18))) - (nI 1))] (S, I, L)) fun x1 M1 =>
 if M1.1.1 = S.1 then
 (if x1 = nI 0 ∨ x1 = nI 1 then some (some (.int x1), M1) else none) else none) else none) else none) else none :=
  (blk_ok zcod none d zc_X12_isLoad [(1, .iconst 0, 2, [], none), (2, .aload_n 0, 3, [], none), (3, .getfield 43, 6, [12, 22, 2, 614, 0], none), (6, .aload_n 0, 7, [], none), (7, .getfield 257, 10, [12, 18, 0, 711, 0], none), (10, .iaload, 11, [20], none), (11, .iconst 1, 12, [], none), (12, .isub, 13, [], none), (13, .invokestatic 340, 16, [191, 3, 1, 0, 771, 772, 662], none), (16, .ireturn, 17, [1], none)] (0, .iload_n 1, 1, [], none) (by decide +kernel) _ _ _).trans rfl
theorem E_X12_isSilk (d : Nat) (M : zM) (l0 : Nat) (l1 : Int32) : evM zcod (d + 1) 196 [.ref l0, .int l1] M = evk zcod none d zc_X12_isSilk 0 [(0, .ref l0), (1, .int l1)] [] M := evM_eq zcod d 196 _ M (Nat.le_of_ble_eq_true rfl)
set_option maxRecDepth 20000 in
set_option maxHeartbeats 4000000 in
theorem B_X12_isSilk_0 (d : Nat) (S : mS) (I : mI) (L : mJ) (l0 : Nat) (l1 : Int32) :
  evk zcod none d zc_X12_isSilk 0 [(0, .ref l0), (1, .int l1)] [] (S, I, L) =
  if kK S l0 = 12 then
 (if kK S l0 = 12 then
 (if kK S (kR S l0 26) = 20 ∧ zin (I l0 18) (kN S (kR S l0 26)) then
 (bI (evM zcod d 191 [.int l1, .int (nI 0), .int ((I (kR S l0 26) (zix (I l0 18))) - (nI 1))] (S, I, L)) fun x1 M1 =>
 if M1.1.1 = S.1 then
 (if x1 = nI 0 ∨ x1 = nI 1 then some (some (.int x1), M1) else none) else none) else none) else none) else none :=
  (blk_ok zcod none d zc_X12_isSilk [(1, .iconst 0, 2, [], none), (2, .aload_n 0, 3, [], none), (3, .getfield 55, 6, [12, 26, 2, 618, 0], none), (6, .aload_n 0, 7, [], none), (7, .getfield 257, 10, [12, 18, 0, 711, 0], none), (10, .iaload, 11, [20], none), (11, .iconst 1, 12, [], none), (12, .isub, 13, [], none), (13, .invokestatic 340, 16, [191, 3, 1, 0, 771, 772, 662], none), (16, .ireturn, 17, [1], none)] (0, .iload_n 1, 1, [], none) (by decide +kernel) _ _ _).trans rfl
theorem E_X12_isHook (d : Nat) (M : zM) (l0 : Nat) (l1 : Int32) : evM zcod (d + 1) 197 [.ref l0, .int l1] M = evk zcod none d zc_X12_isHook 0 [(0, .ref l0), (1, .int l1)] [] M := evM_eq zcod d 197 _ M (Nat.le_of_ble_eq_true rfl)
set_option maxRecDepth 20000 in
set_option maxHeartbeats 4000000 in
theorem B_X12_isHook_0 (d : Nat) (S : mS) (I : mI) (L : mJ) (l0 : Nat) (l1 : Int32) :
  evk zcod none d zc_X12_isHook 0 [(0, .ref l0), (1, .int l1)] [] (S, I, L) =
  if kK S l0 = 12 then
 (if kK S l0 = 12 then
 (if kK S (kR S l0 29) = 20 ∧ zin (I l0 18) (kN S (kR S l0 29)) then
 (bI (evM zcod d 191 [.int l1, .int (nI 0), .int ((I (kR S l0 29) (zix (I l0 18))) - (nI 1))] (S, I, L)) fun x1 M1 =>
 if M1.1.1 = S.1 then
 (if x1 = nI 0 ∨ x1 = nI 1 then some (some (.int x1), M1) else none) else none) else none) else none) else none :=
  (blk_ok zcod none d zc_X12_isHook [(1, .iconst 0, 2, [], none), (2, .aload_n 0, 3, [], none), (3, .getfield 64, 6, [12, 29, 2, 621, 0], none), (6, .aload_n 0, 7, [], none), (7, .getfield 257, 10, [12, 18, 0, 711, 0], none), (10, .iaload, 11, [20], none), (11, .iconst 1, 12, [], none), (12, .isub, 13, [], none), (13, .invokestatic 340, 16, [191, 3, 1, 0, 771, 772, 662], none), (16, .ireturn, 17, [1], none)] (0, .iload_n 1, 1, [], none) (by decide +kernel) _ _ _).trans rfl
theorem E_X12_begins (d : Nat) (M : zM) (l0 : Nat) : evM zcod (d + 1) 198 [.ref l0] M = evk zcod none d zc_X12_begins 0 [(0, .ref l0)] [] M := evM_eq zcod d 198 _ M (Nat.le_of_ble_eq_true rfl)
set_option maxRecDepth 20000 in
set_option maxHeartbeats 4000000 in
theorem B_X12_begins_0 (d : Nat) (S : mS) (I : mI) (L : mJ) (l0 : Nat) :
  evk zcod none d zc_X12_begins 0 [(0, .ref l0)] [] (S, I, L) =
  evk zcod none d zc_X12_begins 2 [(0, .ref l0), (1, .int (nI 0))] [] (S, I, L) :=
  (blk_ok zcod none d zc_X12_begins [(1, .istore_n 1, 2, [], none)] (0, .iconst 0, 1, [], none) (by decide +kernel) _ _ _).trans rfl
set_option maxRecDepth 20000 in
set_option maxHeartbeats 4000000 in
theorem B_X12_begins_2 (d : Nat) (S : mS) (I : mI) (L : mJ) (l0 : Nat) (l1 : Int32) :
  evk zcod none d zc_X12_begins 2 [(0, .ref l0), (1, .int l1)] [] (S, I, L) =
  if (nI 58) ≤ l1 then
 evk zcod none d zc_X12_begins 21 [(0, .ref l0)] [] (S, I, L)
 else
 if kK S l0 = 12 then
 (if kK S (kR S l0 53) = 20 ∧ zin l1 (kN S (kR S l0 53)) then
 (evk zcod none d zc_X12_begins 2 [(0, .ref l0), (1, .int (l1 + (nI 1)))] [] (S, (uI I (kR S l0 53) (zix l1) (nI 0)), L)) else none) else none :=
  (blk_ok zcod none d zc_X12_begins [(3, .bipush 58, 5, [], none), (5, .if_icmp .ge 16, 8, [21], none), (8, .aload_n 0, 9, [], none), (9, .getfield 125, 12, [12, 53, 2, 642, 0], none), (12, .iload_n 1, 13, [], none), (13, .iconst 0, 14, [], none), (14, .iastore, 15, [20], none), (15, .iinc 1 1, 18, [], none), (18, .goto (-16), 21, [2], none)] (2, .iload_n 1, 3, [], some [0, 1]) (by decide +kernel) _ _ _).trans rfl
set_option maxRecDepth 20000 in
set_option maxHeartbeats 4000000 in
theorem B_X12_begins_21 (d : Nat) (S : mS) (I : mI) (L : mJ) (l0 : Nat) :
  evk zcod none d zc_X12_begins 21 [(0, .ref l0)] [] (S, I, L) =
  evk zcod none d zc_X12_begins 24 [(0, .ref l0), (1, .int (nI 21))] [] (S, I, L) :=
  (blk_ok zcod none d zc_X12_begins [(23, .istore_n 1, 24, [], none)] (21, .bipush 21, 23, [], some [0]) (by decide +kernel) _ _ _).trans rfl
set_option maxRecDepth 20000 in
set_option maxHeartbeats 4000000 in
theorem R_X12_begins_24 (d : Nat) (S : mS) (I : mI) (L : mJ) (l0 : Nat) (l1 : Int32) :
  evk zcod none d zc_X12_begins 24 [(0, .ref l0), (1, .int l1)] [] (S, I, L) =
  if (nI 40) ≤ l1 then
 evk zcod none d zc_X12_begins 44 [(0, .ref l0)] [] (S, I, L)
 else
 if kK S l0 = 12 then
 (if kK S (kR S l0 53) = 20 ∧ zin l1 (kN S (kR S l0 53)) then
 (evk zcod none d zc_X12_begins 24 [(0, .ref l0), (1, .int (l1 + (nI 1)))] [] (S, (uI I (kR S l0 53) (zix l1) ((Int8.ofInt (-2)).toInt32)), L)) else none) else none :=
  (blk_ok zcod none d zc_X12_begins [(25, .bipush 40, 27, [], none), (27, .if_icmp .ge 17, 30, [44], none), (30, .aload_n 0, 31, [], none), (31, .getfield 125, 34, [12, 53, 2, 642, 0], none), (34, .iload_n 1, 35, [], none), (35, .bipush (-2), 37, [], none), (37, .iastore, 38, [20], none), (38, .iinc 1 1, 41, [], none), (41, .goto (-17), 44, [24], none)] (24, .iload_n 1, 25, [], some [0, 1]) (by decide +kernel) _ _ _).trans rfl
theorem B_X12_begins_24 (d : Nat) (S : mS) (I : mI) (L : mJ) (l0 : Nat) (l1 : Int32) :
  evk zcod none d zc_X12_begins 24 [(0, .ref l0), (1, .int l1)] [] (S, I, L) =
  if (nI 40) ≤ l1 then
 evk zcod none d zc_X12_begins 44 [(0, .ref l0)] [] (S, I, L)
 else
 if kK S l0 = 12 then
 (if kK S (kR S l0 53) = 20 ∧ zin l1 (kN S (kR S l0 53)) then
 (evk zcod none d zc_X12_begins 24 [(0, .ref l0), (1, .int (l1 + (nI 1)))] [] (S, (uI I (kR S l0 53) (zix l1) (-2 : Int32)), L)) else none) else none := by
  simpa only [cvN] using R_X12_begins_24 d S I L l0 l1
set_option maxRecDepth 20000 in
set_option maxHeartbeats 4000000 in
theorem B_X12_begins_44 (d : Nat) (S : mS) (I : mI) (L : mJ) (l0 : Nat) :
  evk zcod none d zc_X12_begins 44 [(0, .ref l0)] [] (S, I, L) =
  evk zcod none d zc_X12_begins 46 [(0, .ref l0), (1, .int (nI 0))] [] (S, I, L) :=
  (blk_ok zcod none d zc_X12_begins [(45, .istore_n 1, 46, [], none)] (44, .iconst 0, 45, [], some [0]) (by decide +kernel) _ _ _).trans rfl
set_option maxRecDepth 20000 in
set_option maxHeartbeats 4000000 in
theorem B_X12_begins_46 (d : Nat) (S : mS) (I : mI) (L : mJ) (l0 : Nat) (l1 : Int32) :
  evk zcod none d zc_X12_begins 46 [(0, .ref l0), (1, .int l1)] [] (S, I, L) =
  if kK S l0 = 12 then
 (if kK S l0 = 12 then
 (if kK S (kR S l0 22) = 20 ∧ zin (I l0 18) (kN S (kR S l0 22)) then
 (if (I (kR S l0 22) (zix (I l0 18))) ≤ l1 then
 evk zcod none d zc_X12_begins 85 [(0, .ref l0)] [] (S, I, L)
 else
 if kK S l0 = 12 then
 (if kK S l0 = 12 then
 (if kK S l0 = 12 then
 (if kK S (kR S l0 23) = 20 ∧ zin (((nI 7) * (I l0 18)) + l1) (kN S (kR S l0 23)) then
 (if kK S (kR S l0 53) = 20 ∧ zin l1 (kN S (kR S l0 53)) then
 (evk zcod none d zc_X12_begins 46 [(0, .ref l0), (1, .int (l1 + (nI 1)))] [] (S, (uI I (kR S l0 53) (zix l1) (I (kR S l0 23) (zix (((nI 7) * (I l0 18)) + l1)))), L)) else none) else none) else none) else none) else none) else none) else none) else none :=
  (blk_ok zcod none d zc_X12_begins [(47, .aload_n 0, 48, [], none), (48, .getfield 43, 51, [12, 22, 2, 614, 0], none), (51, .aload_n 0, 52, [], none), (52, .getfield 257, 55, [12, 18, 0, 711, 0], none), (55, .iaload, 56, [20], none), (56, .if_icmp .ge 29, 59, [85], none), (59, .aload_n 0, 60, [], none), (60, .getfield 125, 63, [12, 53, 2, 642, 0], none), (63, .iload_n 1, 64, [], none), (64, .aload_n 0, 65, [], none), (65, .getfield 46, 68, [12, 23, 2, 615, 0], none), (68, .bipush 7, 70, [], none), (70, .aload_n 0, 71, [], none), (71, .getfield 257, 74, [12, 18, 0, 711, 0], none), (74, .imul, 75, [], none), (75, .iload_n 1, 76, [], none), (76, .iadd, 77, [], none), (77, .iaload, 78, [20], none), (78, .iastore, 79, [20], none), (79, .iinc 1 1, 82, [], none), (82, .goto (-36), 85, [46], none)] (46, .iload_n 1, 47, [], some [0, 1]) (by decide +kernel) _ _ _).trans rfl
set_option maxRecDepth 20000 in
set_option maxHeartbeats 4000000 in
theorem B_X12_begins_85 (d : Nat) (S : mS) (I : mI) (L : mJ) (l0 : Nat) :
  evk zcod none d zc_X12_begins 85 [(0, .ref l0)] [] (S, I, L) =
  evk zcod none d zc_X12_begins 87 [(0, .ref l0), (1, .int (nI 0))] [] (S, I, L) :=
  (blk_ok zcod none d zc_X12_begins [(86, .istore_n 1, 87, [], none)] (85, .iconst 0, 86, [], some [0]) (by decide +kernel) _ _ _).trans rfl
set_option maxRecDepth 20000 in
set_option maxHeartbeats 4000000 in
theorem B_X12_begins_87 (d : Nat) (S : mS) (I : mI) (L : mJ) (l0 : Nat) (l1 : Int32) :
  evk zcod none d zc_X12_begins 87 [(0, .ref l0), (1, .int l1)] [] (S, I, L) =
  if kK S l0 = 12 then
 (if kK S l0 = 12 then
 (if kK S (kR S l0 26) = 20 ∧ zin (I l0 18) (kN S (kR S l0 26)) then
 (if (I (kR S l0 26) (zix (I l0 18))) ≤ l1 then
 evk zcod none d zc_X12_begins 128 [(0, .ref l0)] [] (S, I, L)
 else
 if kK S l0 = 12 then
 (if kK S l0 = 12 then
 (if kK S l0 = 12 then
 (if kK S (kR S l0 28) = 20 ∧ zin (((nI 5) * (I l0 18)) + l1) (kN S (kR S l0 28)) then
 (if kK S (kR S l0 53) = 20 ∧ zin ((nI 40) + l1) (kN S (kR S l0 53)) then
 (evk zcod none d zc_X12_begins 87 [(0, .ref l0), (1, .int (l1 + (nI 1)))] [] (S, (uI I (kR S l0 53) (zix ((nI 40) + l1)) (I (kR S l0 28) (zix (((nI 5) * (I l0 18)) + l1)))), L)) else none) else none) else none) else none) else none) else none) else none) else none :=
  (blk_ok zcod none d zc_X12_begins [(88, .aload_n 0, 89, [], none), (89, .getfield 55, 92, [12, 26, 2, 618, 0], none), (92, .aload_n 0, 93, [], none), (93, .getfield 257, 96, [12, 18, 0, 711, 0], none), (96, .iaload, 97, [20], none), (97, .if_icmp .ge 31, 100, [128], none), (100, .aload_n 0, 101, [], none), (101, .getfield 125, 104, [12, 53, 2, 642, 0], none), (104, .bipush 40, 106, [], none), (106, .iload_n 1, 107, [], none), (107, .iadd, 108, [], none), (108, .aload_n 0, 109, [], none), (109, .getfield 61, 112, [12, 28, 2, 620, 0], none), (112, .iconst 5, 113, [], none), (113, .aload_n 0, 114, [], none), (114, .getfield 257, 117, [12, 18, 0, 711, 0], none), (117, .imul, 118, [], none), (118, .iload_n 1, 119, [], none), (119, .iadd, 120, [], none), (120, .iaload, 121, [20], none), (121, .iastore, 122, [20], none), (122, .iinc 1 1, 125, [], none), (125, .goto (-38), 128, [87], none)] (87, .iload_n 1, 88, [], some [0, 1]) (by decide +kernel) _ _ _).trans rfl
set_option maxRecDepth 20000 in
set_option maxHeartbeats 4000000 in
theorem B_X12_begins_128 (d : Nat) (S : mS) (I : mI) (L : mJ) (l0 : Nat) :
  evk zcod none d zc_X12_begins 128 [(0, .ref l0)] [] (S, I, L) =
  evk zcod none d zc_X12_begins 130 [(0, .ref l0), (1, .int (nI 0))] [] (S, I, L) :=
  (blk_ok zcod none d zc_X12_begins [(129, .istore_n 1, 130, [], none)] (128, .iconst 0, 129, [], some [0]) (by decide +kernel) _ _ _).trans rfl
set_option maxRecDepth 20000 in
set_option maxHeartbeats 4000000 in
theorem B_X12_begins_130 (d : Nat) (S : mS) (I : mI) (L : mJ) (l0 : Nat) (l1 : Int32) :
  evk zcod none d zc_X12_begins 130 [(0, .ref l0), (1, .int l1)] [] (S, I, L) =
  if kK S l0 = 12 then
 (if kK S l0 = 12 then
 (if kK S (kR S l0 29) = 20 ∧ zin (I l0 18) (kN S (kR S l0 29)) then
 (if (I (kR S l0 29) (zix (I l0 18))) ≤ l1 then
 evk zcod none d zc_X12_begins 171 [(0, .ref l0)] [] (S, I, L)
 else
 if kK S l0 = 12 then
 (if kK S l0 = 12 then
 (if kK S l0 = 12 then
 (if kK S (kR S l0 30) = 20 ∧ zin (((nI 5) * (I l0 18)) + l1) (kN S (kR S l0 30)) then
 (if kK S (kR S l0 53) = 20 ∧ zin ((nI 50) + l1) (kN S (kR S l0 53)) then
 (evk zcod none d zc_X12_begins 130 [(0, .ref l0), (1, .int (l1 + (nI 1)))] [] (S, (uI I (kR S l0 53) (zix ((nI 50) + l1)) (I (kR S l0 30) (zix (((nI 5) * (I l0 18)) + l1)))), L)) else none) else none) else none) else none) else none) else none) else none) else none :=
  (blk_ok zcod none d zc_X12_begins [(131, .aload_n 0, 132, [], none), (132, .getfield 64, 135, [12, 29, 2, 621, 0], none), (135, .aload_n 0, 136, [], none), (136, .getfield 257, 139, [12, 18, 0, 711, 0], none), (139, .iaload, 140, [20], none), (140, .if_icmp .ge 31, 143, [171], none), (143, .aload_n 0, 144, [], none), (144, .getfield 125, 147, [12, 53, 2, 642, 0], none), (147, .bipush 50, 149, [], none), (149, .iload_n 1, 150, [], none), (150, .iadd, 151, [], none), (151, .aload_n 0, 152, [], none), (152, .getfield 67, 155, [12, 30, 2, 622, 0], none), (155, .iconst 5, 156, [], none), (156, .aload_n 0, 157, [], none), (157, .getfield 257, 160, [12, 18, 0, 711, 0], none), (160, .imul, 161, [], none), (161, .iload_n 1, 162, [], none), (162, .iadd, 163, [], none), (163, .iaload, 164, [20], none), (164, .iastore, 165, [20], none), (165, .iinc 1 1, 168, [], none), (168, .goto (-38), 171, [130], none)] (130, .iload_n 1, 131, [], some [0, 1]) (by decide +kernel) _ _ _).trans rfl
set_option maxRecDepth 20000 in
set_option maxHeartbeats 4000000 in
theorem B_X12_begins_171 (d : Nat) (S : mS) (I : mI) (L : mJ) (l0 : Nat) :
  evk zcod none d zc_X12_begins 171 [(0, .ref l0)] [] (S, I, L) =
  if kK S l0 = 12 then
 (if kK S l0 = 12 then
 (if kK S (kR S l0 35) = 20 ∧ zin (I l0 18) (kN S (kR S l0 35)) then
 (if kK S l0 = 12 then
 (some (none, (S, (uI I l0 54 (I (kR S l0 35) (zix (I l0 18)))), L))) else none) else none) else none) else none :=
  (blk_ok zcod none d zc_X12_begins [(172, .aload_n 0, 173, [], none), (173, .getfield 82, 176, [12, 35, 2, 627, 0], none), (176, .aload_n 0, 177, [], none), (177, .getfield 257, 180, [12, 18, 0, 711, 0], none), (180, .iaload, 181, [20], none), (181, .putfield 344, 184, [12, 54, 0, 773, 0, 0], none), (184, .return_, 185, [], none)] (171, .aload_n 0, 172, [], some [0]) (by decide +kernel) _ _ _).trans rfl
theorem E_X12_keepsRow (d : Nat) (M : zM) (l0 : Nat) : evM zcod (d + 1) 199 [.ref l0] M = evk zcod none d zc_X12_keepsRow 0 [(0, .ref l0)] [] M := evM_eq zcod d 199 _ M (Nat.le_of_ble_eq_true rfl)
set_option maxRecDepth 20000 in
set_option maxHeartbeats 4000000 in
theorem B_X12_keepsRow_0 (d : Nat) (S : mS) (I : mI) (L : mJ) (l0 : Nat) :
  evk zcod none d zc_X12_keepsRow 0 [(0, .ref l0)] [] (S, I, L) =
  evk zcod none d zc_X12_keepsRow 2 [(0, .ref l0), (1, .int (nI 0))] [] (S, I, L) :=
  (blk_ok zcod none d zc_X12_keepsRow [(1, .istore_n 1, 2, [], none)] (0, .iconst 0, 1, [], none) (by decide +kernel) _ _ _).trans rfl
set_option maxRecDepth 20000 in
set_option maxHeartbeats 4000000 in
theorem B_X12_keepsRow_2 (d : Nat) (S : mS) (I : mI) (L : mJ) (l0 : Nat) (l1 : Int32) :
  evk zcod none d zc_X12_keepsRow 2 [(0, .ref l0), (1, .int l1)] [] (S, I, L) =
  if (nI 58) ≤ l1 then
 evk zcod none d zc_X12_keepsRow 26 [] [] (S, I, L)
 else
 if kK S l0 = 12 then
 (if kK S l0 = 12 then
 (if kK S (kR S l0 53) = 20 ∧ zin l1 (kN S (kR S l0 53)) then
 (if kK S (kR S l0 52) = 20 ∧ zin l1 (kN S (kR S l0 52)) then
 (evk zcod none d zc_X12_keepsRow 2 [(0, .ref l0), (1, .int (l1 + (nI 1)))] [] (S, (uI I (kR S l0 52) (zix l1) (I (kR S l0 53) (zix l1))), L)) else none) else none) else none) else none :=
  (blk_ok zcod none d zc_X12_keepsRow [(3, .bipush 58, 5, [], none), (5, .if_icmp .ge 21, 8, [26], none), (8, .aload_n 0, 9, [], none), (9, .getfield 122, 12, [12, 52, 2, 641, 0], none), (12, .iload_n 1, 13, [], none), (13, .aload_n 0, 14, [], none), (14, .getfield 125, 17, [12, 53, 2, 642, 0], none), (17, .iload_n 1, 18, [], none), (18, .iaload, 19, [20], none), (19, .iastore, 20, [20], none), (20, .iinc 1 1, 23, [], none), (23, .goto (-21), 26, [2], none)] (2, .iload_n 1, 3, [], some [0, 1]) (by decide +kernel) _ _ _).trans rfl
set_option maxRecDepth 20000 in
set_option maxHeartbeats 4000000 in
theorem B_X12_keepsRow_26 (d : Nat) (S : mS) (I : mI) (L : mJ)  :
  evk zcod none d zc_X12_keepsRow 26 [] [] (S, I, L) =
  some (none, (S, I, L)) :=
  (blk_ok zcod none d zc_X12_keepsRow [] (26, .return_, 27, [], some []) (by decide +kernel) _ _ _).trans rfl
