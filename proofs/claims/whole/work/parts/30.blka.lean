/-! block equations over (S, I, L), a -/
theorem E_X9_size (d : Nat) (M : zM) (l0 : Nat) : evM zcod (d + 1) 1 [.ref l0] M = evk zcod none d zc_X9_size 0 [(0, .ref l0)] [] M := evM_eq zcod d 1 _ M (Nat.le_of_ble_eq_true rfl)
theorem B_X9_size_0 (d : Nat) (S : mS) (I : mI) (L : mJ) (l0 : Nat) :
  evk zcod none d zc_X9_size 0 [(0, .ref l0)] [] (S, I, L) =
  if kK S l0 = 9 then
 (some (some (.int (I l0 3)), (S, I, L))) else none :=
  (blk_ok zcod none d zc_X9_size [(1, .getfield 22, 4, [9, 3, 0, 7, 0], none), (4, .ireturn, 5, [0], none)] (0, .aload_n 0, 1, [], none) (by decide +kernel) _ _ _).trans rfl
theorem E_X9_has (d : Nat) (M : zM) (l0 : Nat) (l1 : Int32) : evM zcod (d + 1) 2 [.ref l0, .int l1] M = evk zcod none d zc_X9_has 0 [(0, .ref l0), (1, .int l1)] [] M := evM_eq zcod d 2 _ M (Nat.le_of_ble_eq_true rfl)
theorem B_X9_has_0 (d : Nat) (S : mS) (I : mI) (L : mJ) (l0 : Nat) (l1 : Int32) :
  evk zcod none d zc_X9_has 0 [(0, .ref l0), (1, .int l1)] [] (S, I, L) =
  if l1 < (nI 0) then
 evk zcod none d zc_X9_has 16 [] [] (S, I, L)
 else
 if kK S l0 = 9 then
 (if (I l0 3) ≤ l1 then
 evk zcod none d zc_X9_has 16 [] [] (S, I, L)
 else
 evk zcod none d zc_X9_has 17 [] [.int (nI 1)] (S, I, L)) else none :=
  (blk_ok zcod none d zc_X9_has [(1, .ifCond .lt 15, 4, [16], none), (4, .iload_n 1, 5, [], none), (5, .aload_n 0, 6, [], none), (6, .getfield 22, 9, [9, 3, 0, 7, 0], none), (9, .if_icmp .ge 7, 12, [16], none), (12, .iconst 1, 13, [], none), (13, .goto 4, 16, [17], none)] (0, .iload_n 1, 1, [], none) (by decide +kernel) _ _ _).trans rfl
theorem B_X9_has_16 (d : Nat) (S : mS) (I : mI) (L : mJ)  :
  evk zcod none d zc_X9_has 16 [] [] (S, I, L) =
  evk zcod none d zc_X9_has 17 [] [.int (nI 0)] (S, I, L) :=
  (blk_ok zcod none d zc_X9_has [] (16, .iconst 0, 17, [], some []) (by decide +kernel) _ _ _).trans rfl
theorem B_X9_has_17 (d : Nat) (S : mS) (I : mI) (L : mJ) (s0 : Int32) :
  evk zcod none d zc_X9_has 17 [] [.int s0] (S, I, L) =
  if s0 = nI 0 ∨ s0 = nI 1 then some (some (.int s0), (S, I, L)) else none :=
  (blk_ok zcod none d zc_X9_has [] (17, .ireturn, 18, [1], some []) (by decide +kernel) _ _ _).trans rfl
theorem E_X9_isFull (d : Nat) (M : zM) (l0 : Nat) : evM zcod (d + 1) 3 [.ref l0] M = evk zcod none d zc_X9_isFull 0 [(0, .ref l0)] [] M := evM_eq zcod d 3 _ M (Nat.le_of_ble_eq_true rfl)
theorem B_X9_isFull_0 (d : Nat) (S : mS) (I : mI) (L : mJ) (l0 : Nat) :
  evk zcod none d zc_X9_isFull 0 [(0, .ref l0)] [] (S, I, L) =
  if kK S l0 = 9 then
 (if kK S l0 = 9 then
 (if (I l0 3) < (I l0 0) then
 evk zcod none d zc_X9_isFull 15 [] [] (S, I, L)
 else
 evk zcod none d zc_X9_isFull 16 [] [.int (nI 1)] (S, I, L)) else none) else none :=
  (blk_ok zcod none d zc_X9_isFull [(1, .getfield 22, 4, [9, 3, 0, 7, 0], none), (4, .aload_n 0, 5, [], none), (5, .getfield 9, 8, [9, 0, 0, 3, 0], none), (8, .if_icmp .lt 7, 11, [15], none), (11, .iconst 1, 12, [], none), (12, .goto 4, 15, [16], none)] (0, .aload_n 0, 1, [], none) (by decide +kernel) _ _ _).trans rfl
theorem B_X9_isFull_15 (d : Nat) (S : mS) (I : mI) (L : mJ)  :
  evk zcod none d zc_X9_isFull 15 [] [] (S, I, L) =
  evk zcod none d zc_X9_isFull 16 [] [.int (nI 0)] (S, I, L) :=
  (blk_ok zcod none d zc_X9_isFull [] (15, .iconst 0, 16, [], some []) (by decide +kernel) _ _ _).trans rfl
theorem B_X9_isFull_16 (d : Nat) (S : mS) (I : mI) (L : mJ) (s0 : Int32) :
  evk zcod none d zc_X9_isFull 16 [] [.int s0] (S, I, L) =
  if s0 = nI 0 ∨ s0 = nI 1 then some (some (.int s0), (S, I, L)) else none :=
  (blk_ok zcod none d zc_X9_isFull [] (16, .ireturn, 17, [1], some []) (by decide +kernel) _ _ _).trans rfl
theorem E_X9_clear (d : Nat) (M : zM) (l0 : Nat) : evM zcod (d + 1) 4 [.ref l0] M = evk zcod none d zc_X9_clear 0 [(0, .ref l0)] [] M := evM_eq zcod d 4 _ M (Nat.le_of_ble_eq_true rfl)
theorem B_X9_clear_0 (d : Nat) (S : mS) (I : mI) (L : mJ) (l0 : Nat) :
  evk zcod none d zc_X9_clear 0 [(0, .ref l0)] [] (S, I, L) =
  if kK S l0 = 9 then
 (some (none, (S, (uI I l0 3 (nI 0)), L))) else none :=
  (blk_ok zcod none d zc_X9_clear [(1, .iconst 0, 2, [], none), (2, .putfield 22, 5, [9, 3, 0, 7, 0, 0], none), (5, .return_, 6, [], none)] (0, .aload_n 0, 1, [], none) (by decide +kernel) _ _ _).trans rfl
theorem E_X9_at (d : Nat) (M : zM) (l0 : Nat) (l1 : Int32) (l2 : Int32) : evM zcod (d + 1) 5 [.ref l0, .int l1, .int l2] M = evk zcod none d zc_X9_at 0 [(0, .ref l0), (1, .int l1), (2, .int l2)] [] M := evM_eq zcod d 5 _ M (Nat.le_of_ble_eq_true rfl)
theorem B_X9_at_0 (d : Nat) (S : mS) (I : mI) (L : mJ) (l0 : Nat) (l1 : Int32) (l2 : Int32) :
  evk zcod none d zc_X9_at 0 [(0, .ref l0), (1, .int l1), (2, .int l2)] [] (S, I, L) =
  if l1 < (nI 0) then
 evk zcod none d zc_X9_at 40 [] [] (S, I, L)
 else
 if kK S l0 = 9 then
 (if (I l0 3) ≤ l1 then
 evk zcod none d zc_X9_at 40 [] [] (S, I, L)
 else
 if l2 < (nI 0) then
 evk zcod none d zc_X9_at 40 [] [] (S, I, L)
 else
 if kK S l0 = 9 then
 (if (I l0 1) ≤ l2 then
 evk zcod none d zc_X9_at 40 [] [] (S, I, L)
 else
 if kK S l0 = 9 then
 (if kK S l0 = 9 then
 (if kK S (kR S l0 2) = 20 ∧ zin ((l1 * (I l0 1)) + l2) (kN S (kR S l0 2)) then
 (evk zcod none d zc_X9_at 41 [] [.int (I (kR S l0 2) (zix ((l1 * (I l0 1)) + l2)))] (S, I, L)) else none) else none) else none) else none) else none :=
  (blk_ok zcod none d zc_X9_at [(1, .ifCond .lt 39, 4, [40], none), (4, .iload_n 1, 5, [], none), (5, .aload_n 0, 6, [], none), (6, .getfield 22, 9, [9, 3, 0, 7, 0], none), (9, .if_icmp .ge 31, 12, [40], none), (12, .iload_n 2, 13, [], none), (13, .ifCond .lt 27, 16, [40], none), (16, .iload_n 2, 17, [], none), (17, .aload_n 0, 18, [], none), (18, .getfield 15, 21, [9, 1, 0, 4, 0], none), (21, .if_icmp .ge 19, 24, [40], none), (24, .aload_n 0, 25, [], none), (25, .getfield 18, 28, [9, 2, 2, 6, 0], none), (28, .iload_n 1, 29, [], none), (29, .aload_n 0, 30, [], none), (30, .getfield 15, 33, [9, 1, 0, 4, 0], none), (33, .imul, 34, [], none), (34, .iload_n 2, 35, [], none), (35, .iadd, 36, [], none), (36, .iaload, 37, [20], none), (37, .goto 4, 40, [41], none)] (0, .iload_n 1, 1, [], none) (by decide +kernel) _ _ _).trans rfl
theorem B_X9_at_40 (d : Nat) (S : mS) (I : mI) (L : mJ)  :
  evk zcod none d zc_X9_at 40 [] [] (S, I, L) =
  evk zcod none d zc_X9_at 41 [] [.int (-1 : Int32)] (S, I, L) :=
  (blk_ok zcod none d zc_X9_at [] (40, .iconst (-1), 41, [], some []) (by decide +kernel) _ _ _).trans rfl
theorem B_X9_at_41 (d : Nat) (S : mS) (I : mI) (L : mJ) (s0 : Int32) :
  evk zcod none d zc_X9_at 41 [] [.int s0] (S, I, L) =
  some (some (.int s0), (S, I, L)) :=
  (blk_ok zcod none d zc_X9_at [] (41, .ireturn, 42, [0], some []) (by decide +kernel) _ _ _).trans rfl
theorem E_X9_put (d : Nat) (M : zM) (l0 : Nat) (l1 : Int32) (l2 : Int32) (l3 : Int32) : evM zcod (d + 1) 6 [.ref l0, .int l1, .int l2, .int l3] M = evk zcod none d zc_X9_put 0 [(0, .ref l0), (1, .int l1), (2, .int l2), (3, .int l3)] [] M := evM_eq zcod d 6 _ M (Nat.le_of_ble_eq_true rfl)
theorem B_X9_put_0 (d : Nat) (S : mS) (I : mI) (L : mJ) (l0 : Nat) (l1 : Int32) (l2 : Int32) (l3 : Int32) :
  evk zcod none d zc_X9_put 0 [(0, .ref l0), (1, .int l1), (2, .int l2), (3, .int l3)] [] (S, I, L) =
  if l1 < (nI 0) then
 evk zcod none d zc_X9_put 38 [] [] (S, I, L)
 else
 if kK S l0 = 9 then
 (if (I l0 3) ≤ l1 then
 evk zcod none d zc_X9_put 38 [] [] (S, I, L)
 else
 if l2 < (nI 0) then
 evk zcod none d zc_X9_put 38 [] [] (S, I, L)
 else
 if kK S l0 = 9 then
 (if (I l0 1) ≤ l2 then
 evk zcod none d zc_X9_put 38 [] [] (S, I, L)
 else
 if kK S l0 = 9 then
 (if kK S l0 = 9 then
 (if kK S (kR S l0 2) = 20 ∧ zin ((l1 * (I l0 1)) + l2) (kN S (kR S l0 2)) then
 (evk zcod none d zc_X9_put 38 [] [] (S, (uI I (kR S l0 2) (zix ((l1 * (I l0 1)) + l2)) l3), L)) else none) else none) else none) else none) else none :=
  (blk_ok zcod none d zc_X9_put [(1, .ifCond .lt 37, 4, [38], none), (4, .iload_n 1, 5, [], none), (5, .aload_n 0, 6, [], none), (6, .getfield 22, 9, [9, 3, 0, 7, 0], none), (9, .if_icmp .ge 29, 12, [38], none), (12, .iload_n 2, 13, [], none), (13, .ifCond .lt 25, 16, [38], none), (16, .iload_n 2, 17, [], none), (17, .aload_n 0, 18, [], none), (18, .getfield 15, 21, [9, 1, 0, 4, 0], none), (21, .if_icmp .ge 17, 24, [38], none), (24, .aload_n 0, 25, [], none), (25, .getfield 18, 28, [9, 2, 2, 6, 0], none), (28, .iload_n 1, 29, [], none), (29, .aload_n 0, 30, [], none), (30, .getfield 15, 33, [9, 1, 0, 4, 0], none), (33, .imul, 34, [], none), (34, .iload_n 2, 35, [], none), (35, .iadd, 36, [], none), (36, .iload_n 3, 37, [], none), (37, .iastore, 38, [20], none)] (0, .iload_n 1, 1, [], none) (by decide +kernel) _ _ _).trans rfl
theorem B_X9_put_38 (d : Nat) (S : mS) (I : mI) (L : mJ)  :
  evk zcod none d zc_X9_put 38 [] [] (S, I, L) =
  some (none, (S, I, L)) :=
  (blk_ok zcod none d zc_X9_put [] (38, .return_, 39, [], some []) (by decide +kernel) _ _ _).trans rfl
theorem E_X9_add (d : Nat) (M : zM) (l0 : Nat) : evM zcod (d + 1) 7 [.ref l0] M = evk zcod none d zc_X9_add 0 [(0, .ref l0)] [] M := evM_eq zcod d 7 _ M (Nat.le_of_ble_eq_true rfl)
theorem B_X9_add_0 (d : Nat) (S : mS) (I : mI) (L : mJ) (l0 : Nat) :
  evk zcod none d zc_X9_add 0 [(0, .ref l0)] [] (S, I, L) =
  if kK S l0 = 9 then
 (bI (evM zcod d 3 [.ref l0] (S, I, L)) fun x1 M1 =>
 if M1.1.1 = S.1 then
 (if x1 = (nI 0) then
 evk zcod none d zc_X9_add 9 [(0, .ref l0)] [] M1
 else
 some (some (.int (-1 : Int32)), M1)) else none) else none :=
  (blk_ok zcod none d zc_X9_add [(1, .invokevirtual 25, 4, [3, 0, 1, 9, 8, 9, 10, 11], none), (4, .ifCond .eq 5, 7, [9], none), (7, .iconst (-1), 8, [], none), (8, .ireturn, 9, [0], none)] (0, .aload_n 0, 1, [], none) (by decide +kernel) _ _ _).trans rfl
theorem B_X9_add_9 (d : Nat) (S : mS) (I : mI) (L : mJ) (l0 : Nat) :
  evk zcod none d zc_X9_add 9 [(0, .ref l0)] [] (S, I, L) =
  if kK S l0 = 9 then
 (if kK S l0 = 9 then
 (evk zcod none d zc_X9_add 21 [(0, .ref l0), (1, .int (nI 0))] [] (S, (uI I l0 3 ((I l0 3) + (nI 1))), L)) else none) else none :=
  (blk_ok zcod none d zc_X9_add [(10, .dup, 11, [], none), (11, .getfield 22, 14, [9, 3, 0, 7, 0], none), (14, .iconst 1, 15, [], none), (15, .iadd, 16, [], none), (16, .putfield 22, 19, [9, 3, 0, 7, 0, 0], none), (19, .iconst 0, 20, [], none), (20, .istore_n 1, 21, [], none)] (9, .aload_n 0, 10, [], some [0]) (by decide +kernel) _ _ _).trans rfl
theorem B_X9_add_21 (d : Nat) (S : mS) (I : mI) (L : mJ) (l0 : Nat) (l1 : Int32) :
  evk zcod none d zc_X9_add 21 [(0, .ref l0), (1, .int l1)] [] (S, I, L) =
  if kK S l0 = 9 then
 (if (I l0 1) ≤ l1 then
 evk zcod none d zc_X9_add 47 [(0, .ref l0)] [] (S, I, L)
 else
 if kK S l0 = 9 then
 (if kK S l0 = 9 then
 (bV (evM zcod d 6 [.ref l0, .int ((I l0 3) - (nI 1)), .int l1, .int (nI 0)] (S, I, L)) fun M1 =>
 if M1.1.1 = S.1 then
 (evk zcod none d zc_X9_add 21 [(0, .ref l0), (1, .int (l1 + (nI 1)))] [] M1) else none) else none) else none) else none :=
  (blk_ok zcod none d zc_X9_add [(22, .aload_n 0, 23, [], none), (23, .getfield 15, 26, [9, 1, 0, 4, 0], none), (26, .if_icmp .ge 21, 29, [47], none), (29, .aload_n 0, 30, [], none), (30, .aload_n 0, 31, [], none), (31, .getfield 22, 34, [9, 3, 0, 7, 0], none), (34, .iconst 1, 35, [], none), (35, .isub, 36, [], none), (36, .iload_n 1, 37, [], none), (37, .iconst 0, 38, [], none), (38, .invokevirtual 29, 41, [6, 3, 0, 9, 12, 13, 14, 11], none), (41, .iinc 1 1, 44, [], none), (44, .goto (-23), 47, [21], none)] (21, .iload_n 1, 22, [], some [0, 1]) (by decide +kernel) _ _ _).trans rfl
theorem B_X9_add_47 (d : Nat) (S : mS) (I : mI) (L : mJ) (l0 : Nat) :
  evk zcod none d zc_X9_add 47 [(0, .ref l0)] [] (S, I, L) =
  if kK S l0 = 9 then
 (some (some (.int ((I l0 3) - (nI 1))), (S, I, L))) else none :=
  (blk_ok zcod none d zc_X9_add [(48, .getfield 22, 51, [9, 3, 0, 7, 0], none), (51, .iconst 1, 52, [], none), (52, .isub, 53, [], none), (53, .ireturn, 54, [0], none)] (47, .aload_n 0, 48, [], some [0]) (by decide +kernel) _ _ _).trans rfl
theorem E_X9_become (d : Nat) (M : zM) (l0 : Nat) (l1 : Nat) : evM zcod (d + 1) 8 [.ref l0, .ref l1] M = evk zcod none d zc_X9_become 0 [(0, .ref l0), (1, .ref l1)] [] M := evM_eq zcod d 8 _ M (Nat.le_of_ble_eq_true rfl)
theorem B_X9_become_0 (d : Nat) (S : mS) (I : mI) (L : mJ) (l0 : Nat) (l1 : Nat) :
  evk zcod none d zc_X9_become 0 [(0, .ref l0), (1, .ref l1)] [] (S, I, L) =
  if kK S l1 = 9 then
 (if kK S l0 = 9 then
 (if kK S l0 = 9 then
 (if kK S (kR S l0 2) = 20 then
 (if kK S l1 = 9 then
 (if kK S (kR S l1 2) = 20 then
 (bI (evM zcod d 275 [.int (nI (kN S (kR S l0 2))), .int (nI (kN S (kR S l1 2)))] (S, I, L)) fun x1 M1 =>
 if M1.1.1 = S.1 then
 (if kK M1.1 (kR S l1 2) = 20 ∧ kK M1.1 (kR S l0 2) = 20 ∧ 0 ≤ (nI 0).toInt ∧ 0 ≤ (nI 0).toInt ∧ 0 ≤ x1.toInt ∧ (nI 0).toInt + x1.toInt ≤ kN M1.1 (kR S l1 2) ∧ (nI 0).toInt + x1.toInt ≤ kN M1.1 (kR S l0 2) then
 (if kK M1.1 l0 = 9 then
 (if kK M1.1 l1 = 9 then
 (bI (evM zcod d 275 [.int ((cpI M1.2.1 (kR S l1 2) (zix (nI 0)) (kR S l0 2) (zix (nI 0)) (zix x1)) l0 0), .int ((cpI M1.2.1 (kR S l1 2) (zix (nI 0)) (kR S l0 2) (zix (nI 0)) (zix x1)) l1 3)] (M1.1, (cpI M1.2.1 (kR S l1 2) (zix (nI 0)) (kR S l0 2) (zix (nI 0)) (zix x1)), M1.2.2)) fun x2 M2 =>
 if M2.1.1 = M1.1.1 then
 (if kK M2.1 l0 = 9 then
 (evk zcod none d zc_X9_become 41 [] [] (M2.1, (uI M2.2.1 l0 3 x2), M2.2.2)) else none) else none) else none) else none) else none) else none) else none) else none) else none) else none) else none) else none :=
  (blk_ok zcod none d zc_X9_become [(1, .getfield 18, 4, [9, 2, 2, 6, 0], none), (4, .iconst 0, 5, [], none), (5, .aload_n 0, 6, [], none), (6, .getfield 18, 9, [9, 2, 2, 6, 0], none), (9, .iconst 0, 10, [], none), (10, .aload_n 0, 11, [], none), (11, .getfield 18, 14, [9, 2, 2, 6, 0], none), (14, .arraylength, 15, [20], none), (15, .aload_n 1, 16, [], none), (16, .getfield 18, 19, [9, 2, 2, 6, 0], none), (19, .arraylength, 20, [20], none), (20, .invokestatic 33, 23, [275, 2, 1, 0, 15, 16, 17], none), (23, .invokestatic 39, 26, [9999, 18, 19, 20, 21], none), (26, .aload_n 0, 27, [], none), (27, .aload_n 0, 28, [], none), (28, .getfield 9, 31, [9, 0, 0, 3, 0], none), (31, .aload_n 1, 32, [], none), (32, .getfield 22, 35, [9, 3, 0, 7, 0], none), (35, .invokestatic 33, 38, [275, 2, 1, 0, 15, 16, 17], none), (38, .putfield 22, 41, [9, 3, 0, 7, 0, 0], none)] (0, .aload_n 1, 1, [], none) (by decide +kernel) _ _ _).trans rfl
theorem B_X9_become_41 (d : Nat) (S : mS) (I : mI) (L : mJ)  :
  evk zcod none d zc_X9_become 41 [] [] (S, I, L) =
  some (none, (S, I, L)) :=
  (blk_ok zcod none d zc_X9_become [] (41, .return_, 42, [], some []) (by decide +kernel) _ _ _).trans rfl
theorem E_X3_clear (d : Nat) (M : zM) (l0 : Nat) : evM zcod (d + 1) 10 [.ref l0] M = evk zcod none d zc_X3_clear 0 [(0, .ref l0)] [] M := evM_eq zcod d 10 _ M (Nat.le_of_ble_eq_true rfl)
theorem B_X3_clear_0 (d : Nat) (S : mS) (I : mI) (L : mJ) (l0 : Nat) :
  evk zcod none d zc_X3_clear 0 [(0, .ref l0)] [] (S, I, L) =
  if kK S l0 = 3 then
 (if kK S l0 = 3 then
 (bV (evM zcod d 12 [.ref l0, .int (nI 0)] (S, (uI I l0 2 (nI 0)), L)) fun M1 =>
 if M1.1.1 = S.1 then
 (if kK M1.1 l0 = 3 then
 (bV (evM zcod d 14 [.ref l0, .int (-12 : Int32)] M1) fun M2 =>
 if M2.1.1 = M1.1.1 then
 (if kK M2.1 l0 = 3 then
 (bV (evM zcod d 14 [.ref l0, .int (-13 : Int32)] M2) fun M3 =>
 if M3.1.1 = M2.1.1 then
 (evk zcod none d zc_X3_clear 22 [(0, .ref l0)] [] M3) else none) else none) else none) else none) else none) else none) else none :=
  (blk_ok zcod none d zc_X3_clear [(1, .iconst 0, 2, [], none), (2, .putfield 18, 5, [3, 2, 0, 25, 0, 0], none), (5, .aload_n 0, 6, [], none), (6, .iconst 0, 7, [], none), (7, .invokevirtual 22, 10, [12, 1, 0, 3, 26, 27, 28, 29], none), (10, .aload_n 0, 11, [], none), (11, .bipush (-12), 13, [], none), (13, .invokevirtual 26, 16, [14, 1, 0, 3, 30, 31, 32, 29], none), (16, .aload_n 0, 17, [], none), (17, .bipush (-13), 19, [], none), (19, .invokevirtual 26, 22, [14, 1, 0, 3, 30, 31, 32, 29], none)] (0, .aload_n 0, 1, [], none) (by decide +kernel) _ _ _).trans rfl
theorem B_X3_clear_22 (d : Nat) (S : mS) (I : mI) (L : mJ) (l0 : Nat) :
  evk zcod none d zc_X3_clear 22 [(0, .ref l0)] [] (S, I, L) =
  if kK S l0 = 3 then
 (bV (evM zcod d 14 [.ref l0, .int (-2 : Int32)] (S, I, L)) fun M1 =>
 if M1.1.1 = S.1 then
 (if kK M1.1 l0 = 3 then
 (bV (evM zcod d 14 [.ref l0, .int (-6 : Int32)] M1) fun M2 =>
 if M2.1.1 = M1.1.1 then
 (if kK M2.1 l0 = 3 then
 (bV (evM zcod d 12 [.ref l0, .int (nI 1)] M2) fun M3 =>
 if M3.1.1 = M2.1.1 then
 (if kK M3.1 l0 = 3 then
 (bV (evM zcod d 14 [.ref l0, .int (nI 0)] M3) fun M4 =>
 if M4.1.1 = M3.1.1 then
 (evk zcod none d zc_X3_clear 44 [(0, .ref l0)] [] M4) else none) else none) else none) else none) else none) else none) else none) else none :=
  (blk_ok zcod none d zc_X3_clear [(23, .bipush (-2), 25, [], none), (25, .invokevirtual 26, 28, [14, 1, 0, 3, 30, 31, 32, 29], none), (28, .aload_n 0, 29, [], none), (29, .bipush (-6), 31, [], none), (31, .invokevirtual 26, 34, [14, 1, 0, 3, 30, 31, 32, 29], none), (34, .aload_n 0, 35, [], none), (35, .iconst 1, 36, [], none), (36, .invokevirtual 22, 39, [12, 1, 0, 3, 26, 27, 28, 29], none), (39, .aload_n 0, 40, [], none), (40, .iconst 0, 41, [], none), (41, .invokevirtual 26, 44, [14, 1, 0, 3, 30, 31, 32, 29], none)] (22, .aload_n 0, 23, [], some [0]) (by decide +kernel) _ _ _).trans rfl
theorem B_X3_clear_44 (d : Nat) (S : mS) (I : mI) (L : mJ) (l0 : Nat) :
  evk zcod none d zc_X3_clear 44 [(0, .ref l0)] [] (S, I, L) =
  if kK S l0 = 3 then
 (bV (evM zcod d 14 [.ref l0, .int (-6 : Int32)] (S, I, L)) fun M1 =>
 if M1.1.1 = S.1 then
 (if kK M1.1 l0 = 3 then
 (bV (evM zcod d 12 [.ref l0, .int (nI 2)] M1) fun M2 =>
 if M2.1.1 = M1.1.1 then
 (if kK M2.1 l0 = 3 then
 (bV (evM zcod d 14 [.ref l0, .int (-13 : Int32)] M2) fun M3 =>
 if M3.1.1 = M2.1.1 then
 (if kK M3.1 l0 = 3 then
 (bV (evM zcod d 14 [.ref l0, .int (-6 : Int32)] M3) fun M4 =>
 if M4.1.1 = M3.1.1 then
 (evk zcod none d zc_X3_clear 67 [(0, .ref l0)] [] M4) else none) else none) else none) else none) else none) else none) else none) else none :=
  (blk_ok zcod none d zc_X3_clear [(45, .bipush (-6), 47, [], none), (47, .invokevirtual 26, 50, [14, 1, 0, 3, 30, 31, 32, 29], none), (50, .aload_n 0, 51, [], none), (51, .iconst 2, 52, [], none), (52, .invokevirtual 22, 55, [12, 1, 0, 3, 26, 27, 28, 29], none), (55, .aload_n 0, 56, [], none), (56, .bipush (-13), 58, [], none), (58, .invokevirtual 26, 61, [14, 1, 0, 3, 30, 31, 32, 29], none), (61, .aload_n 0, 62, [], none), (62, .bipush (-6), 64, [], none), (64, .invokevirtual 26, 67, [14, 1, 0, 3, 30, 31, 32, 29], none)] (44, .aload_n 0, 45, [], some [0]) (by decide +kernel) _ _ _).trans rfl
theorem B_X3_clear_67 (d : Nat) (S : mS) (I : mI) (L : mJ) (l0 : Nat) :
  evk zcod none d zc_X3_clear 67 [(0, .ref l0)] [] (S, I, L) =
  if kK S l0 = 3 then
 (bV (evM zcod d 12 [.ref l0, .int (nI 3)] (S, I, L)) fun M1 =>
 if M1.1.1 = S.1 then
 (if kK M1.1 l0 = 3 then
 (bV (evM zcod d 14 [.ref l0, .int (-16 : Int32)] M1) fun M2 =>
 if M2.1.1 = M1.1.1 then
 (if kK M2.1 l0 = 3 then
 (bV (evM zcod d 14 [.ref l0, .int (-6 : Int32)] M2) fun M3 =>
 if M3.1.1 = M2.1.1 then
 (some (none, M3)) else none) else none) else none) else none) else none) else none :=
  (blk_ok zcod none d zc_X3_clear [(68, .iconst 3, 69, [], none), (69, .invokevirtual 22, 72, [12, 1, 0, 3, 26, 27, 28, 29], none), (72, .aload_n 0, 73, [], none), (73, .bipush (-16), 75, [], none), (75, .invokevirtual 26, 78, [14, 1, 0, 3, 30, 31, 32, 29], none), (78, .aload_n 0, 79, [], none), (79, .bipush (-6), 81, [], none), (81, .invokevirtual 26, 84, [14, 1, 0, 3, 30, 31, 32, 29], none), (84, .return_, 85, [], none)] (67, .aload_n 0, 68, [], some [0]) (by decide +kernel) _ _ _).trans rfl
theorem E_X3_become (d : Nat) (M : zM) (l0 : Nat) (l1 : Nat) : evM zcod (d + 1) 11 [.ref l0, .ref l1] M = evk zcod none d zc_X3_become 0 [(0, .ref l0), (1, .ref l1)] [] M := evM_eq zcod d 11 _ M (Nat.le_of_ble_eq_true rfl)
theorem B_X3_become_0 (d : Nat) (S : mS) (I : mI) (L : mJ) (l0 : Nat) (l1 : Nat) :
  evk zcod none d zc_X3_become 0 [(0, .ref l0), (1, .ref l1)] [] (S, I, L) =
  if kK S l1 = 3 then
 (if kK S l0 = 3 then
 (if kK S l0 = 3 then
 (if kK S (kR S l0 0) = 20 then
 (if kK S (kR S l1 0) = 20 ∧ kK S (kR S l0 0) = 20 ∧ 0 ≤ (nI 0).toInt ∧ 0 ≤ (nI 0).toInt ∧ 0 ≤ (nI (kN S (kR S l0 0))).toInt ∧ (nI 0).toInt + (nI (kN S (kR S l0 0))).toInt ≤ kN S (kR S l1 0) ∧ (nI 0).toInt + (nI (kN S (kR S l0 0))).toInt ≤ kN S (kR S l0 0) then
 (if kK S l1 = 3 then
 (if kK S l0 = 3 then
 (if kK S l0 = 3 then
 (if kK S (kR S l0 1) = 20 then
 (if kK S (kR S l1 1) = 20 ∧ kK S (kR S l0 1) = 20 ∧ 0 ≤ (nI 0).toInt ∧ 0 ≤ (nI 0).toInt ∧ 0 ≤ (nI (kN S (kR S l0 1))).toInt ∧ (nI 0).toInt + (nI (kN S (kR S l0 1))).toInt ≤ kN S (kR S l1 1) ∧ (nI 0).toInt + (nI (kN S (kR S l0 1))).toInt ≤ kN S (kR S l0 1) then
 (if kK S l1 = 3 then
 (if kK S l0 = 3 then
 (some (none, (S, (uI (cpI (cpI I (kR S l1 0) (zix (nI 0)) (kR S l0 0) (zix (nI 0)) (zix (nI (kN S (kR S l0 0))))) (kR S l1 1) (zix (nI 0)) (kR S l0 1) (zix (nI 0)) (zix (nI (kN S (kR S l0 1))))) l0 2 ((cpI (cpI I (kR S l1 0) (zix (nI 0)) (kR S l0 0) (zix (nI 0)) (zix (nI (kN S (kR S l0 0))))) (kR S l1 1) (zix (nI 0)) (kR S l0 1) (zix (nI 0)) (zix (nI (kN S (kR S l0 1))))) l1 2)), L))) else none) else none) else none) else none) else none) else none) else none) else none) else none) else none) else none) else none :=
  (blk_ok zcod none d zc_X3_become [(1, .getfield 11, 4, [3, 0, 2, 23, 0], none), (4, .iconst 0, 5, [], none), (5, .aload_n 0, 6, [], none), (6, .getfield 11, 9, [3, 0, 2, 23, 0], none), (9, .iconst 0, 10, [], none), (10, .aload_n 0, 11, [], none), (11, .getfield 11, 14, [3, 0, 2, 23, 0], none), (14, .arraylength, 15, [20], none), (15, .invokestatic 29, 18, [9999, 33, 19, 20, 21], none), (18, .aload_n 1, 19, [], none), (19, .getfield 15, 22, [3, 1, 2, 24, 0], none), (22, .iconst 0, 23, [], none), (23, .aload_n 0, 24, [], none), (24, .getfield 15, 27, [3, 1, 2, 24, 0], none), (27, .iconst 0, 28, [], none), (28, .aload_n 0, 29, [], none), (29, .getfield 15, 32, [3, 1, 2, 24, 0], none), (32, .arraylength, 33, [20], none), (33, .invokestatic 29, 36, [9999, 33, 19, 20, 21], none), (36, .aload_n 0, 37, [], none), (37, .aload_n 1, 38, [], none), (38, .getfield 18, 41, [3, 2, 0, 25, 0], none), (41, .putfield 18, 44, [3, 2, 0, 25, 0, 0], none), (44, .return_, 45, [], none)] (0, .aload_n 1, 1, [], none) (by decide +kernel) _ _ _).trans rfl
theorem E_X3_begin (d : Nat) (M : zM) (l0 : Nat) (l1 : Int32) : evM zcod (d + 1) 12 [.ref l0, .int l1] M = evk zcod none d zc_X3_begin 0 [(0, .ref l0), (1, .int l1)] [] M := evM_eq zcod d 12 _ M (Nat.le_of_ble_eq_true rfl)
theorem B_X3_begin_0 (d : Nat) (S : mS) (I : mI) (L : mJ) (l0 : Nat) (l1 : Int32) :
  evk zcod none d zc_X3_begin 0 [(0, .ref l0), (1, .int l1)] [] (S, I, L) =
  if l1 < (nI 0) then
 evk zcod none d zc_X3_begin 23 [] [] (S, I, L)
 else
 if kK S l0 = 3 then
 (if kK S (kR S l0 1) = 20 then
 (if (nI (kN S (kR S l0 1))) ≤ l1 then
 evk zcod none d zc_X3_begin 23 [] [] (S, I, L)
 else
 if kK S l0 = 3 then
 (if kK S l0 = 3 then
 (if kK S (kR S l0 1) = 20 ∧ zin l1 (kN S (kR S l0 1)) then
 (evk zcod none d zc_X3_begin 23 [] [] (S, (uI I (kR S l0 1) (zix l1) (I l0 2)), L)) else none) else none) else none) else none) else none :=
  (blk_ok zcod none d zc_X3_begin [(1, .ifCond .lt 22, 4, [23], none), (4, .iload_n 1, 5, [], none), (5, .aload_n 0, 6, [], none), (6, .getfield 15, 9, [3, 1, 2, 24, 0], none), (9, .arraylength, 10, [20], none), (10, .if_icmp .ge 13, 13, [23], none), (13, .aload_n 0, 14, [], none), (14, .getfield 15, 17, [3, 1, 2, 24, 0], none), (17, .iload_n 1, 18, [], none), (18, .aload_n 0, 19, [], none), (19, .getfield 18, 22, [3, 2, 0, 25, 0], none), (22, .iastore, 23, [20], none)] (0, .iload_n 1, 1, [], none) (by decide +kernel) _ _ _).trans rfl
theorem B_X3_begin_23 (d : Nat) (S : mS) (I : mI) (L : mJ)  :
  evk zcod none d zc_X3_begin 23 [] [] (S, I, L) =
  some (none, (S, I, L)) :=
  (blk_ok zcod none d zc_X3_begin [] (23, .return_, 24, [], some []) (by decide +kernel) _ _ _).trans rfl
theorem E_X3_startOf (d : Nat) (M : zM) (l0 : Nat) (l1 : Int32) : evM zcod (d + 1) 13 [.ref l0, .int l1] M = evk zcod none d zc_X3_startOf 0 [(0, .ref l0), (1, .int l1)] [] M := evM_eq zcod d 13 _ M (Nat.le_of_ble_eq_true rfl)
theorem B_X3_startOf_0 (d : Nat) (S : mS) (I : mI) (L : mJ) (l0 : Nat) (l1 : Int32) :
  evk zcod none d zc_X3_startOf 0 [(0, .ref l0), (1, .int l1)] [] (S, I, L) =
  if l1 < (nI 0) then
 evk zcod none d zc_X3_startOf 22 [(0, .ref l0)] [] (S, I, L)
 else
 if kK S l0 = 3 then
 (if kK S (kR S l0 1) = 20 then
 (if (nI (kN S (kR S l0 1))) ≤ l1 then
 evk zcod none d zc_X3_startOf 22 [(0, .ref l0)] [] (S, I, L)
 else
 if kK S l0 = 3 then
 (if kK S (kR S l0 1) = 20 ∧ zin l1 (kN S (kR S l0 1)) then
 (evk zcod none d zc_X3_startOf 26 [] [.int (I (kR S l0 1) (zix l1))] (S, I, L)) else none) else none) else none) else none :=
  (blk_ok zcod none d zc_X3_startOf [(1, .ifCond .lt 21, 4, [22], none), (4, .iload_n 1, 5, [], none), (5, .aload_n 0, 6, [], none), (6, .getfield 15, 9, [3, 1, 2, 24, 0], none), (9, .arraylength, 10, [20], none), (10, .if_icmp .ge 12, 13, [22], none), (13, .aload_n 0, 14, [], none), (14, .getfield 15, 17, [3, 1, 2, 24, 0], none), (17, .iload_n 1, 18, [], none), (18, .iaload, 19, [20], none), (19, .goto 7, 22, [26], none)] (0, .iload_n 1, 1, [], none) (by decide +kernel) _ _ _).trans rfl
theorem B_X3_startOf_22 (d : Nat) (S : mS) (I : mI) (L : mJ) (l0 : Nat) :
  evk zcod none d zc_X3_startOf 22 [(0, .ref l0)] [] (S, I, L) =
  if kK S l0 = 3 then
 (evk zcod none d zc_X3_startOf 26 [] [.int (I l0 2)] (S, I, L)) else none :=
  (blk_ok zcod none d zc_X3_startOf [(23, .getfield 18, 26, [3, 2, 0, 25, 0], none)] (22, .aload_n 0, 23, [], some [0]) (by decide +kernel) _ _ _).trans rfl
theorem B_X3_startOf_26 (d : Nat) (S : mS) (I : mI) (L : mJ) (s0 : Int32) :
  evk zcod none d zc_X3_startOf 26 [] [.int s0] (S, I, L) =
  some (some (.int s0), (S, I, L)) :=
  (blk_ok zcod none d zc_X3_startOf [] (26, .ireturn, 27, [0], some []) (by decide +kernel) _ _ _).trans rfl
theorem E_X3_add (d : Nat) (M : zM) (l0 : Nat) (l1 : Int32) : evM zcod (d + 1) 14 [.ref l0, .int l1] M = evk zcod none d zc_X3_add 0 [(0, .ref l0), (1, .int l1)] [] M := evM_eq zcod d 14 _ M (Nat.le_of_ble_eq_true rfl)
theorem B_X3_add_0 (d : Nat) (S : mS) (I : mI) (L : mJ) (l0 : Nat) (l1 : Int32) :
  evk zcod none d zc_X3_add 0 [(0, .ref l0), (1, .int l1)] [] (S, I, L) =
  if kK S l0 = 3 then
 (if kK S l0 = 3 then
 (if kK S (kR S l0 0) = 20 then
 (if (nI (kN S (kR S l0 0))) ≤ (I l0 2) then
 evk zcod none d zc_X3_add 32 [] [] (S, I, L)
 else
 if kK S l0 = 3 then
 (if kK S l0 = 3 then
 (if kK S (kR S l0 0) = 20 ∧ zin (I l0 2) (kN S (kR S l0 0)) then
 (if kK S l0 = 3 then
 (if kK S l0 = 3 then
 (evk zcod none d zc_X3_add 32 [] [] (S, (uI (uI I (kR S l0 0) (zix (I l0 2)) l1) l0 2 (((uI I (kR S l0 0) (zix (I l0 2)) l1) l0 2) + (nI 1))), L)) else none) else none) else none) else none) else none) else none) else none) else none :=
  (blk_ok zcod none d zc_X3_add [(1, .getfield 18, 4, [3, 2, 0, 25, 0], none), (4, .aload_n 0, 5, [], none), (5, .getfield 11, 8, [3, 0, 2, 23, 0], none), (8, .arraylength, 9, [20], none), (9, .if_icmp .ge 23, 12, [32], none), (12, .aload_n 0, 13, [], none), (13, .getfield 11, 16, [3, 0, 2, 23, 0], none), (16, .aload_n 0, 17, [], none), (17, .getfield 18, 20, [3, 2, 0, 25, 0], none), (20, .iload_n 1, 21, [], none), (21, .iastore, 22, [20], none), (22, .aload_n 0, 23, [], none), (23, .dup, 24, [], none), (24, .getfield 18, 27, [3, 2, 0, 25, 0], none), (27, .iconst 1, 28, [], none), (28, .iadd, 29, [], none), (29, .putfield 18, 32, [3, 2, 0, 25, 0, 0], none)] (0, .aload_n 0, 1, [], none) (by decide +kernel) _ _ _).trans rfl
theorem B_X3_add_32 (d : Nat) (S : mS) (I : mI) (L : mJ)  :
  evk zcod none d zc_X3_add 32 [] [] (S, I, L) =
  some (none, (S, I, L)) :=
  (blk_ok zcod none d zc_X3_add [] (32, .return_, 33, [], some []) (by decide +kernel) _ _ _).trans rfl
theorem E_X3_addLess (d : Nat) (M : zM) (l0 : Nat) : evM zcod (d + 1) 15 [.ref l0] M = evk zcod none d zc_X3_addLess 0 [(0, .ref l0)] [] M := evM_eq zcod d 15 _ M (Nat.le_of_ble_eq_true rfl)
theorem B_X3_addLess_0 (d : Nat) (S : mS) (I : mI) (L : mJ) (l0 : Nat) :
  evk zcod none d zc_X3_addLess 0 [(0, .ref l0)] [] (S, I, L) =
  if kK S l0 = 3 then
 (bV (evM zcod d 14 [.ref l0, .int (-5 : Int32)] (S, I, L)) fun M1 =>
 if M1.1.1 = S.1 then
 (if kK M1.1 l0 = 3 then
 (bV (evM zcod d 14 [.ref l0, .int (nI 0)] M1) fun M2 =>
 if M2.1.1 = M1.1.1 then
 (if kK M2.1 l0 = 3 then
 (some (some (.int ((M2.2.1 l0 2) - (nI 1))), M2)) else none) else none) else none) else none) else none :=
  (blk_ok zcod none d zc_X3_addLess [(1, .bipush (-5), 3, [], none), (3, .invokevirtual 26, 6, [14, 1, 0, 3, 30, 31, 32, 29], none), (6, .aload_n 0, 7, [], none), (7, .iconst 0, 8, [], none), (8, .invokevirtual 26, 11, [14, 1, 0, 3, 30, 31, 32, 29], none), (11, .aload_n 0, 12, [], none), (12, .getfield 18, 15, [3, 2, 0, 25, 0], none), (15, .iconst 1, 16, [], none), (16, .isub, 17, [], none), (17, .ireturn, 18, [0], none)] (0, .aload_n 0, 1, [], none) (by decide +kernel) _ _ _).trans rfl
theorem E_X3_goHereFrom (d : Nat) (M : zM) (l0 : Nat) (l1 : Int32) : evM zcod (d + 1) 16 [.ref l0, .int l1] M = evk zcod none d zc_X3_goHereFrom 0 [(0, .ref l0), (1, .int l1)] [] M := evM_eq zcod d 16 _ M (Nat.le_of_ble_eq_true rfl)
theorem B_X3_goHereFrom_0 (d : Nat) (S : mS) (I : mI) (L : mJ) (l0 : Nat) (l1 : Int32) :
  evk zcod none d zc_X3_goHereFrom 0 [(0, .ref l0), (1, .int l1)] [] (S, I, L) =
  if l1 < (nI 0) then
 evk zcod none d zc_X3_goHereFrom 22 [] [] (S, I, L)
 else
 if kK S l0 = 3 then
 (if (I l0 2) ≤ l1 then
 evk zcod none d zc_X3_goHereFrom 22 [] [] (S, I, L)
 else
 if kK S l0 = 3 then
 (if kK S l0 = 3 then
 (if kK S (kR S l0 0) = 20 ∧ zin l1 (kN S (kR S l0 0)) then
 (evk zcod none d zc_X3_goHereFrom 22 [] [] (S, (uI I (kR S l0 0) (zix l1) (I l0 2)), L)) else none) else none) else none) else none :=
  (blk_ok zcod none d zc_X3_goHereFrom [(1, .ifCond .lt 21, 4, [22], none), (4, .iload_n 1, 5, [], none), (5, .aload_n 0, 6, [], none), (6, .getfield 18, 9, [3, 2, 0, 25, 0], none), (9, .if_icmp .ge 13, 12, [22], none), (12, .aload_n 0, 13, [], none), (13, .getfield 11, 16, [3, 0, 2, 23, 0], none), (16, .iload_n 1, 17, [], none), (17, .aload_n 0, 18, [], none), (18, .getfield 18, 21, [3, 2, 0, 25, 0], none), (21, .iastore, 22, [20], none)] (0, .iload_n 1, 1, [], none) (by decide +kernel) _ _ _).trans rfl
theorem B_X3_goHereFrom_22 (d : Nat) (S : mS) (I : mI) (L : mJ)  :
  evk zcod none d zc_X3_goHereFrom 22 [] [] (S, I, L) =
  some (none, (S, I, L)) :=
  (blk_ok zcod none d zc_X3_goHereFrom [] (22, .return_, 23, [], some []) (by decide +kernel) _ _ _).trans rfl
theorem E_X3_cell (d : Nat) (M : zM) (l0 : Nat) (l1 : Int32) : evM zcod (d + 1) 17 [.ref l0, .int l1] M = evk zcod none d zc_X3_cell 0 [(0, .ref l0), (1, .int l1)] [] M := evM_eq zcod d 17 _ M (Nat.le_of_ble_eq_true rfl)
theorem B_X3_cell_0 (d : Nat) (S : mS) (I : mI) (L : mJ) (l0 : Nat) (l1 : Int32) :
  evk zcod none d zc_X3_cell 0 [(0, .ref l0), (1, .int l1)] [] (S, I, L) =
  if l1 < (nI 0) then
 evk zcod none d zc_X3_cell 21 [] [] (S, I, L)
 else
 if kK S l0 = 3 then
 (if (I l0 2) ≤ l1 then
 evk zcod none d zc_X3_cell 21 [] [] (S, I, L)
 else
 if kK S l0 = 3 then
 (if kK S (kR S l0 0) = 20 ∧ zin l1 (kN S (kR S l0 0)) then
 (evk zcod none d zc_X3_cell 23 [] [.int (I (kR S l0 0) (zix l1))] (S, I, L)) else none) else none) else none :=
  (blk_ok zcod none d zc_X3_cell [(1, .ifCond .lt 20, 4, [21], none), (4, .iload_n 1, 5, [], none), (5, .aload_n 0, 6, [], none), (6, .getfield 18, 9, [3, 2, 0, 25, 0], none), (9, .if_icmp .ge 12, 12, [21], none), (12, .aload_n 0, 13, [], none), (13, .getfield 11, 16, [3, 0, 2, 23, 0], none), (16, .iload_n 1, 17, [], none), (17, .iaload, 18, [20], none), (18, .goto 5, 21, [23], none)] (0, .iload_n 1, 1, [], none) (by decide +kernel) _ _ _).trans rfl
theorem B_X3_cell_21 (d : Nat) (S : mS) (I : mI) (L : mJ)  :
  evk zcod none d zc_X3_cell 21 [] [] (S, I, L) =
  evk zcod none d zc_X3_cell 23 [] [.int (-6 : Int32)] (S, I, L) :=
  (blk_ok zcod none d zc_X3_cell [] (21, .bipush (-6), 23, [], some []) (by decide +kernel) _ _ _).trans rfl
theorem B_X3_cell_23 (d : Nat) (S : mS) (I : mI) (L : mJ) (s0 : Int32) :
  evk zcod none d zc_X3_cell 23 [] [.int s0] (S, I, L) =
  some (some (.int s0), (S, I, L)) :=
  (blk_ok zcod none d zc_X3_cell [] (23, .ireturn, 24, [0], some []) (by decide +kernel) _ _ _).trans rfl
theorem E_X3_size (d : Nat) (M : zM) (l0 : Nat) : evM zcod (d + 1) 18 [.ref l0] M = evk zcod none d zc_X3_size 0 [(0, .ref l0)] [] M := evM_eq zcod d 18 _ M (Nat.le_of_ble_eq_true rfl)
theorem B_X3_size_0 (d : Nat) (S : mS) (I : mI) (L : mJ) (l0 : Nat) :
  evk zcod none d zc_X3_size 0 [(0, .ref l0)] [] (S, I, L) =
  if kK S l0 = 3 then
 (some (some (.int (I l0 2)), (S, I, L))) else none :=
  (blk_ok zcod none d zc_X3_size [(1, .getfield 18, 4, [3, 2, 0, 25, 0], none), (4, .ireturn, 5, [0], none)] (0, .aload_n 0, 1, [], none) (by decide +kernel) _ _ _).trans rfl
theorem E_X8_clear (d : Nat) (M : zM) (l0 : Nat) : evM zcod (d + 1) 20 [.ref l0] M = evk zcod none d zc_X8_clear 0 [(0, .ref l0)] [] M := evM_eq zcod d 20 _ M (Nat.le_of_ble_eq_true rfl)
theorem B_X8_clear_0 (d : Nat) (S : mS) (I : mI) (L : mJ) (l0 : Nat) :
  evk zcod none d zc_X8_clear 0 [(0, .ref l0)] [] (S, I, L) =
  if kK S l0 = 8 then
 (if kK S (kR S l0 0) = 9 then
 (bV (evM zcod d 4 [.ref (kR S l0 0)] (S, I, L)) fun M1 =>
 if M1.1.1 = S.1 then
 (if kK M1.1 l0 = 8 then
 (if kK M1.1 (kR M1.1 l0 1) = 9 then
 (bV (evM zcod d 4 [.ref (kR M1.1 l0 1)] M1) fun M2 =>
 if M2.1.1 = M1.1.1 then
 (if kK M2.1 l0 = 8 then
 (if kK M2.1 (kR M2.1 l0 2) = 9 then
 (bV (evM zcod d 4 [.ref (kR M2.1 l0 2)] M2) fun M3 =>
 if M3.1.1 = M2.1.1 then
 (if kK M3.1 l0 = 8 then
 (evk zcod none d zc_X8_clear 26 [(0, .ref l0)] [] (M3.1, (uI M3.2.1 l0 3 (nI 0)), M3.2.2)) else none) else none) else none) else none) else none) else none) else none) else none) else none) else none :=
  (blk_ok zcod none d zc_X8_clear [(1, .getfield 14, 4, [8, 0, 2, 39, 0], none), (4, .invokevirtual 36, 7, [4, 0, 0, 9, 45, 46, 47, 11], none), (7, .aload_n 0, 8, [], none), (8, .getfield 20, 11, [8, 1, 2, 40, 0], none), (11, .invokevirtual 36, 14, [4, 0, 0, 9, 45, 46, 47, 11], none), (14, .aload_n 0, 15, [], none), (15, .getfield 23, 18, [8, 2, 2, 41, 0], none), (18, .invokevirtual 36, 21, [4, 0, 0, 9, 45, 46, 47, 11], none), (21, .aload_n 0, 22, [], none), (22, .iconst 0, 23, [], none), (23, .putfield 26, 26, [8, 3, 0, 42, 0, 0], none)] (0, .aload_n 0, 1, [], none) (by decide +kernel) _ _ _).trans rfl
theorem B_X8_clear_26 (d : Nat) (S : mS) (I : mI) (L : mJ) (l0 : Nat) :
  evk zcod none d zc_X8_clear 26 [(0, .ref l0)] [] (S, I, L) =
  if kK S l0 = 8 then
 (if kK S l0 = 8 then
 (some (none, (S, (uI (uI I l0 4 (nI 0)) l0 5 (nI 0)), L))) else none) else none :=
  (blk_ok zcod none d zc_X8_clear [(27, .iconst 0, 28, [], none), (28, .putfield 30, 31, [8, 4, 0, 43, 0, 0], none), (31, .aload_n 0, 32, [], none), (32, .iconst 0, 33, [], none), (33, .putfield 33, 36, [8, 5, 0, 44, 0, 0], none), (36, .return_, 37, [], none)] (26, .aload_n 0, 27, [], some [0]) (by decide +kernel) _ _ _).trans rfl
theorem E_X8_become (d : Nat) (M : zM) (l0 : Nat) (l1 : Nat) : evM zcod (d + 1) 21 [.ref l0, .ref l1] M = evk zcod none d zc_X8_become 0 [(0, .ref l0), (1, .ref l1)] [] M := evM_eq zcod d 21 _ M (Nat.le_of_ble_eq_true rfl)
theorem B_X8_become_0 (d : Nat) (S : mS) (I : mI) (L : mJ) (l0 : Nat) (l1 : Nat) :
  evk zcod none d zc_X8_become 0 [(0, .ref l0), (1, .ref l1)] [] (S, I, L) =
  if kK S l0 = 8 then
 (if kK S l1 = 8 then
 (if kK S (kR S l0 0) = 9 then
 (bV (evM zcod d 8 [.ref (kR S l0 0), .ref (kR S l1 0)] (S, I, L)) fun M1 =>
 if M1.1.1 = S.1 then
 (if kK M1.1 l0 = 8 then
 (if kK M1.1 l1 = 8 then
 (if kK M1.1 (kR M1.1 l0 1) = 9 then
 (bV (evM zcod d 8 [.ref (kR M1.1 l0 1), .ref (kR M1.1 l1 1)] M1) fun M2 =>
 if M2.1.1 = M1.1.1 then
 (if kK M2.1 l0 = 8 then
 (if kK M2.1 l1 = 8 then
 (if kK M2.1 (kR M2.1 l0 2) = 9 then
 (bV (evM zcod d 8 [.ref (kR M2.1 l0 2), .ref (kR M2.1 l1 2)] M2) fun M3 =>
 if M3.1.1 = M2.1.1 then
 (if kK M3.1 l1 = 8 then
 (if kK M3.1 l0 = 8 then
 (evk zcod none d zc_X8_become 41 [(0, .ref l0), (1, .ref l1)] [] (M3.1, (uI M3.2.1 l0 3 (M3.2.1 l1 3)), M3.2.2)) else none) else none) else none) else none) else none) else none) else none) else none) else none) else none) else none) else none) else none) else none :=
  (blk_ok zcod none d zc_X8_become [(1, .getfield 14, 4, [8, 0, 2, 39, 0], none), (4, .aload_n 1, 5, [], none), (5, .getfield 14, 8, [8, 0, 2, 39, 0], none), (8, .invokevirtual 39, 11, [8, 1, 0, 9, 48, 49, 50, 11], none), (11, .aload_n 0, 12, [], none), (12, .getfield 20, 15, [8, 1, 2, 40, 0], none), (15, .aload_n 1, 16, [], none), (16, .getfield 20, 19, [8, 1, 2, 40, 0], none), (19, .invokevirtual 39, 22, [8, 1, 0, 9, 48, 49, 50, 11], none), (22, .aload_n 0, 23, [], none), (23, .getfield 23, 26, [8, 2, 2, 41, 0], none), (26, .aload_n 1, 27, [], none), (27, .getfield 23, 30, [8, 2, 2, 41, 0], none), (30, .invokevirtual 39, 33, [8, 1, 0, 9, 48, 49, 50, 11], none), (33, .aload_n 0, 34, [], none), (34, .aload_n 1, 35, [], none), (35, .getfield 26, 38, [8, 3, 0, 42, 0], none), (38, .putfield 26, 41, [8, 3, 0, 42, 0, 0], none)] (0, .aload_n 0, 1, [], none) (by decide +kernel) _ _ _).trans rfl
theorem B_X8_become_41 (d : Nat) (S : mS) (I : mI) (L : mJ) (l0 : Nat) (l1 : Nat) :
  evk zcod none d zc_X8_become 41 [(0, .ref l0), (1, .ref l1)] [] (S, I, L) =
  if kK S l1 = 8 then
 (if kK S l0 = 8 then
 (if kK S l1 = 8 then
 (if kK S l0 = 8 then
 (some (none, (S, (uI (uI I l0 4 (I l1 4)) l0 5 ((uI I l0 4 (I l1 4)) l1 5)), L))) else none) else none) else none) else none :=
  (blk_ok zcod none d zc_X8_become [(42, .aload_n 1, 43, [], none), (43, .getfield 30, 46, [8, 4, 0, 43, 0], none), (46, .putfield 30, 49, [8, 4, 0, 43, 0, 0], none), (49, .aload_n 0, 50, [], none), (50, .aload_n 1, 51, [], none), (51, .getfield 33, 54, [8, 5, 0, 44, 0], none), (54, .putfield 33, 57, [8, 5, 0, 44, 0, 0], none), (57, .return_, 58, [], none)] (41, .aload_n 0, 42, [], some [0, 1]) (by decide +kernel) _ _ _).trans rfl
theorem E_X8_loadsThat (d : Nat) (M : zM) (l0 : Nat) (l1 : Int32) : evM zcod (d + 1) 22 [.ref l0, .int l1] M = evk zcod none d zc_X8_loadsThat 0 [(0, .ref l0), (1, .int l1)] [] M := evM_eq zcod d 22 _ M (Nat.le_of_ble_eq_true rfl)
theorem B_X8_loadsThat_0 (d : Nat) (S : mS) (I : mI) (L : mJ) (l0 : Nat) (l1 : Int32) :
  evk zcod none d zc_X8_loadsThat 0 [(0, .ref l0), (1, .int l1)] [] (S, I, L) =
  evk zcod none d zc_X8_loadsThat 4 [(0, .ref l0), (1, .int l1), (2, .int (nI 0)), (3, .int (nI 0))] [] (S, I, L) :=
  (blk_ok zcod none d zc_X8_loadsThat [(1, .istore_n 2, 2, [], none), (2, .iconst 0, 3, [], none), (3, .istore_n 3, 4, [], none)] (0, .iconst 0, 1, [], none) (by decide +kernel) _ _ _).trans rfl
theorem B_X8_loadsThat_4 (d : Nat) (S : mS) (I : mI) (L : mJ) (l0 : Nat) (l1 : Int32) (l2 : Int32) (l3 : Int32) :
  evk zcod none d zc_X8_loadsThat 4 [(0, .ref l0), (1, .int l1), (2, .int l2), (3, .int l3)] [] (S, I, L) =
  if kK S l0 = 8 then
 (if kK S (kR S l0 0) = 9 then
 (bI (evM zcod d 1 [.ref (kR S l0 0)] (S, I, L)) fun x1 M1 =>
 if M1.1.1 = S.1 then
 (if x1 ≤ l3 then
 evk zcod none d zc_X8_loadsThat 40 [(2, .int l2)] [] M1
 else
 if kK M1.1 l0 = 8 then
 (if kK M1.1 (kR M1.1 l0 0) = 9 then
 (bI (evM zcod d 5 [.ref (kR M1.1 l0 0), .int l3, .int (nI 3)] M1) fun x2 M2 =>
 if M2.1.1 = M1.1.1 then
 (if ¬ x2 = l1 then
 evk zcod none d zc_X8_loadsThat 34 [(0, .ref l0), (1, .int l1), (2, .int l2), (3, .int l3)] [] M2
 else
 evk zcod none d zc_X8_loadsThat 34 [(0, .ref l0), (1, .int l1), (2, .int (l2 ||| ((nI 1) <<< (l3 &&& nI 31)))), (3, .int l3)] [] M2) else none) else none) else none) else none) else none) else none :=
  (blk_ok zcod none d zc_X8_loadsThat [(5, .aload_n 0, 6, [], none), (6, .getfield 14, 9, [8, 0, 2, 39, 0], none), (9, .invokevirtual 43, 12, [1, 0, 1, 9, 51, 52, 53, 11], none), (12, .if_icmp .ge 28, 15, [40], none), (15, .aload_n 0, 16, [], none), (16, .getfield 14, 19, [8, 0, 2, 39, 0], none), (19, .iload_n 3, 20, [], none), (20, .iconst 3, 21, [], none), (21, .invokevirtual 47, 24, [5, 2, 1, 9, 54, 55, 56, 11], none), (24, .iload_n 1, 25, [], none), (25, .if_icmp .ne 9, 28, [34], none), (28, .iload_n 2, 29, [], none), (29, .iconst 1, 30, [], none), (30, .iload_n 3, 31, [], none), (31, .ishl, 32, [], none), (32, .ior, 33, [], none), (33, .istore_n 2, 34, [], none)] (4, .iload_n 3, 5, [], some [0, 1, 2, 3]) (by decide +kernel) _ _ _).trans rfl
theorem B_X8_loadsThat_34 (d : Nat) (S : mS) (I : mI) (L : mJ) (l0 : Nat) (l1 : Int32) (l2 : Int32) (l3 : Int32) :
  evk zcod none d zc_X8_loadsThat 34 [(0, .ref l0), (1, .int l1), (2, .int l2), (3, .int l3)] [] (S, I, L) =
  evk zcod none d zc_X8_loadsThat 4 [(0, .ref l0), (1, .int l1), (2, .int l2), (3, .int (l3 + (nI 1)))] [] (S, I, L) :=
  (blk_ok zcod none d zc_X8_loadsThat [(37, .goto (-33), 40, [4], none)] (34, .iinc 3 1, 37, [], some [0, 1, 2, 3]) (by decide +kernel) _ _ _).trans rfl
theorem B_X8_loadsThat_40 (d : Nat) (S : mS) (I : mI) (L : mJ) (l2 : Int32) :
  evk zcod none d zc_X8_loadsThat 40 [(2, .int l2)] [] (S, I, L) =
  some (some (.int l2), (S, I, L)) :=
  (blk_ok zcod none d zc_X8_loadsThat [(41, .ireturn, 42, [0], none)] (40, .iload_n 2, 41, [], some [2]) (by decide +kernel) _ _ _).trans rfl
theorem E_X8_up (d : Nat) (M : zM) (l0 : Nat) : evM zcod (d + 1) 23 [.ref l0] M = evk zcod none d zc_X8_up 0 [(0, .ref l0)] [] M := evM_eq zcod d 23 _ M (Nat.le_of_ble_eq_true rfl)
theorem B_X8_up_0 (d : Nat) (S : mS) (I : mI) (L : mJ) (l0 : Nat) :
  evk zcod none d zc_X8_up 0 [(0, .ref l0)] [] (S, I, L) =
  if kK S l0 = 8 then
 (bI (evM zcod d 22 [.ref l0, .int (nI 1)] (S, I, L)) fun x1 M1 =>
 if M1.1.1 = S.1 then
 (bI (evM zcod d 277 [.int x1] M1) fun x2 M2 =>
 if M2.1.1 = M1.1.1 then
 (some (some (.int x2), M2)) else none) else none) else none :=
  (blk_ok zcod none d zc_X8_up [(1, .iconst 1, 2, [], none), (2, .invokevirtual 51, 5, [22, 1, 1, 8, 57, 58, 59, 60], none), (5, .invokestatic 55, 8, [277, 1, 1, 0, 61, 62, 63], none), (8, .ireturn, 9, [0], none)] (0, .aload_n 0, 1, [], none) (by decide +kernel) _ _ _).trans rfl
theorem E_X8_stored (d : Nat) (M : zM) (l0 : Nat) : evM zcod (d + 1) 24 [.ref l0] M = evk zcod none d zc_X8_stored 0 [(0, .ref l0)] [] M := evM_eq zcod d 24 _ M (Nat.le_of_ble_eq_true rfl)
theorem B_X8_stored_0 (d : Nat) (S : mS) (I : mI) (L : mJ) (l0 : Nat) :
  evk zcod none d zc_X8_stored 0 [(0, .ref l0)] [] (S, I, L) =
  if kK S l0 = 8 then
 (bI (evM zcod d 22 [.ref l0, .int (nI 2)] (S, I, L)) fun x1 M1 =>
 if M1.1.1 = S.1 then
 (bI (evM zcod d 277 [.int x1] M1) fun x2 M2 =>
 if M2.1.1 = M1.1.1 then
 (some (some (.int x2), M2)) else none) else none) else none :=
  (blk_ok zcod none d zc_X8_stored [(1, .iconst 2, 2, [], none), (2, .invokevirtual 51, 5, [22, 1, 1, 8, 57, 58, 59, 60], none), (5, .invokestatic 55, 8, [277, 1, 1, 0, 61, 62, 63], none), (8, .ireturn, 9, [0], none)] (0, .aload_n 0, 1, [], none) (by decide +kernel) _ _ _).trans rfl
theorem E_X8_isLoadAtFoot (d : Nat) (M : zM) (l0 : Nat) (l1 : Int32) : evM zcod (d + 1) 25 [.ref l0, .int l1] M = evk zcod none d zc_X8_isLoadAtFoot 0 [(0, .ref l0), (1, .int l1)] [] M := evM_eq zcod d 25 _ M (Nat.le_of_ble_eq_true rfl)
theorem B_X8_isLoadAtFoot_0 (d : Nat) (S : mS) (I : mI) (L : mJ) (l0 : Nat) (l1 : Int32) :
  evk zcod none d zc_X8_isLoadAtFoot 0 [(0, .ref l0), (1, .int l1)] [] (S, I, L) =
  if kK S l0 = 8 then
 (if kK S (kR S l0 0) = 9 then
 (bI (evM zcod d 2 [.ref (kR S l0 0), .int l1] (S, I, L)) fun x1 M1 =>
 if M1.1.1 = S.1 then
 (if x1 = (nI 0) then
 evk zcod none d zc_X8_isLoadAtFoot 27 [] [] M1
 else
 if kK M1.1 l0 = 8 then
 (if kK M1.1 (kR M1.1 l0 0) = 9 then
 (bI (evM zcod d 5 [.ref (kR M1.1 l0 0), .int l1, .int (nI 3)] M1) fun x2 M2 =>
 if M2.1.1 = M1.1.1 then
 (if ¬ x2 = (nI 0) then
 evk zcod none d zc_X8_isLoadAtFoot 27 [] [] M2
 else
 evk zcod none d zc_X8_isLoadAtFoot 28 [] [.int (nI 1)] M2) else none) else none) else none) else none) else none) else none :=
  (blk_ok zcod none d zc_X8_isLoadAtFoot [(1, .getfield 14, 4, [8, 0, 2, 39, 0], none), (4, .iload_n 1, 5, [], none), (5, .invokevirtual 60, 8, [2, 1, 1, 9, 64, 65, 66, 11], none), (8, .ifCond .eq 19, 11, [27], none), (11, .aload_n 0, 12, [], none), (12, .getfield 14, 15, [8, 0, 2, 39, 0], none), (15, .iload_n 1, 16, [], none), (16, .iconst 3, 17, [], none), (17, .invokevirtual 47, 20, [5, 2, 1, 9, 54, 55, 56, 11], none), (20, .ifCond .ne 7, 23, [27], none), (23, .iconst 1, 24, [], none), (24, .goto 4, 27, [28], none)] (0, .aload_n 0, 1, [], none) (by decide +kernel) _ _ _).trans rfl
theorem B_X8_isLoadAtFoot_27 (d : Nat) (S : mS) (I : mI) (L : mJ)  :
  evk zcod none d zc_X8_isLoadAtFoot 27 [] [] (S, I, L) =
  evk zcod none d zc_X8_isLoadAtFoot 28 [] [.int (nI 0)] (S, I, L) :=
  (blk_ok zcod none d zc_X8_isLoadAtFoot [] (27, .iconst 0, 28, [], some []) (by decide +kernel) _ _ _).trans rfl
theorem B_X8_isLoadAtFoot_28 (d : Nat) (S : mS) (I : mI) (L : mJ) (s0 : Int32) :
  evk zcod none d zc_X8_isLoadAtFoot 28 [] [.int s0] (S, I, L) =
  if s0 = nI 0 ∨ s0 = nI 1 then some (some (.int s0), (S, I, L)) else none :=
  (blk_ok zcod none d zc_X8_isLoadAtFoot [] (28, .ireturn, 29, [1], some []) (by decide +kernel) _ _ _).trans rfl
theorem E_X8_isSilkAtFoot (d : Nat) (M : zM) (l0 : Nat) (l1 : Int32) : evM zcod (d + 1) 26 [.ref l0, .int l1] M = evk zcod none d zc_X8_isSilkAtFoot 0 [(0, .ref l0), (1, .int l1)] [] M := evM_eq zcod d 26 _ M (Nat.le_of_ble_eq_true rfl)
theorem B_X8_isSilkAtFoot_0 (d : Nat) (S : mS) (I : mI) (L : mJ) (l0 : Nat) (l1 : Int32) :
  evk zcod none d zc_X8_isSilkAtFoot 0 [(0, .ref l0), (1, .int l1)] [] (S, I, L) =
  if kK S l0 = 8 then
 (if kK S (kR S l0 1) = 9 then
 (bI (evM zcod d 2 [.ref (kR S l0 1), .int l1] (S, I, L)) fun x1 M1 =>
 if M1.1.1 = S.1 then
 (if x1 = (nI 0) then
 evk zcod none d zc_X8_isSilkAtFoot 29 [] [] M1
 else
 if kK M1.1 l0 = 8 then
 (if kK M1.1 (kR M1.1 l0 1) = 9 then
 (bI (evM zcod d 5 [.ref (kR M1.1 l0 1), .int l1, .int (nI 1)] M1) fun x2 M2 =>
 if M2.1.1 = M1.1.1 then
 (if ¬ x2 = (-2 : Int32) then
 evk zcod none d zc_X8_isSilkAtFoot 29 [] [] M2
 else
 evk zcod none d zc_X8_isSilkAtFoot 30 [] [.int (nI 1)] M2) else none) else none) else none) else none) else none) else none :=
  (blk_ok zcod none d zc_X8_isSilkAtFoot [(1, .getfield 20, 4, [8, 1, 2, 40, 0], none), (4, .iload_n 1, 5, [], none), (5, .invokevirtual 60, 8, [2, 1, 1, 9, 64, 65, 66, 11], none), (8, .ifCond .eq 21, 11, [29], none), (11, .aload_n 0, 12, [], none), (12, .getfield 20, 15, [8, 1, 2, 40, 0], none), (15, .iload_n 1, 16, [], none), (16, .iconst 1, 17, [], none), (17, .invokevirtual 47, 20, [5, 2, 1, 9, 54, 55, 56, 11], none), (20, .bipush (-2), 22, [], none), (22, .if_icmp .ne 7, 25, [29], none), (25, .iconst 1, 26, [], none), (26, .goto 4, 29, [30], none)] (0, .aload_n 0, 1, [], none) (by decide +kernel) _ _ _).trans rfl
theorem B_X8_isSilkAtFoot_29 (d : Nat) (S : mS) (I : mI) (L : mJ)  :
  evk zcod none d zc_X8_isSilkAtFoot 29 [] [] (S, I, L) =
  evk zcod none d zc_X8_isSilkAtFoot 30 [] [.int (nI 0)] (S, I, L) :=
  (blk_ok zcod none d zc_X8_isSilkAtFoot [] (29, .iconst 0, 30, [], some []) (by decide +kernel) _ _ _).trans rfl
theorem B_X8_isSilkAtFoot_30 (d : Nat) (S : mS) (I : mI) (L : mJ) (s0 : Int32) :
  evk zcod none d zc_X8_isSilkAtFoot 30 [] [.int s0] (S, I, L) =
  if s0 = nI 0 ∨ s0 = nI 1 then some (some (.int s0), (S, I, L)) else none :=
  (blk_ok zcod none d zc_X8_isSilkAtFoot [] (30, .ireturn, 31, [1], some []) (by decide +kernel) _ _ _).trans rfl
theorem E_X8_isReady (d : Nat) (M : zM) (l0 : Nat) (l1 : Int32) (l2 : Int32) : evM zcod (d + 1) 27 [.ref l0, .int l1, .int l2] M = evk zcod none d zc_X8_isReady 0 [(0, .ref l0), (1, .int l1), (2, .int l2)] [] M := evM_eq zcod d 27 _ M (Nat.le_of_ble_eq_true rfl)
theorem B_X8_isReady_0 (d : Nat) (S : mS) (I : mI) (L : mJ) (l0 : Nat) (l1 : Int32) (l2 : Int32) :
  evk zcod none d zc_X8_isReady 0 [(0, .ref l0), (1, .int l1), (2, .int l2)] [] (S, I, L) =
  if kK S l0 = 8 then
 (bI (evM zcod d 25 [.ref l0, .int l1] (S, I, L)) fun x1 M1 =>
 if M1.1.1 = S.1 then
 (if x1 = (nI 0) then
 evk zcod none d zc_X8_isReady 20 [] [] M1
 else
 if kK M1.1 l0 = 8 then
 (bI (evM zcod d 26 [.ref l0, .int l2] M1) fun x2 M2 =>
 if M2.1.1 = M1.1.1 then
 (if x2 = (nI 0) then
 evk zcod none d zc_X8_isReady 20 [] [] M2
 else
 evk zcod none d zc_X8_isReady 21 [] [.int (nI 1)] M2) else none) else none) else none) else none :=
  (blk_ok zcod none d zc_X8_isReady [(1, .iload_n 1, 2, [], none), (2, .invokevirtual 64, 5, [25, 1, 1, 8, 67, 68, 69, 60], none), (5, .ifCond .eq 15, 8, [20], none), (8, .aload_n 0, 9, [], none), (9, .iload_n 2, 10, [], none), (10, .invokevirtual 67, 13, [26, 1, 1, 8, 70, 71, 72, 60], none), (13, .ifCond .eq 7, 16, [20], none), (16, .iconst 1, 17, [], none), (17, .goto 4, 20, [21], none)] (0, .aload_n 0, 1, [], none) (by decide +kernel) _ _ _).trans rfl
theorem B_X8_isReady_20 (d : Nat) (S : mS) (I : mI) (L : mJ)  :
  evk zcod none d zc_X8_isReady 20 [] [] (S, I, L) =
  evk zcod none d zc_X8_isReady 21 [] [.int (nI 0)] (S, I, L) :=
  (blk_ok zcod none d zc_X8_isReady [] (20, .iconst 0, 21, [], some []) (by decide +kernel) _ _ _).trans rfl
theorem B_X8_isReady_21 (d : Nat) (S : mS) (I : mI) (L : mJ) (s0 : Int32) :
  evk zcod none d zc_X8_isReady 21 [] [.int s0] (S, I, L) =
  if s0 = nI 0 ∨ s0 = nI 1 then some (some (.int s0), (S, I, L)) else none :=
  (blk_ok zcod none d zc_X8_isReady [] (21, .ireturn, 22, [1], some []) (by decide +kernel) _ _ _).trans rfl
theorem E_X8_letGo (d : Nat) (M : zM) (l0 : Nat) (l1 : Int32) (l2 : Int32) : evM zcod (d + 1) 28 [.ref l0, .int l1, .int l2] M = evk zcod none d zc_X8_letGo 0 [(0, .ref l0), (1, .int l1), (2, .int l2)] [] M := evM_eq zcod d 28 _ M (Nat.le_of_ble_eq_true rfl)
theorem B_X8_letGo_0 (d : Nat) (S : mS) (I : mI) (L : mJ) (l0 : Nat) (l1 : Int32) (l2 : Int32) :
  evk zcod none d zc_X8_letGo 0 [(0, .ref l0), (1, .int l1), (2, .int l2)] [] (S, I, L) =
  if kK S l0 = 8 then
 (if kK S (kR S l0 0) = 9 then
 (bV (evM zcod d 6 [.ref (kR S l0 0), .int l1, .int (nI 3), .int (nI 1)] (S, I, L)) fun M1 =>
 if M1.1.1 = S.1 then
 (if kK M1.1 l0 = 8 then
 (if kK M1.1 (kR M1.1 l0 0) = 9 then
 (bV (evM zcod d 6 [.ref (kR M1.1 l0 0), .int l1, .int (nI 4), .int (nI 0)] M1) fun M2 =>
 if M2.1.1 = M1.1.1 then
 (if kK M2.1 l0 = 8 then
 (if kK M2.1 (kR M2.1 l0 0) = 9 then
 (bV (evM zcod d 6 [.ref (kR M2.1 l0 0), .int l1, .int (nI 5), .int l2] M2) fun M3 =>
 if M3.1.1 = M2.1.1 then
 (if kK M3.1 l0 = 8 then
 (if kK M3.1 (kR M3.1 l0 1) = 9 then
 (bV (evM zcod d 6 [.ref (kR M3.1 l0 1), .int l2, .int (nI 1), .int l1] M3) fun M4 =>
 if M4.1.1 = M3.1.1 then
 (evk zcod none d zc_X8_letGo 40 [(0, .ref l0), (2, .int l2)] [] M4) else none) else none) else none) else none) else none) else none) else none) else none) else none) else none) else none) else none :=
  (blk_ok zcod none d zc_X8_letGo [(1, .getfield 14, 4, [8, 0, 2, 39, 0], none), (4, .iload_n 1, 5, [], none), (5, .iconst 3, 6, [], none), (6, .iconst 1, 7, [], none), (7, .invokevirtual 70, 10, [6, 3, 0, 9, 73, 13, 14, 11], none), (10, .aload_n 0, 11, [], none), (11, .getfield 14, 14, [8, 0, 2, 39, 0], none), (14, .iload_n 1, 15, [], none), (15, .iconst 4, 16, [], none), (16, .iconst 0, 17, [], none), (17, .invokevirtual 70, 20, [6, 3, 0, 9, 73, 13, 14, 11], none), (20, .aload_n 0, 21, [], none), (21, .getfield 14, 24, [8, 0, 2, 39, 0], none), (24, .iload_n 1, 25, [], none), (25, .iconst 5, 26, [], none), (26, .iload_n 2, 27, [], none), (27, .invokevirtual 70, 30, [6, 3, 0, 9, 73, 13, 14, 11], none), (30, .aload_n 0, 31, [], none), (31, .getfield 20, 34, [8, 1, 2, 40, 0], none), (34, .iload_n 2, 35, [], none), (35, .iconst 1, 36, [], none), (36, .iload_n 1, 37, [], none), (37, .invokevirtual 70, 40, [6, 3, 0, 9, 73, 13, 14, 11], none)] (0, .aload_n 0, 1, [], none) (by decide +kernel) _ _ _).trans rfl
theorem B_X8_letGo_40 (d : Nat) (S : mS) (I : mI) (L : mJ) (l0 : Nat) (l2 : Int32) :
  evk zcod none d zc_X8_letGo 40 [(0, .ref l0), (2, .int l2)] [] (S, I, L) =
  if kK S l0 = 8 then
 (if kK S l0 = 8 then
 (if kK S (kR S l0 1) = 9 then
 (bI (evM zcod d 5 [.ref (kR S l0 1), .int l2, .int (nI 2)] (S, I, L)) fun x1 M1 =>
 if M1.1.1 = S.1 then
 (if kK M1.1 (kR S l0 1) = 9 then
 (bV (evM zcod d 6 [.ref (kR S l0 1), .int l2, .int (nI 2), .int (x1 + (nI 1))] M1) fun M2 =>
 if M2.1.1 = M1.1.1 then
 (some (none, M2)) else none) else none) else none) else none) else none) else none :=
  (blk_ok zcod none d zc_X8_letGo [(41, .getfield 20, 44, [8, 1, 2, 40, 0], none), (44, .iload_n 2, 45, [], none), (45, .iconst 2, 46, [], none), (46, .aload_n 0, 47, [], none), (47, .getfield 20, 50, [8, 1, 2, 40, 0], none), (50, .iload_n 2, 51, [], none), (51, .iconst 2, 52, [], none), (52, .invokevirtual 47, 55, [5, 2, 1, 9, 54, 55, 56, 11], none), (55, .iconst 1, 56, [], none), (56, .iadd, 57, [], none), (57, .invokevirtual 70, 60, [6, 3, 0, 9, 73, 13, 14, 11], none), (60, .return_, 61, [], none)] (40, .aload_n 0, 41, [], some [0, 2]) (by decide +kernel) _ _ _).trans rfl
theorem E_X8_bringDown (d : Nat) (M : zM) (l0 : Nat) (l1 : Int32) (l2 : Int32) : evM zcod (d + 1) 29 [.ref l0, .int l1, .int l2] M = evk zcod none d zc_X8_bringDown 0 [(0, .ref l0), (1, .int l1), (2, .int l2)] [] M := evM_eq zcod d 29 _ M (Nat.le_of_ble_eq_true rfl)
theorem B_X8_bringDown_0 (d : Nat) (S : mS) (I : mI) (L : mJ) (l0 : Nat) (l1 : Int32) (l2 : Int32) :
  evk zcod none d zc_X8_bringDown 0 [(0, .ref l0), (1, .int l1), (2, .int l2)] [] (S, I, L) =
  if kK S l0 = 8 then
 (if kK S l0 = 8 then
 (if kK S (kR S l0 0) = 9 then
 (bI (evM zcod d 5 [.ref (kR S l0 0), .int l1, .int (nI 5)] (S, I, L)) fun x1 M1 =>
 if M1.1.1 = S.1 then
 (if kK M1.1 (kR S l0 1) = 9 then
 (bV (evM zcod d 6 [.ref (kR S l0 1), .int x1, .int (nI 1), .int (-2 : Int32)] M1) fun M2 =>
 if M2.1.1 = M1.1.1 then
 (if kK M2.1 l0 = 8 then
 (if kK M2.1 (kR M2.1 l0 0) = 9 then
 (bV (evM zcod d 6 [.ref (kR M2.1 l0 0), .int l1, .int (nI 3), .int l2] M2) fun M3 =>
 if M3.1.1 = M2.1.1 then
 (if kK M3.1 l0 = 8 then
 (if kK M3.1 (kR M3.1 l0 0) = 9 then
 (bV (evM zcod d 6 [.ref (kR M3.1 l0 0), .int l1, .int (nI 4), .int (nI 0)] M3) fun M4 =>
 if M4.1.1 = M3.1.1 then
 (evk zcod none d zc_X8_bringDown 39 [(0, .ref l0), (1, .int l1)] [] M4) else none) else none) else none) else none) else none) else none) else none) else none) else none) else none) else none) else none :=
  (blk_ok zcod none d zc_X8_bringDown [(1, .getfield 20, 4, [8, 1, 2, 40, 0], none), (4, .aload_n 0, 5, [], none), (5, .getfield 14, 8, [8, 0, 2, 39, 0], none), (8, .iload_n 1, 9, [], none), (9, .iconst 5, 10, [], none), (10, .invokevirtual 47, 13, [5, 2, 1, 9, 54, 55, 56, 11], none), (13, .iconst 1, 14, [], none), (14, .bipush (-2), 16, [], none), (16, .invokevirtual 70, 19, [6, 3, 0, 9, 73, 13, 14, 11], none), (19, .aload_n 0, 20, [], none), (20, .getfield 14, 23, [8, 0, 2, 39, 0], none), (23, .iload_n 1, 24, [], none), (24, .iconst 3, 25, [], none), (25, .iload_n 2, 26, [], none), (26, .invokevirtual 70, 29, [6, 3, 0, 9, 73, 13, 14, 11], none), (29, .aload_n 0, 30, [], none), (30, .getfield 14, 33, [8, 0, 2, 39, 0], none), (33, .iload_n 1, 34, [], none), (34, .iconst 4, 35, [], none), (35, .iconst 0, 36, [], none), (36, .invokevirtual 70, 39, [6, 3, 0, 9, 73, 13, 14, 11], none)] (0, .aload_n 0, 1, [], none) (by decide +kernel) _ _ _).trans rfl
theorem B_X8_bringDown_39 (d : Nat) (S : mS) (I : mI) (L : mJ) (l0 : Nat) (l1 : Int32) :
  evk zcod none d zc_X8_bringDown 39 [(0, .ref l0), (1, .int l1)] [] (S, I, L) =
  if kK S l0 = 8 then
 (if kK S (kR S l0 0) = 9 then
 (bV (evM zcod d 6 [.ref (kR S l0 0), .int l1, .int (nI 5), .int (-2 : Int32)] (S, I, L)) fun M1 =>
 if M1.1.1 = S.1 then
 (some (none, M1)) else none) else none) else none :=
  (blk_ok zcod none d zc_X8_bringDown [(40, .getfield 14, 43, [8, 0, 2, 39, 0], none), (43, .iload_n 1, 44, [], none), (44, .iconst 5, 45, [], none), (45, .bipush (-2), 47, [], none), (47, .invokevirtual 70, 50, [6, 3, 0, 9, 73, 13, 14, 11], none), (50, .return_, 51, [], none)] (39, .aload_n 0, 40, [], some [0, 1]) (by decide +kernel) _ _ _).trans rfl
theorem E_X8_nearestHook (d : Nat) (M : zM) (l0 : Nat) (l1 : Int32) (l2 : Int32) : evM zcod (d + 1) 30 [.ref l0, .int l1, .int l2] M = evk zcod none d zc_X8_nearestHook 0 [(0, .ref l0), (1, .int l1), (2, .int l2)] [] M := evM_eq zcod d 30 _ M (Nat.le_of_ble_eq_true rfl)
theorem B_X8_nearestHook_0 (d : Nat) (S : mS) (I : mI) (L : mJ) (l0 : Nat) (l1 : Int32) (l2 : Int32) :
  evk zcod none d zc_X8_nearestHook 0 [(0, .ref l0), (1, .int l1), (2, .int l2)] [] (S, I, L) =
  evk zcod none d zc_X8_nearestHook 10 [(0, .ref l0), (1, .int l1), (2, .int l2), (3, .int (-2 : Int32)), (4, .int (nI 20)), (5, .int (nI 0))] [] (S, I, L) :=
  (blk_ok zcod none d zc_X8_nearestHook [(2, .istore_n 3, 3, [], none), (3, .bipush 20, 5, [], none), (5, .istore 4, 7, [], none), (7, .iconst 0, 8, [], none), (8, .istore 5, 10, [], none)] (0, .bipush (-2), 2, [], none) (by decide +kernel) _ _ _).trans rfl
theorem B_X8_nearestHook_10 (d : Nat) (S : mS) (I : mI) (L : mJ) (l0 : Nat) (l1 : Int32) (l2 : Int32) (l3 : Int32) (l4 : Int32) (l5 : Int32) :
  evk zcod none d zc_X8_nearestHook 10 [(0, .ref l0), (1, .int l1), (2, .int l2), (3, .int l3), (4, .int l4), (5, .int l5)] [] (S, I, L) =
  if kK S l0 = 8 then
 (if kK S (kR S l0 2) = 9 then
 (bI (evM zcod d 1 [.ref (kR S l0 2)] (S, I, L)) fun x1 M1 =>
 if M1.1.1 = S.1 then
 (if x1 ≤ l5 then
 evk zcod none d zc_X8_nearestHook 83 [(3, .int l3)] [] M1
 else
 if kK M1.1 l0 = 8 then
 (if kK M1.1 (kR M1.1 l0 2) = 9 then
 (bI (evM zcod d 5 [.ref (kR M1.1 l0 2), .int l5, .int (nI 0)] M1) fun x2 M2 =>
 if M2.1.1 = M1.1.1 then
 (bI (evM zcod d 276 [.int (x2 - l1)] M2) fun x3 M3 =>
 if M3.1.1 = M2.1.1 then
 (if l4 ≤ x3 then
 evk zcod none d zc_X8_nearestHook 77 [(0, .ref l0), (1, .int l1), (2, .int l2), (3, .int l3), (4, .int l4), (5, .int l5)] [] M3
 else
 if kK M3.1 l0 = 8 then
 (if kK M3.1 (kR M3.1 l0 2) = 9 then
 (bI (evM zcod d 5 [.ref (kR M3.1 l0 2), .int l5, .int (nI 1)] M3) fun x4 M4 =>
 if M4.1.1 = M3.1.1 then
 (if x4 < x3 then
 evk zcod none d zc_X8_nearestHook 77 [(0, .ref l0), (1, .int l1), (2, .int l2), (3, .int l3), (4, .int l4), (5, .int l5)] [] M4
 else
 evk zcod none d zc_X8_nearestHook 61 [(0, .ref l0), (1, .int l1), (2, .int l2), (3, .int l3), (4, .int l4), (5, .int l5), (6, .int x3)] [] M4) else none) else none) else none) else none) else none) else none) else none) else none) else none) else none :=
  (blk_ok zcod none d zc_X8_nearestHook [(12, .aload_n 0, 13, [], none), (13, .getfield 23, 16, [8, 2, 2, 41, 0], none), (16, .invokevirtual 43, 19, [1, 0, 1, 9, 51, 52, 53, 11], none), (19, .if_icmp .ge 64, 22, [83], none), (22, .aload_n 0, 23, [], none), (23, .getfield 23, 26, [8, 2, 2, 41, 0], none), (26, .iload 5, 28, [], none), (28, .iconst 0, 29, [], none), (29, .invokevirtual 47, 32, [5, 2, 1, 9, 54, 55, 56, 11], none), (32, .iload_n 1, 33, [], none), (33, .isub, 34, [], none), (34, .invokestatic 74, 37, [276, 1, 1, 0, 74, 75, 17], none), (37, .istore 6, 39, [], none), (39, .iload 6, 41, [], none), (41, .iload 4, 43, [], none), (43, .if_icmp .ge 34, 46, [77], none), (46, .iload 6, 48, [], none), (48, .aload_n 0, 49, [], none), (49, .getfield 23, 52, [8, 2, 2, 41, 0], none), (52, .iload 5, 54, [], none), (54, .iconst 1, 55, [], none), (55, .invokevirtual 47, 58, [5, 2, 1, 9, 54, 55, 56, 11], none), (58, .if_icmp .gt 19, 61, [77], none)] (10, .iload 5, 12, [], some [0, 1, 2, 3, 4, 5]) (by decide +kernel) _ _ _).trans rfl
theorem B_X8_nearestHook_61 (d : Nat) (S : mS) (I : mI) (L : mJ) (l0 : Nat) (l1 : Int32) (l2 : Int32) (l3 : Int32) (l4 : Int32) (l5 : Int32) (l6 : Int32) :
  evk zcod none d zc_X8_nearestHook 61 [(0, .ref l0), (1, .int l1), (2, .int l2), (3, .int l3), (4, .int l4), (5, .int l5), (6, .int l6)] [] (S, I, L) =
  if ¬ ((l2 >>> (l5 &&& nI 31)) &&& (nI 1)) = (nI 0) then
 evk zcod none d zc_X8_nearestHook 77 [(0, .ref l0), (1, .int l1), (2, .int l2), (3, .int l3), (4, .int l4), (5, .int l5)] [] (S, I, L)
 else
 evk zcod none d zc_X8_nearestHook 77 [(0, .ref l0), (1, .int l1), (2, .int l2), (3, .int l5), (4, .int l6), (5, .int l5)] [] (S, I, L) :=
  (blk_ok zcod none d zc_X8_nearestHook [(62, .iload 5, 64, [], none), (64, .ishr, 65, [], none), (65, .iconst 1, 66, [], none), (66, .iand, 67, [], none), (67, .ifCond .ne 10, 70, [77], none), (70, .iload 5, 72, [], none), (72, .istore_n 3, 73, [], none), (73, .iload 6, 75, [], none), (75, .istore 4, 77, [], none)] (61, .iload_n 2, 62, [], some [0, 1, 2, 3, 4, 5, 6]) (by decide +kernel) _ _ _).trans rfl
theorem B_X8_nearestHook_77 (d : Nat) (S : mS) (I : mI) (L : mJ) (l0 : Nat) (l1 : Int32) (l2 : Int32) (l3 : Int32) (l4 : Int32) (l5 : Int32) :
  evk zcod none d zc_X8_nearestHook 77 [(0, .ref l0), (1, .int l1), (2, .int l2), (3, .int l3), (4, .int l4), (5, .int l5)] [] (S, I, L) =
  evk zcod none d zc_X8_nearestHook 10 [(0, .ref l0), (1, .int l1), (2, .int l2), (3, .int l3), (4, .int l4), (5, .int (l5 + (nI 1)))] [] (S, I, L) :=
  (blk_ok zcod none d zc_X8_nearestHook [(80, .goto (-70), 83, [10], none)] (77, .iinc 5 1, 80, [], some [0, 1, 2, 3, 4, 5]) (by decide +kernel) _ _ _).trans rfl
theorem B_X8_nearestHook_83 (d : Nat) (S : mS) (I : mI) (L : mJ) (l3 : Int32) :
  evk zcod none d zc_X8_nearestHook 83 [(3, .int l3)] [] (S, I, L) =
  some (some (.int l3), (S, I, L)) :=
  (blk_ok zcod none d zc_X8_nearestHook [(84, .ireturn, 85, [0], none)] (83, .iload_n 3, 84, [], some [3]) (by decide +kernel) _ _ _).trans rfl
theorem E_X8_hooksReaching (d : Nat) (M : zM) (l0 : Nat) (l1 : Int32) : evM zcod (d + 1) 31 [.ref l0, .int l1] M = evk zcod none d zc_X8_hooksReaching 0 [(0, .ref l0), (1, .int l1)] [] M := evM_eq zcod d 31 _ M (Nat.le_of_ble_eq_true rfl)
theorem B_X8_hooksReaching_0 (d : Nat) (S : mS) (I : mI) (L : mJ) (l0 : Nat) (l1 : Int32) :
  evk zcod none d zc_X8_hooksReaching 0 [(0, .ref l0), (1, .int l1)] [] (S, I, L) =
  evk zcod none d zc_X8_hooksReaching 4 [(0, .ref l0), (1, .int l1), (2, .int (nI 0)), (3, .int (nI 0))] [] (S, I, L) :=
  (blk_ok zcod none d zc_X8_hooksReaching [(1, .istore_n 2, 2, [], none), (2, .iconst 0, 3, [], none), (3, .istore_n 3, 4, [], none)] (0, .iconst 0, 1, [], none) (by decide +kernel) _ _ _).trans rfl
theorem B_X8_hooksReaching_4 (d : Nat) (S : mS) (I : mI) (L : mJ) (l0 : Nat) (l1 : Int32) (l2 : Int32) (l3 : Int32) :
  evk zcod none d zc_X8_hooksReaching 4 [(0, .ref l0), (1, .int l1), (2, .int l2), (3, .int l3)] [] (S, I, L) =
  if kK S l0 = 8 then
 (if kK S (kR S l0 2) = 9 then
 (bI (evM zcod d 1 [.ref (kR S l0 2)] (S, I, L)) fun x1 M1 =>
 if M1.1.1 = S.1 then
 (if x1 ≤ l3 then
 evk zcod none d zc_X8_hooksReaching 53 [(2, .int l2)] [] M1
 else
 if kK M1.1 l0 = 8 then
 (if kK M1.1 (kR M1.1 l0 2) = 9 then
 (bI (evM zcod d 5 [.ref (kR M1.1 l0 2), .int l3, .int (nI 0)] M1) fun x2 M2 =>
 if M2.1.1 = M1.1.1 then
 (bI (evM zcod d 276 [.int (x2 - l1)] M2) fun x3 M3 =>
 if M3.1.1 = M2.1.1 then
 (if kK M3.1 l0 = 8 then
 (if kK M3.1 (kR M3.1 l0 2) = 9 then
 (bI (evM zcod d 5 [.ref (kR M3.1 l0 2), .int l3, .int (nI 1)] M3) fun x4 M4 =>
 if M4.1.1 = M3.1.1 then
 (if x4 < x3 then
 evk zcod none d zc_X8_hooksReaching 47 [(0, .ref l0), (1, .int l1), (2, .int l2), (3, .int l3)] [] M4
 else
 evk zcod none d zc_X8_hooksReaching 41 [(0, .ref l0), (1, .int l1), (2, .int l2), (3, .int l3)] [] M4) else none) else none) else none) else none) else none) else none) else none) else none) else none) else none :=
  (blk_ok zcod none d zc_X8_hooksReaching [(5, .aload_n 0, 6, [], none), (6, .getfield 23, 9, [8, 2, 2, 41, 0], none), (9, .invokevirtual 43, 12, [1, 0, 1, 9, 51, 52, 53, 11], none), (12, .if_icmp .ge 41, 15, [53], none), (15, .aload_n 0, 16, [], none), (16, .getfield 23, 19, [8, 2, 2, 41, 0], none), (19, .iload_n 3, 20, [], none), (20, .iconst 0, 21, [], none), (21, .invokevirtual 47, 24, [5, 2, 1, 9, 54, 55, 56, 11], none), (24, .iload_n 1, 25, [], none), (25, .isub, 26, [], none), (26, .invokestatic 74, 29, [276, 1, 1, 0, 74, 75, 17], none), (29, .aload_n 0, 30, [], none), (30, .getfield 23, 33, [8, 2, 2, 41, 0], none), (33, .iload_n 3, 34, [], none), (34, .iconst 1, 35, [], none), (35, .invokevirtual 47, 38, [5, 2, 1, 9, 54, 55, 56, 11], none), (38, .if_icmp .gt 9, 41, [47], none)] (4, .iload_n 3, 5, [], some [0, 1, 2, 3]) (by decide +kernel) _ _ _).trans rfl
theorem B_X8_hooksReaching_41 (d : Nat) (S : mS) (I : mI) (L : mJ) (l0 : Nat) (l1 : Int32) (l2 : Int32) (l3 : Int32) :
  evk zcod none d zc_X8_hooksReaching 41 [(0, .ref l0), (1, .int l1), (2, .int l2), (3, .int l3)] [] (S, I, L) =
  evk zcod none d zc_X8_hooksReaching 47 [(0, .ref l0), (1, .int l1), (2, .int (l2 ||| ((nI 1) <<< (l3 &&& nI 31)))), (3, .int l3)] [] (S, I, L) :=
  (blk_ok zcod none d zc_X8_hooksReaching [(42, .iconst 1, 43, [], none), (43, .iload_n 3, 44, [], none), (44, .ishl, 45, [], none), (45, .ior, 46, [], none), (46, .istore_n 2, 47, [], none)] (41, .iload_n 2, 42, [], some [0, 1, 2, 3]) (by decide +kernel) _ _ _).trans rfl
theorem B_X8_hooksReaching_47 (d : Nat) (S : mS) (I : mI) (L : mJ) (l0 : Nat) (l1 : Int32) (l2 : Int32) (l3 : Int32) :
  evk zcod none d zc_X8_hooksReaching 47 [(0, .ref l0), (1, .int l1), (2, .int l2), (3, .int l3)] [] (S, I, L) =
  evk zcod none d zc_X8_hooksReaching 4 [(0, .ref l0), (1, .int l1), (2, .int l2), (3, .int (l3 + (nI 1)))] [] (S, I, L) :=
  (blk_ok zcod none d zc_X8_hooksReaching [(50, .goto (-46), 53, [4], none)] (47, .iinc 3 1, 50, [], some [0, 1, 2, 3]) (by decide +kernel) _ _ _).trans rfl
theorem B_X8_hooksReaching_53 (d : Nat) (S : mS) (I : mI) (L : mJ) (l2 : Int32) :
  evk zcod none d zc_X8_hooksReaching 53 [(2, .int l2)] [] (S, I, L) =
  some (some (.int l2), (S, I, L)) :=
  (blk_ok zcod none d zc_X8_hooksReaching [(54, .ireturn, 55, [0], none)] (53, .iload_n 2, 54, [], some [2]) (by decide +kernel) _ _ _).trans rfl
theorem E_X5_clear (d : Nat) (M : zM) (l0 : Nat) : evM zcod (d + 1) 33 [.ref l0] M = evk zcod none d zc_X5_clear 0 [(0, .ref l0)] [] M := evM_eq zcod d 33 _ M (Nat.le_of_ble_eq_true rfl)
theorem B_X5_clear_0 (d : Nat) (S : mS) (I : mI) (L : mJ) (l0 : Nat) :
  evk zcod none d zc_X5_clear 0 [(0, .ref l0)] [] (S, I, L) =
  if kK S l0 = 5 then
 (if kK S (kR S l0 0) = 8 then
 (bV (evM zcod d 20 [.ref (kR S l0 0)] (S, I, L)) fun M1 =>
 if M1.1.1 = S.1 then
 (if kK M1.1 l0 = 5 then
 (if kK M1.1 (kR M1.1 l0 1) = 3 then
 (bV (evM zcod d 10 [.ref (kR M1.1 l0 1)] M1) fun M2 =>
 if M2.1.1 = M1.1.1 then
 (if kK M2.1 l0 = 5 then
 (if kK M2.1 l0 = 5 then
 (evk zcod none d zc_X5_clear 25 [(0, .ref l0)] [] (M2.1, (uI (uI M2.2.1 l0 2 (nI 10)) l0 3 (nI 0)), M2.2.2)) else none) else none) else none) else none) else none) else none) else none) else none :=
  (blk_ok zcod none d zc_X5_clear [(1, .getfield 12, 4, [5, 0, 2, 81, 0], none), (4, .invokevirtual 28, 7, [20, 0, 0, 8, 91, 92, 93, 60], none), (7, .aload_n 0, 8, [], none), (8, .getfield 21, 11, [5, 1, 2, 86, 0], none), (11, .invokevirtual 29, 14, [10, 0, 0, 3, 94, 95, 96, 29], none), (14, .aload_n 0, 15, [], none), (15, .bipush 10, 17, [], none), (17, .putfield 30, 20, [5, 2, 0, 97, 0, 0], none), (20, .aload_n 0, 21, [], none), (21, .iconst 0, 22, [], none), (22, .putfield 34, 25, [5, 3, 0, 98, 0, 0], none)] (0, .aload_n 0, 1, [], none) (by decide +kernel) _ _ _).trans rfl
theorem B_X5_clear_25 (d : Nat) (S : mS) (I : mI) (L : mJ) (l0 : Nat) :
  evk zcod none d zc_X5_clear 25 [(0, .ref l0)] [] (S, I, L) =
  if kK S l0 = 5 then
 (some (none, (S, (uI I l0 4 (nI 0)), L))) else none :=
  (blk_ok zcod none d zc_X5_clear [(26, .iconst 0, 27, [], none), (27, .putfield 37, 30, [5, 4, 0, 99, 0, 0], none), (30, .return_, 31, [], none)] (25, .aload_n 0, 26, [], some [0]) (by decide +kernel) _ _ _).trans rfl
theorem E_X5_become (d : Nat) (M : zM) (l0 : Nat) (l1 : Nat) : evM zcod (d + 1) 34 [.ref l0, .ref l1] M = evk zcod none d zc_X5_become 0 [(0, .ref l0), (1, .ref l1)] [] M := evM_eq zcod d 34 _ M (Nat.le_of_ble_eq_true rfl)
theorem B_X5_become_0 (d : Nat) (S : mS) (I : mI) (L : mJ) (l0 : Nat) (l1 : Nat) :
  evk zcod none d zc_X5_become 0 [(0, .ref l0), (1, .ref l1)] [] (S, I, L) =
  if kK S l0 = 5 then
 (if kK S l1 = 5 then
 (if kK S (kR S l0 0) = 8 then
 (bV (evM zcod d 21 [.ref (kR S l0 0), .ref (kR S l1 0)] (S, I, L)) fun M1 =>
 if M1.1.1 = S.1 then
 (if kK M1.1 l0 = 5 then
 (if kK M1.1 l1 = 5 then
 (if kK M1.1 (kR M1.1 l0 1) = 3 then
 (bV (evM zcod d 11 [.ref (kR M1.1 l0 1), .ref (kR M1.1 l1 1)] M1) fun M2 =>
 if M2.1.1 = M1.1.1 then
 (if kK M2.1 l1 = 5 then
 (if kK M2.1 l0 = 5 then
 (if kK M2.1 l1 = 5 then
 (if kK M2.1 l0 = 5 then
 (evk zcod none d zc_X5_become 38 [(0, .ref l0), (1, .ref l1)] [] (M2.1, (uI (uI M2.2.1 l0 2 (M2.2.1 l1 2)) l0 3 ((uI M2.2.1 l0 2 (M2.2.1 l1 2)) l1 3)), M2.2.2)) else none) else none) else none) else none) else none) else none) else none) else none) else none) else none) else none) else none :=
  (blk_ok zcod none d zc_X5_become [(1, .getfield 12, 4, [5, 0, 2, 81, 0], none), (4, .aload_n 1, 5, [], none), (5, .getfield 12, 8, [5, 0, 2, 81, 0], none), (8, .invokevirtual 40, 11, [21, 1, 0, 8, 100, 101, 102, 60], none), (11, .aload_n 0, 12, [], none), (12, .getfield 21, 15, [5, 1, 2, 86, 0], none), (15, .aload_n 1, 16, [], none), (16, .getfield 21, 19, [5, 1, 2, 86, 0], none), (19, .invokevirtual 44, 22, [11, 1, 0, 3, 103, 104, 105, 29], none), (22, .aload_n 0, 23, [], none), (23, .aload_n 1, 24, [], none), (24, .getfield 30, 27, [5, 2, 0, 97, 0], none), (27, .putfield 30, 30, [5, 2, 0, 97, 0, 0], none), (30, .aload_n 0, 31, [], none), (31, .aload_n 1, 32, [], none), (32, .getfield 34, 35, [5, 3, 0, 98, 0], none), (35, .putfield 34, 38, [5, 3, 0, 98, 0, 0], none)] (0, .aload_n 0, 1, [], none) (by decide +kernel) _ _ _).trans rfl
theorem B_X5_become_38 (d : Nat) (S : mS) (I : mI) (L : mJ) (l0 : Nat) (l1 : Nat) :
  evk zcod none d zc_X5_become 38 [(0, .ref l0), (1, .ref l1)] [] (S, I, L) =
  if kK S l1 = 5 then
 (if kK S l0 = 5 then
 (some (none, (S, (uI I l0 4 (I l1 4)), L))) else none) else none :=
  (blk_ok zcod none d zc_X5_become [(39, .aload_n 1, 40, [], none), (40, .getfield 37, 43, [5, 4, 0, 99, 0], none), (43, .putfield 37, 46, [5, 4, 0, 99, 0, 0], none), (46, .return_, 47, [], none)] (38, .aload_n 0, 39, [], some [0, 1]) (by decide +kernel) _ _ _).trans rfl
theorem E_J0_length_8abf5 (d : Nat) (M : zM) (l0 : Nat) : evM zcod (d + 1) 262 [.ref l0] M = evk zcod none d zc_J0_length_8abf5 0 [(0, .ref l0)] [] M := evM_eq zcod d 262 _ M (Nat.le_of_ble_eq_true rfl)
theorem B_J0_length_8abf5_0 (d : Nat) (S : mS) (I : mI) (L : mJ) (l0 : Nat) :
  evk zcod none d zc_J0_length_8abf5 0 [(0, .ref l0)] [] (S, I, L) =
  if kK S l0 = 30 then
 (if kK S (l0 + 2) = 31 then
 (if kK S l0 = 30 then
 (bI (evM zcod d 263 [.ref l0] (S, I, L)) fun x1 M1 =>
 if M1.1.1 = S.1 then
 (some (some (.int ((nI (zby (l0 + 2)).length) >>> (x1 &&& nI 31))), M1)) else none) else none) else none) else none :=
  (blk_ok zcod none d zc_J0_length_8abf5 [(1, .getfield 9, 4, [30, 0, 0, 901], none), (4, .arraylength, 5, [31], none), (5, .aload_n 0, 6, [], none), (6, .invokevirtual 335, 9, [263, 0, 1, 30, 902, 903, 904, 120], none), (9, .ishr, 10, [], none), (10, .ireturn, 11, [0], none)] (0, .aload_n 0, 1, [], none) (by decide +kernel) _ _ _).trans rfl
theorem E_J0_coder_7d493 (d : Nat) (M : zM) (l0 : Nat) : evM zcod (d + 1) 263 [.ref l0] M = evk zcod none d zc_J0_coder_7d493 0 [(0, .ref l0)] [] M := evM_eq zcod d 263 _ M (Nat.le_of_ble_eq_true rfl)
theorem B_J0_coder_7d493_0 (d : Nat) (S : mS) (I : mI) (L : mJ) (l0 : Nat) :
  evk zcod none d zc_J0_coder_7d493 0 [(0, .ref l0)] [] (S, I, L) =
  if (nI 1) = (nI 0) then
 evk zcod none d zc_J0_coder_7d493 13 [] [] (S, I, L)
 else
 if kK S l0 = 30 then
 (evk zcod none d zc_J0_coder_7d493 14 [] [.int (nI 0)] (S, I, L)) else none :=
  (blk_ok zcod none d zc_J0_coder_7d493 [(3, .ifCond .eq 10, 6, [13], none), (6, .aload_n 0, 7, [], none), (7, .getfield 15, 10, [30, 1, 0, 906], none), (10, .goto 4, 13, [14], none)] (0, .getstatic 38, 3, [0, 905], none) (by decide +kernel) _ _ _).trans rfl
theorem B_J0_coder_7d493_13 (d : Nat) (S : mS) (I : mI) (L : mJ)  :
  evk zcod none d zc_J0_coder_7d493 13 [] [] (S, I, L) =
  evk zcod none d zc_J0_coder_7d493 14 [] [.int (nI 1)] (S, I, L) :=
  (blk_ok zcod none d zc_J0_coder_7d493 [] (13, .iconst 1, 14, [], some []) (by decide +kernel) _ _ _).trans rfl
theorem B_J0_coder_7d493_14 (d : Nat) (S : mS) (I : mI) (L : mJ) (s0 : Int32) :
  evk zcod none d zc_J0_coder_7d493 14 [] [.int s0] (S, I, L) =
  if -128 ≤ s0.toInt ∧ s0.toInt < 128 then some (some (.int s0), (S, I, L)) else none :=
  (blk_ok zcod none d zc_J0_coder_7d493 [] (14, .ireturn, 15, [3], some []) (by decide +kernel) _ _ _).trans rfl
theorem E_J0_charAt_5068e (d : Nat) (M : zM) (l0 : Nat) (l1 : Int32) : evM zcod (d + 1) 264 [.ref l0, .int l1] M = evk zcod none d zc_J0_charAt_5068e 0 [(0, .ref l0), (1, .int l1)] [] M := evM_eq zcod d 264 _ M (Nat.le_of_ble_eq_true rfl)
theorem B_J0_charAt_5068e_0 (d : Nat) (S : mS) (I : mI) (L : mJ) (l0 : Nat) (l1 : Int32) :
  evk zcod none d zc_J0_charAt_5068e 0 [(0, .ref l0), (1, .int l1)] [] (S, I, L) =
  if kK S l0 = 30 then
 (bI (evM zcod d 265 [.ref l0] (S, I, L)) fun x1 M1 =>
 if M1.1.1 = S.1 then
 (if x1 = (nI 0) then
 evk zcod none d zc_J0_charAt_5068e 16 [(0, .ref l0), (1, .int l1)] [] M1
 else
 if kK M1.1 l0 = 30 then
 (bI (evM zcod d 266 [.ref (l0 + 2), .int l1] M1) fun x2 M2 =>
 if M2.1.1 = M1.1.1 then
 (if 0 ≤ x2.toInt ∧ x2.toInt < 65536 then some (some (.int x2), M2) else none) else none) else none) else none) else none :=
  (blk_ok zcod none d zc_J0_charAt_5068e [(1, .invokevirtual 492, 4, [265, 0, 1, 30, 907, 908, 909, 120], none), (4, .ifCond .eq 12, 7, [16], none), (7, .aload_n 0, 8, [], none), (8, .getfield 9, 11, [30, 0, 0, 901], none), (11, .iload_n 1, 12, [], none), (12, .invokestatic 495, 15, [266, 2, 1, 0, 910, 911, 912], none), (15, .ireturn, 16, [2], none)] (0, .aload_n 0, 1, [], none) (by decide +kernel) _ _ _).trans rfl
theorem B_J0_charAt_5068e_16 (d : Nat) (S : mS) (I : mI) (L : mJ) (l0 : Nat) (l1 : Int32) :
  evk zcod none d zc_J0_charAt_5068e 16 [(0, .ref l0), (1, .int l1)] [] (S, I, L) =
  if kK S l0 = 30 then
 (none) else none :=
  (blk_ok zcod none d zc_J0_charAt_5068e [(17, .getfield 9, 20, [30, 0, 0, 901], none), (20, .iload_n 1, 21, [], none), (21, .nop, 24, [], none)] (16, .aload_n 0, 17, [], some [0, 1]) (by decide +kernel) _ _ _).trans rfl
theorem E_J0_isLatin1_aae02 (d : Nat) (M : zM) (l0 : Nat) : evM zcod (d + 1) 265 [.ref l0] M = evk zcod none d zc_J0_isLatin1_aae02 0 [(0, .ref l0)] [] M := evM_eq zcod d 265 _ M (Nat.le_of_ble_eq_true rfl)
theorem B_J0_isLatin1_aae02_0 (d : Nat) (S : mS) (I : mI) (L : mJ) (l0 : Nat) :
  evk zcod none d zc_J0_isLatin1_aae02 0 [(0, .ref l0)] [] (S, I, L) =
  if (nI 1) = (nI 0) then
 evk zcod none d zc_J0_isLatin1_aae02 17 [] [] (S, I, L)
 else
 if kK S l0 = 30 then
 (if ¬ (nI 0) = (nI 0) then
 evk zcod none d zc_J0_isLatin1_aae02 17 [] [] (S, I, L)
 else
 evk zcod none d zc_J0_isLatin1_aae02 18 [] [.int (nI 1)] (S, I, L)) else none :=
  (blk_ok zcod none d zc_J0_isLatin1_aae02 [(3, .ifCond .eq 14, 6, [17], none), (6, .aload_n 0, 7, [], none), (7, .getfield 15, 10, [30, 1, 0, 906], none), (10, .ifCond .ne 7, 13, [17], none), (13, .iconst 1, 14, [], none), (14, .goto 4, 17, [18], none)] (0, .getstatic 38, 3, [0, 905], none) (by decide +kernel) _ _ _).trans rfl
theorem B_J0_isLatin1_aae02_17 (d : Nat) (S : mS) (I : mI) (L : mJ)  :
  evk zcod none d zc_J0_isLatin1_aae02 17 [] [] (S, I, L) =
  evk zcod none d zc_J0_isLatin1_aae02 18 [] [.int (nI 0)] (S, I, L) :=
  (blk_ok zcod none d zc_J0_isLatin1_aae02 [] (17, .iconst 0, 18, [], some []) (by decide +kernel) _ _ _).trans rfl
theorem B_J0_isLatin1_aae02_18 (d : Nat) (S : mS) (I : mI) (L : mJ) (s0 : Int32) :
  evk zcod none d zc_J0_isLatin1_aae02 18 [] [.int s0] (S, I, L) =
  if s0 = nI 0 ∨ s0 = nI 1 then some (some (.int s0), (S, I, L)) else none :=
  (blk_ok zcod none d zc_J0_isLatin1_aae02 [] (18, .ireturn, 19, [1], some []) (by decide +kernel) _ _ _).trans rfl
theorem E_J1_charAt_3b067 (d : Nat) (M : zM) (l0 : Nat) (l1 : Int32) : evM zcod (d + 1) 266 [.ref l0, .int l1] M = evk zcod none d zc_J1_charAt_3b067 0 [(0, .ref l0), (1, .int l1)] [] M := evM_eq zcod d 266 _ M (Nat.le_of_ble_eq_true rfl)
theorem B_J1_charAt_3b067_0 (d : Nat) (S : mS) (I : mI) (L : mJ) (l0 : Nat) (l1 : Int32) :
  evk zcod none d zc_J1_charAt_3b067 0 [(0, .ref l0), (1, .int l1)] [] (S, I, L) =
  if kK S l0 = 31 then
 (bV (evM zcod d 267 [.int l1, .int (nI (zby l0).length)] (S, I, L)) fun M1 =>
 if M1.1.1 = S.1 then
 (if kK M1.1 l0 = 31 ∧ zin l1 (zby l0).length then
 (if 0 ≤ (((((zby l0).getD (zix l1) 0) &&& (nI 255)).toUInt32 % 65536).toInt32).toInt ∧ (((((zby l0).getD (zix l1) 0) &&& (nI 255)).toUInt32 % 65536).toInt32).toInt < 65536 then some (some (.int (((((zby l0).getD (zix l1) 0) &&& (nI 255)).toUInt32 % 65536).toInt32)), M1) else none) else none) else none) else none :=
  (blk_ok zcod none d zc_J1_charAt_3b067 [(1, .aload_n 0, 2, [], none), (2, .arraylength, 3, [31], none), (3, .invokestatic 9, 6, [267, 2, 0, 0, 913, 914, 120], none), (6, .aload_n 0, 7, [], none), (7, .iload_n 1, 8, [], none), (8, .baload, 9, [31], none), (9, .sipush 255, 12, [], none), (12, .iand, 13, [], none), (13, .i2c, 14, [], none), (14, .ireturn, 15, [2], none)] (0, .iload_n 1, 1, [], none) (by decide +kernel) _ _ _).trans rfl
theorem E_J0_checkIndex_df160 (d : Nat) (M : zM) (l0 : Int32) (l1 : Int32) : evM zcod (d + 1) 267 [.int l0, .int l1] M = evk zcod none d zc_J0_checkIndex_df160 0 [(0, .int l0), (1, .int l1)] [] M := evM_eq zcod d 267 _ M (Nat.le_of_ble_eq_true rfl)
theorem B_J0_checkIndex_df160_0 (d : Nat) (S : mS) (I : mI) (L : mJ) (l0 : Int32) (l1 : Int32) :
  evk zcod none d zc_J0_checkIndex_df160 0 [(0, .int l0), (1, .int l1)] [] (S, I, L) =
  bI (evM zcod d 268 [.int l0, .int l1, .retAddr 0] (S, I, L)) fun x1 M1 =>
 if M1.1.1 = S.1 then
 (some (none, M1)) else none :=
  (blk_ok zcod none d zc_J0_checkIndex_df160 [(1, .iload_n 1, 2, [], none), (2, .getstatic 1053, 5, [1, 915], none), (5, .invokestatic 1059, 8, [268, 3, 1, 0, 916, 917, 918], none), (8, .pop, 9, [], none), (9, .return_, 10, [], none)] (0, .iload_n 0, 1, [], none) (by decide +kernel) _ _ _).trans rfl
theorem E_J3_checkIndex_8e157 (d : Nat) (M : zM) (l0 : Int32) (l1 : Int32) : evM zcod (d + 1) 268 [.int l0, .int l1, .retAddr 0] M = evk zcod none d zc_J3_checkIndex_8e157 0 [(0, .int l0), (1, .int l1), (2, .retAddr 0)] [] M := evM_eq zcod d 268 _ M (Nat.le_of_ble_eq_true rfl)
theorem B_J3_checkIndex_8e157_0 (d : Nat) (S : mS) (I : mI) (L : mJ) (l0 : Int32) (l1 : Int32) (l2 : Nat) :
  evk zcod none d zc_J3_checkIndex_8e157 0 [(0, .int l0), (1, .int l1), (2, .ref l2)] [] (S, I, L) =
  if l0 < (nI 0) then
 evk zcod none d zc_J3_checkIndex_8e157 9 [(0, .int l0), (1, .int l1), (2, .ref l2)] [] (S, I, L)
 else
 if l0 < l1 then
 evk zcod none d zc_J3_checkIndex_8e157 16 [(0, .int l0)] [] (S, I, L)
 else
 evk zcod none d zc_J3_checkIndex_8e157 9 [(0, .int l0), (1, .int l1), (2, .ref l2)] [] (S, I, L) :=
  (blk_ok zcod none d zc_J3_checkIndex_8e157 [(1, .ifCond .lt 8, 4, [9], none), (4, .iload_n 0, 5, [], none), (5, .iload_n 1, 6, [], none), (6, .if_icmp .lt 10, 9, [16], none)] (0, .iload_n 0, 1, [], none) (by decide +kernel) _ _ _).trans rfl
theorem B_J3_checkIndex_8e157_9 (d : Nat) (S : mS) (I : mI) (L : mJ) (l0 : Int32) (l1 : Int32) (l2 : Nat) :
  evk zcod none d zc_J3_checkIndex_8e157 9 [(0, .int l0), (1, .int l1), (2, .ref l2)] [] (S, I, L) =
  none :=
  (blk_ok zcod none d zc_J3_checkIndex_8e157 [(10, .iload_n 0, 11, [], none), (11, .iload_n 1, 12, [], none), (12, .nop, 15, [], none)] (9, .aload_n 2, 10, [], some [0, 1, 2]) (by decide +kernel) _ _ _).trans rfl
theorem B_J3_checkIndex_8e157_16 (d : Nat) (S : mS) (I : mI) (L : mJ) (l0 : Int32) :
  evk zcod none d zc_J3_checkIndex_8e157 16 [(0, .int l0)] [] (S, I, L) =
  some (some (.int l0), (S, I, L)) :=
  (blk_ok zcod none d zc_J3_checkIndex_8e157 [(17, .ireturn, 18, [0], none)] (16, .iload_n 0, 17, [], some [0]) (by decide +kernel) _ _ _).trans rfl
theorem E_J0_indexOf_0f7a4 (d : Nat) (M : zM) (l0 : Nat) (l1 : Int32) : evM zcod (d + 1) 269 [.ref l0, .int l1] M = evk zcod none d zc_J0_indexOf_0f7a4 0 [(0, .ref l0), (1, .int l1)] [] M := evM_eq zcod d 269 _ M (Nat.le_of_ble_eq_true rfl)
theorem B_J0_indexOf_0f7a4_0 (d : Nat) (S : mS) (I : mI) (L : mJ) (l0 : Nat) (l1 : Int32) :
  evk zcod none d zc_J0_indexOf_0f7a4 0 [(0, .ref l0), (1, .int l1)] [] (S, I, L) =
  if kK S l0 = 30 then
 (bI (evM zcod d 270 [.ref l0, .int l1, .int (nI 0)] (S, I, L)) fun x1 M1 =>
 if M1.1.1 = S.1 then
 (some (some (.int x1), M1)) else none) else none :=
  (blk_ok zcod none d zc_J0_indexOf_0f7a4 [(1, .iload_n 1, 2, [], none), (2, .iconst 0, 3, [], none), (3, .invokevirtual 633, 6, [270, 2, 1, 30, 919, 920, 921, 120], none), (6, .ireturn, 7, [0], none)] (0, .aload_n 0, 1, [], none) (by decide +kernel) _ _ _).trans rfl
theorem E_J0_indexOf_7cf53 (d : Nat) (M : zM) (l0 : Nat) (l1 : Int32) (l2 : Int32) : evM zcod (d + 1) 270 [.ref l0, .int l1, .int l2] M = evk zcod none d zc_J0_indexOf_7cf53 0 [(0, .ref l0), (1, .int l1), (2, .int l2)] [] M := evM_eq zcod d 270 _ M (Nat.le_of_ble_eq_true rfl)
theorem B_J0_indexOf_7cf53_0 (d : Nat) (S : mS) (I : mI) (L : mJ) (l0 : Nat) (l1 : Int32) (l2 : Int32) :
  evk zcod none d zc_J0_indexOf_7cf53 0 [(0, .ref l0), (1, .int l1), (2, .int l2)] [] (S, I, L) =
  if kK S l0 = 30 then
 (bI (evM zcod d 265 [.ref l0] (S, I, L)) fun x1 M1 =>
 if M1.1.1 = S.1 then
 (if x1 = (nI 0) then
 evk zcod none d zc_J0_indexOf_7cf53 23 [(0, .ref l0), (1, .int l1), (2, .int l2)] [] M1
 else
 if kK M1.1 l0 = 30 then
 (if kK M1.1 l0 = 30 then
 (bI (evM zcod d 262 [.ref l0] M1) fun x2 M2 =>
 if M2.1.1 = M1.1.1 then
 (bI (evM zcod d 271 [.ref (l0 + 2), .int l1, .int l2, .int x2] M2) fun x3 M3 =>
 if M3.1.1 = M2.1.1 then
 (evk zcod none d zc_J0_indexOf_7cf53 36 [] [.int x3] M3) else none) else none) else none) else none) else none) else none :=
  (blk_ok zcod none d zc_J0_indexOf_7cf53 [(1, .invokevirtual 492, 4, [265, 0, 1, 30, 907, 908, 909, 120], none), (4, .ifCond .eq 19, 7, [23], none), (7, .aload_n 0, 8, [], none), (8, .getfield 9, 11, [30, 0, 0, 901], none), (11, .iload_n 1, 12, [], none), (12, .iload_n 2, 13, [], none), (13, .aload_n 0, 14, [], none), (14, .invokevirtual 505, 17, [262, 0, 1, 30, 922, 118, 119, 120], none), (17, .invokestatic 637, 20, [271, 4, 1, 0, 923, 924, 912], none), (20, .goto 16, 23, [36], none)] (0, .aload_n 0, 1, [], none) (by decide +kernel) _ _ _).trans rfl
theorem B_J0_indexOf_7cf53_23 (d : Nat) (S : mS) (I : mI) (L : mJ) (l0 : Nat) (l1 : Int32) (l2 : Int32) :
  evk zcod none d zc_J0_indexOf_7cf53 23 [(0, .ref l0), (1, .int l1), (2, .int l2)] [] (S, I, L) =
  if kK S l0 = 30 then
 (if kK S l0 = 30 then
 (bI (evM zcod d 262 [.ref l0] (S, I, L)) fun x1 M1 =>
 if M1.1.1 = S.1 then
 (none) else none) else none) else none :=
  (blk_ok zcod none d zc_J0_indexOf_7cf53 [(24, .getfield 9, 27, [30, 0, 0, 901], none), (27, .iload_n 1, 28, [], none), (28, .iload_n 2, 29, [], none), (29, .aload_n 0, 30, [], none), (30, .invokevirtual 505, 33, [262, 0, 1, 30, 922, 118, 119, 120], none), (33, .nop, 36, [], none)] (23, .aload_n 0, 24, [], some [0, 1, 2]) (by decide +kernel) _ _ _).trans rfl
theorem B_J0_indexOf_7cf53_36 (d : Nat) (S : mS) (I : mI) (L : mJ) (s0 : Int32) :
  evk zcod none d zc_J0_indexOf_7cf53 36 [] [.int s0] (S, I, L) =
  some (some (.int s0), (S, I, L)) :=
  (blk_ok zcod none d zc_J0_indexOf_7cf53 [] (36, .ireturn, 37, [0], some []) (by decide +kernel) _ _ _).trans rfl
theorem E_J1_indexOf_4cfef (d : Nat) (M : zM) (l0 : Nat) (l1 : Int32) (l2 : Int32) (l3 : Int32) : evM zcod (d + 1) 271 [.ref l0, .int l1, .int l2, .int l3] M = evk zcod none d zc_J1_indexOf_4cfef 0 [(0, .ref l0), (1, .int l1), (2, .int l2), (3, .int l3)] [] M := evM_eq zcod d 271 _ M (Nat.le_of_ble_eq_true rfl)
theorem B_J1_indexOf_4cfef_0 (d : Nat) (S : mS) (I : mI) (L : mJ) (l0 : Nat) (l1 : Int32) (l2 : Int32) (l3 : Int32) :
  evk zcod none d zc_J1_indexOf_4cfef 0 [(0, .ref l0), (1, .int l1), (2, .int l2), (3, .int l3)] [] (S, I, L) =
  bI (evM zcod d 272 [.int l1] (S, I, L)) fun x1 M1 =>
 if M1.1.1 = S.1 then
 (if ¬ x1 = (nI 0) then
 evk zcod none d zc_J1_indexOf_4cfef 9 [(0, .ref l0), (1, .int l1), (2, .int l2), (3, .int l3)] [] M1
 else
 some (some (.int (-1 : Int32)), M1)) else none :=
  (blk_ok zcod none d zc_J1_indexOf_4cfef [(1, .invokestatic 88, 4, [272, 1, 1, 0, 925, 926, 912], none), (4, .ifCond .ne 5, 7, [9], none), (7, .iconst (-1), 8, [], none), (8, .ireturn, 9, [0], none)] (0, .iload_n 1, 1, [], none) (by decide +kernel) _ _ _).trans rfl
theorem B_J1_indexOf_4cfef_9 (d : Nat) (S : mS) (I : mI) (L : mJ) (l0 : Nat) (l1 : Int32) (l2 : Int32) (l3 : Int32) :
  evk zcod none d zc_J1_indexOf_4cfef 9 [(0, .ref l0), (1, .int l1), (2, .int l2), (3, .int l3)] [] (S, I, L) =
  bI (evM zcod d 274 [.int l2, .int (nI 0)] (S, I, L)) fun x1 M1 =>
 if M1.1.1 = S.1 then
 (if kK M1.1 l0 = 31 then
 (bI (evM zcod d 275 [.int l3, .int (nI (zby l0).length)] M1) fun x2 M2 =>
 if M2.1.1 = M1.1.1 then
 (if x1 < x2 then
 evk zcod none d zc_J1_indexOf_4cfef 29 [(0, .ref l0), (1, .int l1), (2, .int x1), (3, .int x2)] [] M2
 else
 some (some (.int (-1 : Int32)), M2)) else none) else none) else none :=
  (blk_ok zcod none d zc_J1_indexOf_4cfef [(10, .iconst 0, 11, [], none), (11, .invokestatic 92, 14, [274, 2, 1, 0, 927, 410, 17], none), (14, .istore_n 2, 15, [], none), (15, .iload_n 3, 16, [], none), (16, .aload_n 0, 17, [], none), (17, .arraylength, 18, [31], none), (18, .invokestatic 38, 21, [275, 2, 1, 0, 928, 16, 17], none), (21, .istore_n 3, 22, [], none), (22, .iload_n 2, 23, [], none), (23, .iload_n 3, 24, [], none), (24, .if_icmp .lt 5, 27, [29], none), (27, .iconst (-1), 28, [], none), (28, .ireturn, 29, [0], none)] (9, .iload_n 2, 10, [], some [0, 1, 2, 3]) (by decide +kernel) _ _ _).trans rfl
theorem B_J1_indexOf_4cfef_29 (d : Nat) (S : mS) (I : mI) (L : mJ) (l0 : Nat) (l1 : Int32) (l2 : Int32) (l3 : Int32) :
  evk zcod none d zc_J1_indexOf_4cfef 29 [(0, .ref l0), (1, .int l1), (2, .int l2), (3, .int l3)] [] (S, I, L) =
  bI (evM zcod d 273 [.ref l0, .int l1, .int l2, .int l3] (S, I, L)) fun x1 M1 =>
 if M1.1.1 = S.1 then
 (some (some (.int x1), M1)) else none :=
  (blk_ok zcod none d zc_J1_indexOf_4cfef [(30, .iload_n 1, 31, [], none), (31, .iload_n 2, 32, [], none), (32, .iload_n 3, 33, [], none), (33, .invokestatic 95, 36, [273, 4, 1, 0, 929, 930, 912], none), (36, .ireturn, 37, [0], none)] (29, .aload_n 0, 30, [], some [0, 1, 2, 3]) (by decide +kernel) _ _ _).trans rfl
theorem E_J1_canEncode_9a6ad (d : Nat) (M : zM) (l0 : Int32) : evM zcod (d + 1) 272 [.int l0] M = evk zcod none d zc_J1_canEncode_9a6ad 0 [(0, .int l0)] [] M := evM_eq zcod d 272 _ M (Nat.le_of_ble_eq_true rfl)
theorem B_J1_canEncode_9a6ad_0 (d : Nat) (S : mS) (I : mI) (L : mJ) (l0 : Int32) :
  evk zcod none d zc_J1_canEncode_9a6ad 0 [(0, .int l0)] [] (S, I, L) =
  if l0 < (nI 0) then
 evk zcod none d zc_J1_canEncode_9a6ad 15 [] [] (S, I, L)
 else
 if (nI 255) < l0 then
 evk zcod none d zc_J1_canEncode_9a6ad 15 [] [] (S, I, L)
 else
 evk zcod none d zc_J1_canEncode_9a6ad 16 [] [.int (nI 1)] (S, I, L) :=
  (blk_ok zcod none d zc_J1_canEncode_9a6ad [(1, .ifCond .lt 14, 4, [15], none), (4, .iload_n 0, 5, [], none), (5, .sipush 255, 8, [], none), (8, .if_icmp .gt 7, 11, [15], none), (11, .iconst 1, 12, [], none), (12, .goto 4, 15, [16], none)] (0, .iload_n 0, 1, [], none) (by decide +kernel) _ _ _).trans rfl
theorem B_J1_canEncode_9a6ad_15 (d : Nat) (S : mS) (I : mI) (L : mJ)  :
  evk zcod none d zc_J1_canEncode_9a6ad 15 [] [] (S, I, L) =
  evk zcod none d zc_J1_canEncode_9a6ad 16 [] [.int (nI 0)] (S, I, L) :=
  (blk_ok zcod none d zc_J1_canEncode_9a6ad [] (15, .iconst 0, 16, [], some []) (by decide +kernel) _ _ _).trans rfl
theorem B_J1_canEncode_9a6ad_16 (d : Nat) (S : mS) (I : mI) (L : mJ) (s0 : Int32) :
  evk zcod none d zc_J1_canEncode_9a6ad 16 [] [.int s0] (S, I, L) =
  if s0 = nI 0 ∨ s0 = nI 1 then some (some (.int s0), (S, I, L)) else none :=
  (blk_ok zcod none d zc_J1_canEncode_9a6ad [] (16, .ireturn, 17, [1], some []) (by decide +kernel) _ _ _).trans rfl
theorem E_J1_indexOfChar_4cfef (d : Nat) (M : zM) (l0 : Nat) (l1 : Int32) (l2 : Int32) (l3 : Int32) : evM zcod (d + 1) 273 [.ref l0, .int l1, .int l2, .int l3] M = evk zcod none d zc_J1_indexOfChar_4cfef 0 [(0, .ref l0), (1, .int l1), (2, .int l2), (3, .int l3)] [] M := evM_eq zcod d 273 _ M (Nat.le_of_ble_eq_true rfl)
theorem B_J1_indexOfChar_4cfef_0 (d : Nat) (S : mS) (I : mI) (L : mJ) (l0 : Nat) (l1 : Int32) (l2 : Int32) (l3 : Int32) :
  evk zcod none d zc_J1_indexOfChar_4cfef 0 [(0, .ref l0), (1, .int l1), (2, .int l2), (3, .int l3)] [] (S, I, L) =
  evk zcod none d zc_J1_indexOfChar_4cfef 7 [(0, .ref l0), (3, .int l3), (4, .int l1.toInt8.toInt32), (5, .int l2)] [] (S, I, L) :=
  (blk_ok zcod none d zc_J1_indexOfChar_4cfef [(1, .i2b, 2, [], none), (2, .istore 4, 4, [], none), (4, .iload_n 2, 5, [], none), (5, .istore 5, 7, [], none)] (0, .iload_n 1, 1, [], none) (by decide +kernel) _ _ _).trans rfl
theorem B_J1_indexOfChar_4cfef_7 (d : Nat) (S : mS) (I : mI) (L : mJ) (l0 : Nat) (l3 : Int32) (l4 : Int32) (l5 : Int32) :
  evk zcod none d zc_J1_indexOfChar_4cfef 7 [(0, .ref l0), (3, .int l3), (4, .int l4), (5, .int l5)] [] (S, I, L) =
  if l3 ≤ l5 then
 evk zcod none d zc_J1_indexOfChar_4cfef 31 [] [] (S, I, L)
 else
 if kK S l0 = 31 ∧ zin l5 (zby l0).length then
 (if ¬ ((zby l0).getD (zix l5) 0) = l4 then
 evk zcod none d zc_J1_indexOfChar_4cfef 25 [(0, .ref l0), (3, .int l3), (4, .int l4), (5, .int l5)] [] (S, I, L)
 else
 some (some (.int l5), (S, I, L))) else none :=
  (blk_ok zcod none d zc_J1_indexOfChar_4cfef [(9, .iload_n 3, 10, [], none), (10, .if_icmp .ge 21, 13, [31], none), (13, .aload_n 0, 14, [], none), (14, .iload 5, 16, [], none), (16, .baload, 17, [31], none), (17, .iload 4, 19, [], none), (19, .if_icmp .ne 6, 22, [25], none), (22, .iload 5, 24, [], none), (24, .ireturn, 25, [0], none)] (7, .iload 5, 9, [], some [0, 3, 4, 5]) (by decide +kernel) _ _ _).trans rfl
theorem B_J1_indexOfChar_4cfef_25 (d : Nat) (S : mS) (I : mI) (L : mJ) (l0 : Nat) (l3 : Int32) (l4 : Int32) (l5 : Int32) :
  evk zcod none d zc_J1_indexOfChar_4cfef 25 [(0, .ref l0), (3, .int l3), (4, .int l4), (5, .int l5)] [] (S, I, L) =
  evk zcod none d zc_J1_indexOfChar_4cfef 7 [(0, .ref l0), (3, .int l3), (4, .int l4), (5, .int (l5 + (nI 1)))] [] (S, I, L) :=
  (blk_ok zcod none d zc_J1_indexOfChar_4cfef [(28, .goto (-21), 31, [7], none)] (25, .iinc 5 1, 28, [], some [0, 3, 4, 5]) (by decide +kernel) _ _ _).trans rfl
theorem B_J1_indexOfChar_4cfef_31 (d : Nat) (S : mS) (I : mI) (L : mJ)  :
  evk zcod none d zc_J1_indexOfChar_4cfef 31 [] [] (S, I, L) =
  some (some (.int (-1 : Int32)), (S, I, L)) :=
  (blk_ok zcod none d zc_J1_indexOfChar_4cfef [(32, .ireturn, 33, [0], none)] (31, .iconst (-1), 32, [], some []) (by decide +kernel) _ _ _).trans rfl
theorem E_J9_max_7cf53 (d : Nat) (M : zM) (l0 : Int32) (l1 : Int32) : evM zcod (d + 1) 274 [.int l0, .int l1] M = evk zcod none d zc_J9_max_7cf53 0 [(0, .int l0), (1, .int l1)] [] M := evM_eq zcod d 274 _ M (Nat.le_of_ble_eq_true rfl)
theorem B_J9_max_7cf53_0 (d : Nat) (S : mS) (I : mI) (L : mJ) (l0 : Int32) (l1 : Int32) :
  evk zcod none d zc_J9_max_7cf53 0 [(0, .int l0), (1, .int l1)] [] (S, I, L) =
  if l0 < l1 then
 evk zcod none d zc_J9_max_7cf53 9 [(1, .int l1)] [] (S, I, L)
 else
 evk zcod none d zc_J9_max_7cf53 10 [] [.int l0] (S, I, L) :=
  (blk_ok zcod none d zc_J9_max_7cf53 [(1, .iload_n 1, 2, [], none), (2, .if_icmp .lt 7, 5, [9], none), (5, .iload_n 0, 6, [], none), (6, .goto 4, 9, [10], none)] (0, .iload_n 0, 1, [], none) (by decide +kernel) _ _ _).trans rfl
theorem B_J9_max_7cf53_9 (d : Nat) (S : mS) (I : mI) (L : mJ) (l1 : Int32) :
  evk zcod none d zc_J9_max_7cf53 9 [(1, .int l1)] [] (S, I, L) =
  evk zcod none d zc_J9_max_7cf53 10 [] [.int l1] (S, I, L) :=
  (blk_ok zcod none d zc_J9_max_7cf53 [] (9, .iload_n 1, 10, [], some [1]) (by decide +kernel) _ _ _).trans rfl
theorem B_J9_max_7cf53_10 (d : Nat) (S : mS) (I : mI) (L : mJ) (s0 : Int32) :
  evk zcod none d zc_J9_max_7cf53 10 [] [.int s0] (S, I, L) =
  some (some (.int s0), (S, I, L)) :=
  (blk_ok zcod none d zc_J9_max_7cf53 [] (10, .ireturn, 11, [0], some []) (by decide +kernel) _ _ _).trans rfl
theorem E_J9_min_7cf53 (d : Nat) (M : zM) (l0 : Int32) (l1 : Int32) : evM zcod (d + 1) 275 [.int l0, .int l1] M = evk zcod none d zc_J9_min_7cf53 0 [(0, .int l0), (1, .int l1)] [] M := evM_eq zcod d 275 _ M (Nat.le_of_ble_eq_true rfl)
theorem B_J9_min_7cf53_0 (d : Nat) (S : mS) (I : mI) (L : mJ) (l0 : Int32) (l1 : Int32) :
  evk zcod none d zc_J9_min_7cf53 0 [(0, .int l0), (1, .int l1)] [] (S, I, L) =
  if l1 < l0 then
 evk zcod none d zc_J9_min_7cf53 9 [(1, .int l1)] [] (S, I, L)
 else
 evk zcod none d zc_J9_min_7cf53 10 [] [.int l0] (S, I, L) :=
  (blk_ok zcod none d zc_J9_min_7cf53 [(1, .iload_n 1, 2, [], none), (2, .if_icmp .gt 7, 5, [9], none), (5, .iload_n 0, 6, [], none), (6, .goto 4, 9, [10], none)] (0, .iload_n 0, 1, [], none) (by decide +kernel) _ _ _).trans rfl
theorem B_J9_min_7cf53_9 (d : Nat) (S : mS) (I : mI) (L : mJ) (l1 : Int32) :
  evk zcod none d zc_J9_min_7cf53 9 [(1, .int l1)] [] (S, I, L) =
  evk zcod none d zc_J9_min_7cf53 10 [] [.int l1] (S, I, L) :=
  (blk_ok zcod none d zc_J9_min_7cf53 [] (9, .iload_n 1, 10, [], some [1]) (by decide +kernel) _ _ _).trans rfl
theorem B_J9_min_7cf53_10 (d : Nat) (S : mS) (I : mI) (L : mJ) (s0 : Int32) :
  evk zcod none d zc_J9_min_7cf53 10 [] [.int s0] (S, I, L) =
  some (some (.int s0), (S, I, L)) :=
  (blk_ok zcod none d zc_J9_min_7cf53 [] (10, .ireturn, 11, [0], some []) (by decide +kernel) _ _ _).trans rfl
theorem E_J9_abs_0f7a4 (d : Nat) (M : zM) (l0 : Int32) : evM zcod (d + 1) 276 [.int l0] M = evk zcod none d zc_J9_abs_0f7a4 0 [(0, .int l0)] [] M := evM_eq zcod d 276 _ M (Nat.le_of_ble_eq_true rfl)
theorem B_J9_abs_0f7a4_0 (d : Nat) (S : mS) (I : mI) (L : mJ) (l0 : Int32) :
  evk zcod none d zc_J9_abs_0f7a4 0 [(0, .int l0)] [] (S, I, L) =
  if (nI 0) ≤ l0 then
 evk zcod none d zc_J9_abs_0f7a4 9 [(0, .int l0)] [] (S, I, L)
 else
 evk zcod none d zc_J9_abs_0f7a4 10 [] [.int (-l0)] (S, I, L) :=
  (blk_ok zcod none d zc_J9_abs_0f7a4 [(1, .ifCond .ge 8, 4, [9], none), (4, .iload_n 0, 5, [], none), (5, .ineg, 6, [], none), (6, .goto 4, 9, [10], none)] (0, .iload_n 0, 1, [], none) (by decide +kernel) _ _ _).trans rfl
theorem B_J9_abs_0f7a4_9 (d : Nat) (S : mS) (I : mI) (L : mJ) (l0 : Int32) :
  evk zcod none d zc_J9_abs_0f7a4 9 [(0, .int l0)] [] (S, I, L) =
  evk zcod none d zc_J9_abs_0f7a4 10 [] [.int l0] (S, I, L) :=
  (blk_ok zcod none d zc_J9_abs_0f7a4 [] (9, .iload_n 0, 10, [], some [0]) (by decide +kernel) _ _ _).trans rfl
theorem B_J9_abs_0f7a4_10 (d : Nat) (S : mS) (I : mI) (L : mJ) (s0 : Int32) :
  evk zcod none d zc_J9_abs_0f7a4 10 [] [.int s0] (S, I, L) =
  some (some (.int s0), (S, I, L)) :=
  (blk_ok zcod none d zc_J9_abs_0f7a4 [] (10, .ireturn, 11, [0], some []) (by decide +kernel) _ _ _).trans rfl
theorem E_J6_bitCount_0f7a4 (d : Nat) (M : zM) (l0 : Int32) : evM zcod (d + 1) 277 [.int l0] M = evk zcod none d zc_J6_bitCount_0f7a4 0 [(0, .int l0)] [] M := evM_eq zcod d 277 _ M (Nat.le_of_ble_eq_true rfl)
theorem B_J6_bitCount_0f7a4_0 (d : Nat) (S : mS) (I : mI) (L : mJ) (l0 : Int32) :
  evk zcod none d zc_J6_bitCount_0f7a4 0 [(0, .int l0)] [] (S, I, L) =
  some (some (.int ((((((((l0 - ((l0.toUInt32 >>> ((nI 1).toUInt32 &&& 31)).toInt32 &&& (nI 1431655765))) &&& (nI 858993459)) + (((l0 - ((l0.toUInt32 >>> ((nI 1).toUInt32 &&& 31)).toInt32 &&& (nI 1431655765))).toUInt32 >>> ((nI 2).toUInt32 &&& 31)).toInt32 &&& (nI 858993459))) + ((((l0 - ((l0.toUInt32 >>> ((nI 1).toUInt32 &&& 31)).toInt32 &&& (nI 1431655765))) &&& (nI 858993459)) + (((l0 - ((l0.toUInt32 >>> ((nI 1).toUInt32 &&& 31)).toInt32 &&& (nI 1431655765))).toUInt32 >>> ((nI 2).toUInt32 &&& 31)).toInt32 &&& (nI 858993459))).toUInt32 >>> ((nI 4).toUInt32 &&& 31)).toInt32) &&& (nI 252645135)) + ((((((l0 - ((l0.toUInt32 >>> ((nI 1).toUInt32 &&& 31)).toInt32 &&& (nI 1431655765))) &&& (nI 858993459)) + (((l0 - ((l0.toUInt32 >>> ((nI 1).toUInt32 &&& 31)).toInt32 &&& (nI 1431655765))).toUInt32 >>> ((nI 2).toUInt32 &&& 31)).toInt32 &&& (nI 858993459))) + ((((l0 - ((l0.toUInt32 >>> ((nI 1).toUInt32 &&& 31)).toInt32 &&& (nI 1431655765))) &&& (nI 858993459)) + (((l0 - ((l0.toUInt32 >>> ((nI 1).toUInt32 &&& 31)).toInt32 &&& (nI 1431655765))).toUInt32 >>> ((nI 2).toUInt32 &&& 31)).toInt32 &&& (nI 858993459))).toUInt32 >>> ((nI 4).toUInt32 &&& 31)).toInt32) &&& (nI 252645135)).toUInt32 >>> ((nI 8).toUInt32 &&& 31)).toInt32) + (((((((l0 - ((l0.toUInt32 >>> ((nI 1).toUInt32 &&& 31)).toInt32 &&& (nI 1431655765))) &&& (nI 858993459)) + (((l0 - ((l0.toUInt32 >>> ((nI 1).toUInt32 &&& 31)).toInt32 &&& (nI 1431655765))).toUInt32 >>> ((nI 2).toUInt32 &&& 31)).toInt32 &&& (nI 858993459))) + ((((l0 - ((l0.toUInt32 >>> ((nI 1).toUInt32 &&& 31)).toInt32 &&& (nI 1431655765))) &&& (nI 858993459)) + (((l0 - ((l0.toUInt32 >>> ((nI 1).toUInt32 &&& 31)).toInt32 &&& (nI 1431655765))).toUInt32 >>> ((nI 2).toUInt32 &&& 31)).toInt32 &&& (nI 858993459))).toUInt32 >>> ((nI 4).toUInt32 &&& 31)).toInt32) &&& (nI 252645135)) + ((((((l0 - ((l0.toUInt32 >>> ((nI 1).toUInt32 &&& 31)).toInt32 &&& (nI 1431655765))) &&& (nI 858993459)) + (((l0 - ((l0.toUInt32 >>> ((nI 1).toUInt32 &&& 31)).toInt32 &&& (nI 1431655765))).toUInt32 >>> ((nI 2).toUInt32 &&& 31)).toInt32 &&& (nI 858993459))) + ((((l0 - ((l0.toUInt32 >>> ((nI 1).toUInt32 &&& 31)).toInt32 &&& (nI 1431655765))) &&& (nI 858993459)) + (((l0 - ((l0.toUInt32 >>> ((nI 1).toUInt32 &&& 31)).toInt32 &&& (nI 1431655765))).toUInt32 >>> ((nI 2).toUInt32 &&& 31)).toInt32 &&& (nI 858993459))).toUInt32 >>> ((nI 4).toUInt32 &&& 31)).toInt32) &&& (nI 252645135)).toUInt32 >>> ((nI 8).toUInt32 &&& 31)).toInt32).toUInt32 >>> ((nI 16).toUInt32 &&& 31)).toInt32) &&& (nI 63))), (S, I, L)) :=
  (blk_ok zcod none d zc_J6_bitCount_0f7a4 [(1, .iload_n 0, 2, [], none), (2, .iconst 1, 3, [], none), (3, .iushr, 4, [], none), (4, .ldc_w 265, 7, [0, 1431655765, 931], none), (7, .iand, 8, [], none), (8, .isub, 9, [], none), (9, .istore_n 0, 10, [], none), (10, .iload_n 0, 11, [], none), (11, .ldc_w 266, 14, [0, 858993459, 932], none), (14, .iand, 15, [], none), (15, .iload_n 0, 16, [], none), (16, .iconst 2, 17, [], none), (17, .iushr, 18, [], none), (18, .ldc_w 266, 21, [0, 858993459, 932], none), (21, .iand, 22, [], none), (22, .iadd, 23, [], none), (23, .istore_n 0, 24, [], none), (24, .iload_n 0, 25, [], none), (25, .iload_n 0, 26, [], none), (26, .iconst 4, 27, [], none), (27, .iushr, 28, [], none), (28, .iadd, 29, [], none), (29, .ldc_w 267, 32, [0, 252645135, 933], none), (32, .iand, 33, [], none), (33, .istore_n 0, 34, [], none), (34, .iload_n 0, 35, [], none), (35, .iload_n 0, 36, [], none), (36, .bipush 8, 38, [], none), (38, .iushr, 39, [], none), (39, .iadd, 40, [], none), (40, .istore_n 0, 41, [], none), (41, .iload_n 0, 42, [], none), (42, .iload_n 0, 43, [], none), (43, .bipush 16, 45, [], none), (45, .iushr, 46, [], none), (46, .iadd, 47, [], none), (47, .istore_n 0, 48, [], none), (48, .iload_n 0, 49, [], none), (49, .bipush 63, 51, [], none), (51, .iand, 52, [], none), (52, .ireturn, 53, [0], none)] (0, .iload_n 0, 1, [], none) (by decide +kernel) _ _ _).trans rfl
