/-! block equations, a -/
theorem E_X9_init (d : Nat) (M : zM) (l0 : Nat) (l1 : Int32) (l2 : Int32) : evM zcod (d + 1) 0 [.ref l0, .int l1, .int l2] M = evk zcod none d zc_X9_init 0 [(0, .ref l0), (1, .int l1), (2, .int l2)] [] M := evM_eq zcod d 0 _ M (Nat.le_of_ble_eq_true rfl)
theorem B_X9_init_0 (d : Nat) (M : zM) (l0 : Nat) (l1 : Int32) (l2 : Int32) :
  evk zcod none d zc_X9_init 0 [(0, .ref l0), (1, .int l1), (2, .int l2)] [] M =
  if 0 < l0 then
  (if gK M l0 = 9 then
  (if gK (sI M l0 0 l1) l0 = 9 then
  (if (0 ≤ (l1 * l2).toInt ∧ (l1 * l2).toInt < 100000) ∧ okS (sI (sI M l0 0 l1) l0 1 l2) [(0, .ref l0), (1, .int l1), (2, .int l2)] [.ref l0] = true then
  (if gK (alc (sI (sI M l0 0 l1) l0 1 l2) 20 (l1 * l2).toInt.toNat) l0 = 9 ∧ ((sI (sI M l0 0 l1) l0 1 l2).1.1 + 7) < (alc (sI (sI M l0 0 l1) l0 1 l2) 20 (l1 * l2).toInt.toNat).1.1 + 7 then
  (evk zcod none d zc_X9_init 23 [(0, .ref l0)] [] (sR (alc (sI (sI M l0 0 l1) l0 1 l2) 20 (l1 * l2).toInt.toNat) l0 2 ((sI (sI M l0 0 l1) l0 1 l2).1.1 + 7))) else none) else none) else none) else none) else none :=
  (blk_ok zcod none d zc_X9_init [(1, .invokespecial 3, 4, [9998, 0, 1, 2], none), (4, .aload_n 0, 5, [], none), (5, .iload_n 1, 6, [], none), (6, .putfield 9, 9, [9, 0, 0, 3, 0, 1], none), (9, .aload_n 0, 10, [], none), (10, .iload_n 2, 11, [], none), (11, .putfield 15, 14, [9, 1, 0, 4, 0, 1], none), (14, .aload_n 0, 15, [], none), (15, .iload_n 1, 16, [], none), (16, .iload_n 2, 17, [], none), (17, .imul, 18, [], none), (18, .newarray .int, 20, [20, 5], none), (20, .putfield 18, 23, [9, 2, 2, 6, 0, 1], none)] (0, .aload_n 0, 1, [], none) (by decide +kernel) _ _ _).trans rfl
theorem B_X9_init_23 (d : Nat) (M : zM) (l0 : Nat) :
  evk zcod none d zc_X9_init 23 [(0, .ref l0)] [] M =
  if gK M l0 = 9 then
  (some (none, (sI M l0 3 (0 : Int32)))) else none :=
  (blk_ok zcod none d zc_X9_init [(24, .iconst 0, 25, [], none), (25, .putfield 22, 28, [9, 3, 0, 7, 0, 0], none), (28, .return_, 29, [], none)] (23, .aload_n 0, 24, [], some [0]) (by decide +kernel) _ _ _).trans rfl
theorem E_X9_size (d : Nat) (M : zM) (l0 : Nat) : evM zcod (d + 1) 1 [.ref l0] M = evk zcod none d zc_X9_size 0 [(0, .ref l0)] [] M := evM_eq zcod d 1 _ M (Nat.le_of_ble_eq_true rfl)
theorem B_X9_size_0 (d : Nat) (M : zM) (l0 : Nat) :
  evk zcod none d zc_X9_size 0 [(0, .ref l0)] [] M =
  if gK M l0 = 9 then
  (some (some (.int (gI M l0 3)), M)) else none :=
  (blk_ok zcod none d zc_X9_size [(1, .getfield 22, 4, [9, 3, 0, 7, 0], none), (4, .ireturn, 5, [0], none)] (0, .aload_n 0, 1, [], none) (by decide +kernel) _ _ _).trans rfl
theorem E_X9_has (d : Nat) (M : zM) (l0 : Nat) (l1 : Int32) : evM zcod (d + 1) 2 [.ref l0, .int l1] M = evk zcod none d zc_X9_has 0 [(0, .ref l0), (1, .int l1)] [] M := evM_eq zcod d 2 _ M (Nat.le_of_ble_eq_true rfl)
theorem B_X9_has_0 (d : Nat) (M : zM) (l0 : Nat) (l1 : Int32) :
  evk zcod none d zc_X9_has 0 [(0, .ref l0), (1, .int l1)] [] M =
  if l1 < 0 then
  evk zcod none d zc_X9_has 16 [] [] M
  else
  if gK M l0 = 9 then
  (if (gI M l0 3) ≤ l1 then
  evk zcod none d zc_X9_has 16 [] [] M
  else
  evk zcod none d zc_X9_has 17 [] [.int (1 : Int32)] M) else none :=
  (blk_ok zcod none d zc_X9_has [(1, .ifCond .lt 15, 4, [16], none), (4, .iload_n 1, 5, [], none), (5, .aload_n 0, 6, [], none), (6, .getfield 22, 9, [9, 3, 0, 7, 0], none), (9, .if_icmp .ge 7, 12, [16], none), (12, .iconst 1, 13, [], none), (13, .goto 4, 16, [17], none)] (0, .iload_n 1, 1, [], none) (by decide +kernel) _ _ _).trans rfl
theorem B_X9_has_16 (d : Nat) (M : zM)  :
  evk zcod none d zc_X9_has 16 [] [] M =
  evk zcod none d zc_X9_has 17 [] [.int (0 : Int32)] M :=
  (blk_ok zcod none d zc_X9_has [] (16, .iconst 0, 17, [], some []) (by decide +kernel) _ _ _).trans rfl
theorem B_X9_has_17 (d : Nat) (M : zM) (s0 : Int32) :
  evk zcod none d zc_X9_has 17 [] [.int s0] M =
  if s0 = 0 ∨ s0 = 1 then some (some (.int s0), M) else none :=
  (blk_ok zcod none d zc_X9_has [] (17, .ireturn, 18, [1], some []) (by decide +kernel) _ _ _).trans rfl
theorem E_X9_isFull (d : Nat) (M : zM) (l0 : Nat) : evM zcod (d + 1) 3 [.ref l0] M = evk zcod none d zc_X9_isFull 0 [(0, .ref l0)] [] M := evM_eq zcod d 3 _ M (Nat.le_of_ble_eq_true rfl)
theorem B_X9_isFull_0 (d : Nat) (M : zM) (l0 : Nat) :
  evk zcod none d zc_X9_isFull 0 [(0, .ref l0)] [] M =
  if gK M l0 = 9 then
  (if gK M l0 = 9 then
  (if (gI M l0 3) < (gI M l0 0) then
  evk zcod none d zc_X9_isFull 15 [] [] M
  else
  evk zcod none d zc_X9_isFull 16 [] [.int (1 : Int32)] M) else none) else none :=
  (blk_ok zcod none d zc_X9_isFull [(1, .getfield 22, 4, [9, 3, 0, 7, 0], none), (4, .aload_n 0, 5, [], none), (5, .getfield 9, 8, [9, 0, 0, 3, 0], none), (8, .if_icmp .lt 7, 11, [15], none), (11, .iconst 1, 12, [], none), (12, .goto 4, 15, [16], none)] (0, .aload_n 0, 1, [], none) (by decide +kernel) _ _ _).trans rfl
theorem B_X9_isFull_15 (d : Nat) (M : zM)  :
  evk zcod none d zc_X9_isFull 15 [] [] M =
  evk zcod none d zc_X9_isFull 16 [] [.int (0 : Int32)] M :=
  (blk_ok zcod none d zc_X9_isFull [] (15, .iconst 0, 16, [], some []) (by decide +kernel) _ _ _).trans rfl
theorem B_X9_isFull_16 (d : Nat) (M : zM) (s0 : Int32) :
  evk zcod none d zc_X9_isFull 16 [] [.int s0] M =
  if s0 = 0 ∨ s0 = 1 then some (some (.int s0), M) else none :=
  (blk_ok zcod none d zc_X9_isFull [] (16, .ireturn, 17, [1], some []) (by decide +kernel) _ _ _).trans rfl
theorem E_X9_clear (d : Nat) (M : zM) (l0 : Nat) : evM zcod (d + 1) 4 [.ref l0] M = evk zcod none d zc_X9_clear 0 [(0, .ref l0)] [] M := evM_eq zcod d 4 _ M (Nat.le_of_ble_eq_true rfl)
theorem B_X9_clear_0 (d : Nat) (M : zM) (l0 : Nat) :
  evk zcod none d zc_X9_clear 0 [(0, .ref l0)] [] M =
  if gK M l0 = 9 then
  (some (none, (sI M l0 3 (0 : Int32)))) else none :=
  (blk_ok zcod none d zc_X9_clear [(1, .iconst 0, 2, [], none), (2, .putfield 22, 5, [9, 3, 0, 7, 0, 0], none), (5, .return_, 6, [], none)] (0, .aload_n 0, 1, [], none) (by decide +kernel) _ _ _).trans rfl
theorem E_X9_at (d : Nat) (M : zM) (l0 : Nat) (l1 : Int32) (l2 : Int32) : evM zcod (d + 1) 5 [.ref l0, .int l1, .int l2] M = evk zcod none d zc_X9_at 0 [(0, .ref l0), (1, .int l1), (2, .int l2)] [] M := evM_eq zcod d 5 _ M (Nat.le_of_ble_eq_true rfl)
theorem B_X9_at_0 (d : Nat) (M : zM) (l0 : Nat) (l1 : Int32) (l2 : Int32) :
  evk zcod none d zc_X9_at 0 [(0, .ref l0), (1, .int l1), (2, .int l2)] [] M =
  if l1 < 0 then
  evk zcod none d zc_X9_at 40 [] [] M
  else
  if gK M l0 = 9 then
  (if (gI M l0 3) ≤ l1 then
  evk zcod none d zc_X9_at 40 [] [] M
  else
  if l2 < 0 then
  evk zcod none d zc_X9_at 40 [] [] M
  else
  if gK M l0 = 9 then
  (if (gI M l0 1) ≤ l2 then
  evk zcod none d zc_X9_at 40 [] [] M
  else
  if gK M l0 = 9 then
  (if gK M l0 = 9 then
  (if gK M (gR M l0 2) = 20 ∧ zin ((l1 * (gI M l0 1)) + l2) (gN M (gR M l0 2)) then
  (evk zcod none d zc_X9_at 41 [] [.int (gI M (gR M l0 2) (zix ((l1 * (gI M l0 1)) + l2)))] M) else none) else none) else none) else none) else none :=
  (blk_ok zcod none d zc_X9_at [(1, .ifCond .lt 39, 4, [40], none), (4, .iload_n 1, 5, [], none), (5, .aload_n 0, 6, [], none), (6, .getfield 22, 9, [9, 3, 0, 7, 0], none), (9, .if_icmp .ge 31, 12, [40], none), (12, .iload_n 2, 13, [], none), (13, .ifCond .lt 27, 16, [40], none), (16, .iload_n 2, 17, [], none), (17, .aload_n 0, 18, [], none), (18, .getfield 15, 21, [9, 1, 0, 4, 0], none), (21, .if_icmp .ge 19, 24, [40], none), (24, .aload_n 0, 25, [], none), (25, .getfield 18, 28, [9, 2, 2, 6, 0], none), (28, .iload_n 1, 29, [], none), (29, .aload_n 0, 30, [], none), (30, .getfield 15, 33, [9, 1, 0, 4, 0], none), (33, .imul, 34, [], none), (34, .iload_n 2, 35, [], none), (35, .iadd, 36, [], none), (36, .iaload, 37, [20], none), (37, .goto 4, 40, [41], none)] (0, .iload_n 1, 1, [], none) (by decide +kernel) _ _ _).trans rfl
theorem B_X9_at_40 (d : Nat) (M : zM)  :
  evk zcod none d zc_X9_at 40 [] [] M =
  evk zcod none d zc_X9_at 41 [] [.int (-1 : Int32)] M :=
  (blk_ok zcod none d zc_X9_at [] (40, .iconst (-1), 41, [], some []) (by decide +kernel) _ _ _).trans rfl
theorem B_X9_at_41 (d : Nat) (M : zM) (s0 : Int32) :
  evk zcod none d zc_X9_at 41 [] [.int s0] M =
  some (some (.int s0), M) :=
  (blk_ok zcod none d zc_X9_at [] (41, .ireturn, 42, [0], some []) (by decide +kernel) _ _ _).trans rfl
theorem E_X9_put (d : Nat) (M : zM) (l0 : Nat) (l1 : Int32) (l2 : Int32) (l3 : Int32) : evM zcod (d + 1) 6 [.ref l0, .int l1, .int l2, .int l3] M = evk zcod none d zc_X9_put 0 [(0, .ref l0), (1, .int l1), (2, .int l2), (3, .int l3)] [] M := evM_eq zcod d 6 _ M (Nat.le_of_ble_eq_true rfl)
theorem B_X9_put_0 (d : Nat) (M : zM) (l0 : Nat) (l1 : Int32) (l2 : Int32) (l3 : Int32) :
  evk zcod none d zc_X9_put 0 [(0, .ref l0), (1, .int l1), (2, .int l2), (3, .int l3)] [] M =
  if l1 < 0 then
  evk zcod none d zc_X9_put 38 [] [] M
  else
  if gK M l0 = 9 then
  (if (gI M l0 3) ≤ l1 then
  evk zcod none d zc_X9_put 38 [] [] M
  else
  if l2 < 0 then
  evk zcod none d zc_X9_put 38 [] [] M
  else
  if gK M l0 = 9 then
  (if (gI M l0 1) ≤ l2 then
  evk zcod none d zc_X9_put 38 [] [] M
  else
  if gK M l0 = 9 then
  (if gK M l0 = 9 then
  (if gK M (gR M l0 2) = 20 ∧ zin ((l1 * (gI M l0 1)) + l2) (gN M (gR M l0 2)) then
  (evk zcod none d zc_X9_put 38 [] [] (sI M (gR M l0 2) (zix ((l1 * (gI M l0 1)) + l2)) l3)) else none) else none) else none) else none) else none :=
  (blk_ok zcod none d zc_X9_put [(1, .ifCond .lt 37, 4, [38], none), (4, .iload_n 1, 5, [], none), (5, .aload_n 0, 6, [], none), (6, .getfield 22, 9, [9, 3, 0, 7, 0], none), (9, .if_icmp .ge 29, 12, [38], none), (12, .iload_n 2, 13, [], none), (13, .ifCond .lt 25, 16, [38], none), (16, .iload_n 2, 17, [], none), (17, .aload_n 0, 18, [], none), (18, .getfield 15, 21, [9, 1, 0, 4, 0], none), (21, .if_icmp .ge 17, 24, [38], none), (24, .aload_n 0, 25, [], none), (25, .getfield 18, 28, [9, 2, 2, 6, 0], none), (28, .iload_n 1, 29, [], none), (29, .aload_n 0, 30, [], none), (30, .getfield 15, 33, [9, 1, 0, 4, 0], none), (33, .imul, 34, [], none), (34, .iload_n 2, 35, [], none), (35, .iadd, 36, [], none), (36, .iload_n 3, 37, [], none), (37, .iastore, 38, [20], none)] (0, .iload_n 1, 1, [], none) (by decide +kernel) _ _ _).trans rfl
theorem B_X9_put_38 (d : Nat) (M : zM)  :
  evk zcod none d zc_X9_put 38 [] [] M =
  some (none, M) :=
  (blk_ok zcod none d zc_X9_put [] (38, .return_, 39, [], some []) (by decide +kernel) _ _ _).trans rfl
theorem E_X9_add (d : Nat) (M : zM) (l0 : Nat) : evM zcod (d + 1) 7 [.ref l0] M = evk zcod none d zc_X9_add 0 [(0, .ref l0)] [] M := evM_eq zcod d 7 _ M (Nat.le_of_ble_eq_true rfl)
theorem B_X9_add_0 (d : Nat) (M : zM) (l0 : Nat) :
  evk zcod none d zc_X9_add 0 [(0, .ref l0)] [] M =
  if gK M l0 = 9 then
  (bI (evM zcod d 3 [.ref l0] M) fun x1 M1 =>
  if M1.1.1 = M.1.1 then
  (if x1 = 0 then
  evk zcod none d zc_X9_add 9 [(0, .ref l0)] [] M1
  else
  some (some (.int (-1 : Int32)), M1)) else none) else none :=
  (blk_ok zcod none d zc_X9_add [(1, .invokevirtual 25, 4, [3, 0, 1, 9, 8, 9, 10, 11], none), (4, .ifCond .eq 5, 7, [9], none), (7, .iconst (-1), 8, [], none), (8, .ireturn, 9, [0], none)] (0, .aload_n 0, 1, [], none) (by decide +kernel) _ _ _).trans rfl
theorem B_X9_add_9 (d : Nat) (M : zM) (l0 : Nat) :
  evk zcod none d zc_X9_add 9 [(0, .ref l0)] [] M =
  if gK M l0 = 9 then
  (if gK M l0 = 9 then
  (evk zcod none d zc_X9_add 21 [(0, .ref l0), (1, .int (0 : Int32))] [] (sI M l0 3 ((gI M l0 3) + (1 : Int32)))) else none) else none :=
  (blk_ok zcod none d zc_X9_add [(10, .dup, 11, [], none), (11, .getfield 22, 14, [9, 3, 0, 7, 0], none), (14, .iconst 1, 15, [], none), (15, .iadd, 16, [], none), (16, .putfield 22, 19, [9, 3, 0, 7, 0, 0], none), (19, .iconst 0, 20, [], none), (20, .istore_n 1, 21, [], none)] (9, .aload_n 0, 10, [], some [0]) (by decide +kernel) _ _ _).trans rfl
theorem B_X9_add_21 (d : Nat) (M : zM) (l0 : Nat) (l1 : Int32) :
  evk zcod none d zc_X9_add 21 [(0, .ref l0), (1, .int l1)] [] M =
  if gK M l0 = 9 then
  (if (gI M l0 1) ≤ l1 then
  evk zcod none d zc_X9_add 47 [(0, .ref l0)] [] M
  else
  if gK M l0 = 9 then
  (if gK M l0 = 9 then
  (bV (evM zcod d 6 [.ref l0, .int ((gI M l0 3) - (1 : Int32)), .int l1, .int (0 : Int32)] M) fun M1 =>
  if M1.1.1 = M.1.1 then
  (evk zcod none d zc_X9_add 21 [(0, .ref l0), (1, .int (l1 + 1))] [] M1) else none) else none) else none) else none :=
  (blk_ok zcod none d zc_X9_add [(22, .aload_n 0, 23, [], none), (23, .getfield 15, 26, [9, 1, 0, 4, 0], none), (26, .if_icmp .ge 21, 29, [47], none), (29, .aload_n 0, 30, [], none), (30, .aload_n 0, 31, [], none), (31, .getfield 22, 34, [9, 3, 0, 7, 0], none), (34, .iconst 1, 35, [], none), (35, .isub, 36, [], none), (36, .iload_n 1, 37, [], none), (37, .iconst 0, 38, [], none), (38, .invokevirtual 29, 41, [6, 3, 0, 9, 12, 13, 14, 11], none), (41, .iinc 1 1, 44, [], none), (44, .goto (-23), 47, [21], none)] (21, .iload_n 1, 22, [], some [0, 1]) (by decide +kernel) _ _ _).trans rfl
theorem B_X9_add_47 (d : Nat) (M : zM) (l0 : Nat) :
  evk zcod none d zc_X9_add 47 [(0, .ref l0)] [] M =
  if gK M l0 = 9 then
  (some (some (.int ((gI M l0 3) - (1 : Int32))), M)) else none :=
  (blk_ok zcod none d zc_X9_add [(48, .getfield 22, 51, [9, 3, 0, 7, 0], none), (51, .iconst 1, 52, [], none), (52, .isub, 53, [], none), (53, .ireturn, 54, [0], none)] (47, .aload_n 0, 48, [], some [0]) (by decide +kernel) _ _ _).trans rfl
theorem E_X9_become (d : Nat) (M : zM) (l0 : Nat) (l1 : Nat) : evM zcod (d + 1) 8 [.ref l0, .ref l1] M = evk zcod none d zc_X9_become 0 [(0, .ref l0), (1, .ref l1)] [] M := evM_eq zcod d 8 _ M (Nat.le_of_ble_eq_true rfl)
theorem B_X9_become_0 (d : Nat) (M : zM) (l0 : Nat) (l1 : Nat) :
  evk zcod none d zc_X9_become 0 [(0, .ref l0), (1, .ref l1)] [] M =
  if gK M l1 = 9 then
  (if gK M l0 = 9 then
  (if gK M l0 = 9 then
  (if gK M (gR M l0 2) = 20 then
  (if gK M l1 = 9 then
  (if gK M (gR M l1 2) = 20 then
  (bI (evM zcod d 275 [.int (Int32.ofNat (gN M (gR M l0 2))), .int (Int32.ofNat (gN M (gR M l1 2)))] M) fun x1 M1 =>
  if M1.1.1 = M.1.1 then
  (if gK M1 (gR M l1 2) = 20 ∧ gK M1 (gR M l0 2) = 20 ∧ 0 ≤ (0 : Int32).toInt ∧ 0 ≤ (0 : Int32).toInt ∧ 0 ≤ x1.toInt ∧ (0 : Int32).toInt + x1.toInt ≤ gN M1 (gR M l1 2) ∧ (0 : Int32).toInt + x1.toInt ≤ gN M1 (gR M l0 2) then
  (if gK (cI M1 (gR M l1 2) (zix (0 : Int32)) (gR M l0 2) (zix (0 : Int32)) (zix x1)) l0 = 9 then
  (if gK (cI M1 (gR M l1 2) (zix (0 : Int32)) (gR M l0 2) (zix (0 : Int32)) (zix x1)) l1 = 9 then
  (bI (evM zcod d 275 [.int (gI (cI M1 (gR M l1 2) (zix (0 : Int32)) (gR M l0 2) (zix (0 : Int32)) (zix x1)) l0 0), .int (gI (cI M1 (gR M l1 2) (zix (0 : Int32)) (gR M l0 2) (zix (0 : Int32)) (zix x1)) l1 3)] (cI M1 (gR M l1 2) (zix (0 : Int32)) (gR M l0 2) (zix (0 : Int32)) (zix x1))) fun x2 M2 =>
  if M2.1.1 = (cI M1 (gR M l1 2) (zix (0 : Int32)) (gR M l0 2) (zix (0 : Int32)) (zix x1)).1.1 then
  (if gK M2 l0 = 9 then
  (evk zcod none d zc_X9_become 41 [] [] (sI M2 l0 3 x2)) else none) else none) else none) else none) else none) else none) else none) else none) else none) else none) else none) else none :=
  (blk_ok zcod none d zc_X9_become [(1, .getfield 18, 4, [9, 2, 2, 6, 0], none), (4, .iconst 0, 5, [], none), (5, .aload_n 0, 6, [], none), (6, .getfield 18, 9, [9, 2, 2, 6, 0], none), (9, .iconst 0, 10, [], none), (10, .aload_n 0, 11, [], none), (11, .getfield 18, 14, [9, 2, 2, 6, 0], none), (14, .arraylength, 15, [20], none), (15, .aload_n 1, 16, [], none), (16, .getfield 18, 19, [9, 2, 2, 6, 0], none), (19, .arraylength, 20, [20], none), (20, .invokestatic 33, 23, [275, 2, 1, 0, 15, 16, 17], none), (23, .invokestatic 39, 26, [9999, 18, 19, 20, 21], none), (26, .aload_n 0, 27, [], none), (27, .aload_n 0, 28, [], none), (28, .getfield 9, 31, [9, 0, 0, 3, 0], none), (31, .aload_n 1, 32, [], none), (32, .getfield 22, 35, [9, 3, 0, 7, 0], none), (35, .invokestatic 33, 38, [275, 2, 1, 0, 15, 16, 17], none), (38, .putfield 22, 41, [9, 3, 0, 7, 0, 0], none)] (0, .aload_n 1, 1, [], none) (by decide +kernel) _ _ _).trans rfl
theorem B_X9_become_41 (d : Nat) (M : zM)  :
  evk zcod none d zc_X9_become 41 [] [] M =
  some (none, M) :=
  (blk_ok zcod none d zc_X9_become [] (41, .return_, 42, [], some []) (by decide +kernel) _ _ _).trans rfl
theorem E_X3_init (d : Nat) (M : zM) (l0 : Nat) : evM zcod (d + 1) 9 [.ref l0] M = evk zcod none d zc_X3_init 0 [(0, .ref l0)] [] M := evM_eq zcod d 9 _ M (Nat.le_of_ble_eq_true rfl)
theorem B_X3_init_0 (d : Nat) (M : zM) (l0 : Nat) :
  evk zcod none d zc_X3_init 0 [(0, .ref l0)] [] M =
  if 0 < l0 then
  (if (0 ≤ (432 : Int32).toInt ∧ (432 : Int32).toInt < 100000) ∧ okS M [(0, .ref l0)] [.ref l0] = true then
  (if gK (alc M 20 (432 : Int32).toInt.toNat) l0 = 3 ∧ (M.1.1 + 7) < (alc M 20 (432 : Int32).toInt.toNat).1.1 + 7 then
  (evk zcod none d zc_X3_init 13 [(0, .ref l0)] [] (sR (alc M 20 (432 : Int32).toInt.toNat) l0 0 (M.1.1 + 7))) else none) else none) else none :=
  (blk_ok zcod none d zc_X3_init [(1, .invokespecial 3, 4, [9998, 22, 1, 2], none), (4, .aload_n 0, 5, [], none), (5, .sipush 432, 8, [], none), (8, .newarray .int, 10, [20, 5], none), (10, .putfield 11, 13, [3, 0, 2, 23, 0, 1], none)] (0, .aload_n 0, 1, [], none) (by decide +kernel) _ _ _).trans rfl
theorem B_X3_init_13 (d : Nat) (M : zM) (l0 : Nat) :
  evk zcod none d zc_X3_init 13 [(0, .ref l0)] [] M =
  if (0 ≤ (4 : Int32).toInt ∧ (4 : Int32).toInt < 100000) ∧ okS M [(0, .ref l0)] [.ref l0] = true then
  (if gK (alc M 20 (4 : Int32).toInt.toNat) l0 = 3 ∧ (M.1.1 + 7) < (alc M 20 (4 : Int32).toInt.toNat).1.1 + 7 then
  (evk zcod none d zc_X3_init 20 [(0, .ref l0)] [] (sR (alc M 20 (4 : Int32).toInt.toNat) l0 1 (M.1.1 + 7))) else none) else none :=
  (blk_ok zcod none d zc_X3_init [(14, .iconst 4, 15, [], none), (15, .newarray .int, 17, [20, 5], none), (17, .putfield 15, 20, [3, 1, 2, 24, 0, 1], none)] (13, .aload_n 0, 14, [], some [0]) (by decide +kernel) _ _ _).trans rfl
theorem B_X3_init_20 (d : Nat) (M : zM) (l0 : Nat) :
  evk zcod none d zc_X3_init 20 [(0, .ref l0)] [] M =
  if gK M l0 = 3 then
  (some (none, (sI M l0 2 (0 : Int32)))) else none :=
  (blk_ok zcod none d zc_X3_init [(21, .iconst 0, 22, [], none), (22, .putfield 18, 25, [3, 2, 0, 25, 0, 0], none), (25, .return_, 26, [], none)] (20, .aload_n 0, 21, [], some [0]) (by decide +kernel) _ _ _).trans rfl
theorem E_X3_clear (d : Nat) (M : zM) (l0 : Nat) : evM zcod (d + 1) 10 [.ref l0] M = evk zcod none d zc_X3_clear 0 [(0, .ref l0)] [] M := evM_eq zcod d 10 _ M (Nat.le_of_ble_eq_true rfl)
theorem B_X3_clear_0 (d : Nat) (M : zM) (l0 : Nat) :
  evk zcod none d zc_X3_clear 0 [(0, .ref l0)] [] M =
  if gK M l0 = 3 then
  (if gK (sI M l0 2 (0 : Int32)) l0 = 3 then
  (bV (evM zcod d 12 [.ref l0, .int (0 : Int32)] (sI M l0 2 (0 : Int32))) fun M1 =>
  if M1.1.1 = (sI M l0 2 (0 : Int32)).1.1 then
  (if gK M1 l0 = 3 then
  (bV (evM zcod d 14 [.ref l0, .int (-12 : Int32)] M1) fun M2 =>
  if M2.1.1 = M1.1.1 then
  (if gK M2 l0 = 3 then
  (bV (evM zcod d 14 [.ref l0, .int (-13 : Int32)] M2) fun M3 =>
  if M3.1.1 = M2.1.1 then
  (evk zcod none d zc_X3_clear 22 [(0, .ref l0)] [] M3) else none) else none) else none) else none) else none) else none) else none :=
  (blk_ok zcod none d zc_X3_clear [(1, .iconst 0, 2, [], none), (2, .putfield 18, 5, [3, 2, 0, 25, 0, 0], none), (5, .aload_n 0, 6, [], none), (6, .iconst 0, 7, [], none), (7, .invokevirtual 22, 10, [12, 1, 0, 3, 26, 27, 28, 29], none), (10, .aload_n 0, 11, [], none), (11, .bipush (-12), 13, [], none), (13, .invokevirtual 26, 16, [14, 1, 0, 3, 30, 31, 32, 29], none), (16, .aload_n 0, 17, [], none), (17, .bipush (-13), 19, [], none), (19, .invokevirtual 26, 22, [14, 1, 0, 3, 30, 31, 32, 29], none)] (0, .aload_n 0, 1, [], none) (by decide +kernel) _ _ _).trans rfl
theorem B_X3_clear_22 (d : Nat) (M : zM) (l0 : Nat) :
  evk zcod none d zc_X3_clear 22 [(0, .ref l0)] [] M =
  if gK M l0 = 3 then
  (bV (evM zcod d 14 [.ref l0, .int (-2 : Int32)] M) fun M1 =>
  if M1.1.1 = M.1.1 then
  (if gK M1 l0 = 3 then
  (bV (evM zcod d 14 [.ref l0, .int (-6 : Int32)] M1) fun M2 =>
  if M2.1.1 = M1.1.1 then
  (if gK M2 l0 = 3 then
  (bV (evM zcod d 12 [.ref l0, .int (1 : Int32)] M2) fun M3 =>
  if M3.1.1 = M2.1.1 then
  (if gK M3 l0 = 3 then
  (bV (evM zcod d 14 [.ref l0, .int (0 : Int32)] M3) fun M4 =>
  if M4.1.1 = M3.1.1 then
  (evk zcod none d zc_X3_clear 44 [(0, .ref l0)] [] M4) else none) else none) else none) else none) else none) else none) else none) else none :=
  (blk_ok zcod none d zc_X3_clear [(23, .bipush (-2), 25, [], none), (25, .invokevirtual 26, 28, [14, 1, 0, 3, 30, 31, 32, 29], none), (28, .aload_n 0, 29, [], none), (29, .bipush (-6), 31, [], none), (31, .invokevirtual 26, 34, [14, 1, 0, 3, 30, 31, 32, 29], none), (34, .aload_n 0, 35, [], none), (35, .iconst 1, 36, [], none), (36, .invokevirtual 22, 39, [12, 1, 0, 3, 26, 27, 28, 29], none), (39, .aload_n 0, 40, [], none), (40, .iconst 0, 41, [], none), (41, .invokevirtual 26, 44, [14, 1, 0, 3, 30, 31, 32, 29], none)] (22, .aload_n 0, 23, [], some [0]) (by decide +kernel) _ _ _).trans rfl
theorem B_X3_clear_44 (d : Nat) (M : zM) (l0 : Nat) :
  evk zcod none d zc_X3_clear 44 [(0, .ref l0)] [] M =
  if gK M l0 = 3 then
  (bV (evM zcod d 14 [.ref l0, .int (-6 : Int32)] M) fun M1 =>
  if M1.1.1 = M.1.1 then
  (if gK M1 l0 = 3 then
  (bV (evM zcod d 12 [.ref l0, .int (2 : Int32)] M1) fun M2 =>
  if M2.1.1 = M1.1.1 then
  (if gK M2 l0 = 3 then
  (bV (evM zcod d 14 [.ref l0, .int (-13 : Int32)] M2) fun M3 =>
  if M3.1.1 = M2.1.1 then
  (if gK M3 l0 = 3 then
  (bV (evM zcod d 14 [.ref l0, .int (-6 : Int32)] M3) fun M4 =>
  if M4.1.1 = M3.1.1 then
  (evk zcod none d zc_X3_clear 67 [(0, .ref l0)] [] M4) else none) else none) else none) else none) else none) else none) else none) else none :=
  (blk_ok zcod none d zc_X3_clear [(45, .bipush (-6), 47, [], none), (47, .invokevirtual 26, 50, [14, 1, 0, 3, 30, 31, 32, 29], none), (50, .aload_n 0, 51, [], none), (51, .iconst 2, 52, [], none), (52, .invokevirtual 22, 55, [12, 1, 0, 3, 26, 27, 28, 29], none), (55, .aload_n 0, 56, [], none), (56, .bipush (-13), 58, [], none), (58, .invokevirtual 26, 61, [14, 1, 0, 3, 30, 31, 32, 29], none), (61, .aload_n 0, 62, [], none), (62, .bipush (-6), 64, [], none), (64, .invokevirtual 26, 67, [14, 1, 0, 3, 30, 31, 32, 29], none)] (44, .aload_n 0, 45, [], some [0]) (by decide +kernel) _ _ _).trans rfl
theorem B_X3_clear_67 (d : Nat) (M : zM) (l0 : Nat) :
  evk zcod none d zc_X3_clear 67 [(0, .ref l0)] [] M =
  if gK M l0 = 3 then
  (bV (evM zcod d 12 [.ref l0, .int (3 : Int32)] M) fun M1 =>
  if M1.1.1 = M.1.1 then
  (if gK M1 l0 = 3 then
  (bV (evM zcod d 14 [.ref l0, .int (-16 : Int32)] M1) fun M2 =>
  if M2.1.1 = M1.1.1 then
  (if gK M2 l0 = 3 then
  (bV (evM zcod d 14 [.ref l0, .int (-6 : Int32)] M2) fun M3 =>
  if M3.1.1 = M2.1.1 then
  (some (none, M3)) else none) else none) else none) else none) else none) else none :=
  (blk_ok zcod none d zc_X3_clear [(68, .iconst 3, 69, [], none), (69, .invokevirtual 22, 72, [12, 1, 0, 3, 26, 27, 28, 29], none), (72, .aload_n 0, 73, [], none), (73, .bipush (-16), 75, [], none), (75, .invokevirtual 26, 78, [14, 1, 0, 3, 30, 31, 32, 29], none), (78, .aload_n 0, 79, [], none), (79, .bipush (-6), 81, [], none), (81, .invokevirtual 26, 84, [14, 1, 0, 3, 30, 31, 32, 29], none), (84, .return_, 85, [], none)] (67, .aload_n 0, 68, [], some [0]) (by decide +kernel) _ _ _).trans rfl
theorem E_X3_become (d : Nat) (M : zM) (l0 : Nat) (l1 : Nat) : evM zcod (d + 1) 11 [.ref l0, .ref l1] M = evk zcod none d zc_X3_become 0 [(0, .ref l0), (1, .ref l1)] [] M := evM_eq zcod d 11 _ M (Nat.le_of_ble_eq_true rfl)
theorem B_X3_become_0 (d : Nat) (M : zM) (l0 : Nat) (l1 : Nat) :
  evk zcod none d zc_X3_become 0 [(0, .ref l0), (1, .ref l1)] [] M =
  if gK M l1 = 3 then
  (if gK M l0 = 3 then
  (if gK M l0 = 3 then
  (if gK M (gR M l0 0) = 20 then
  (if gK M (gR M l1 0) = 20 ∧ gK M (gR M l0 0) = 20 ∧ 0 ≤ (0 : Int32).toInt ∧ 0 ≤ (0 : Int32).toInt ∧ 0 ≤ (Int32.ofNat (gN M (gR M l0 0))).toInt ∧ (0 : Int32).toInt + (Int32.ofNat (gN M (gR M l0 0))).toInt ≤ gN M (gR M l1 0) ∧ (0 : Int32).toInt + (Int32.ofNat (gN M (gR M l0 0))).toInt ≤ gN M (gR M l0 0) then
  (if gK (cI M (gR M l1 0) (zix (0 : Int32)) (gR M l0 0) (zix (0 : Int32)) (zix (Int32.ofNat (gN M (gR M l0 0))))) l1 = 3 then
  (if gK (cI M (gR M l1 0) (zix (0 : Int32)) (gR M l0 0) (zix (0 : Int32)) (zix (Int32.ofNat (gN M (gR M l0 0))))) l0 = 3 then
  (if gK (cI M (gR M l1 0) (zix (0 : Int32)) (gR M l0 0) (zix (0 : Int32)) (zix (Int32.ofNat (gN M (gR M l0 0))))) l0 = 3 then
  (if gK (cI M (gR M l1 0) (zix (0 : Int32)) (gR M l0 0) (zix (0 : Int32)) (zix (Int32.ofNat (gN M (gR M l0 0))))) (gR (cI M (gR M l1 0) (zix (0 : Int32)) (gR M l0 0) (zix (0 : Int32)) (zix (Int32.ofNat (gN M (gR M l0 0))))) l0 1) = 20 then
  (if gK (cI M (gR M l1 0) (zix (0 : Int32)) (gR M l0 0) (zix (0 : Int32)) (zix (Int32.ofNat (gN M (gR M l0 0))))) (gR (cI M (gR M l1 0) (zix (0 : Int32)) (gR M l0 0) (zix (0 : Int32)) (zix (Int32.ofNat (gN M (gR M l0 0))))) l1 1) = 20 ∧ gK (cI M (gR M l1 0) (zix (0 : Int32)) (gR M l0 0) (zix (0 : Int32)) (zix (Int32.ofNat (gN M (gR M l0 0))))) (gR (cI M (gR M l1 0) (zix (0 : Int32)) (gR M l0 0) (zix (0 : Int32)) (zix (Int32.ofNat (gN M (gR M l0 0))))) l0 1) = 20 ∧ 0 ≤ (0 : Int32).toInt ∧ 0 ≤ (0 : Int32).toInt ∧ 0 ≤ (Int32.ofNat (gN (cI M (gR M l1 0) (zix (0 : Int32)) (gR M l0 0) (zix (0 : Int32)) (zix (Int32.ofNat (gN M (gR M l0 0))))) (gR (cI M (gR M l1 0) (zix (0 : Int32)) (gR M l0 0) (zix (0 : Int32)) (zix (Int32.ofNat (gN M (gR M l0 0))))) l0 1))).toInt ∧ (0 : Int32).toInt + (Int32.ofNat (gN (cI M (gR M l1 0) (zix (0 : Int32)) (gR M l0 0) (zix (0 : Int32)) (zix (Int32.ofNat (gN M (gR M l0 0))))) (gR (cI M (gR M l1 0) (zix (0 : Int32)) (gR M l0 0) (zix (0 : Int32)) (zix (Int32.ofNat (gN M (gR M l0 0))))) l0 1))).toInt ≤ gN (cI M (gR M l1 0) (zix (0 : Int32)) (gR M l0 0) (zix (0 : Int32)) (zix (Int32.ofNat (gN M (gR M l0 0))))) (gR (cI M (gR M l1 0) (zix (0 : Int32)) (gR M l0 0) (zix (0 : Int32)) (zix (Int32.ofNat (gN M (gR M l0 0))))) l1 1) ∧ (0 : Int32).toInt + (Int32.ofNat (gN (cI M (gR M l1 0) (zix (0 : Int32)) (gR M l0 0) (zix (0 : Int32)) (zix (Int32.ofNat (gN M (gR M l0 0))))) (gR (cI M (gR M l1 0) (zix (0 : Int32)) (gR M l0 0) (zix (0 : Int32)) (zix (Int32.ofNat (gN M (gR M l0 0))))) l0 1))).toInt ≤ gN (cI M (gR M l1 0) (zix (0 : Int32)) (gR M l0 0) (zix (0 : Int32)) (zix (Int32.ofNat (gN M (gR M l0 0))))) (gR (cI M (gR M l1 0) (zix (0 : Int32)) (gR M l0 0) (zix (0 : Int32)) (zix (Int32.ofNat (gN M (gR M l0 0))))) l0 1) then
  (if gK (cI (cI M (gR M l1 0) (zix (0 : Int32)) (gR M l0 0) (zix (0 : Int32)) (zix (Int32.ofNat (gN M (gR M l0 0))))) (gR (cI M (gR M l1 0) (zix (0 : Int32)) (gR M l0 0) (zix (0 : Int32)) (zix (Int32.ofNat (gN M (gR M l0 0))))) l1 1) (zix (0 : Int32)) (gR (cI M (gR M l1 0) (zix (0 : Int32)) (gR M l0 0) (zix (0 : Int32)) (zix (Int32.ofNat (gN M (gR M l0 0))))) l0 1) (zix (0 : Int32)) (zix (Int32.ofNat (gN (cI M (gR M l1 0) (zix (0 : Int32)) (gR M l0 0) (zix (0 : Int32)) (zix (Int32.ofNat (gN M (gR M l0 0))))) (gR (cI M (gR M l1 0) (zix (0 : Int32)) (gR M l0 0) (zix (0 : Int32)) (zix (Int32.ofNat (gN M (gR M l0 0))))) l0 1))))) l1 = 3 then
  (if gK (cI (cI M (gR M l1 0) (zix (0 : Int32)) (gR M l0 0) (zix (0 : Int32)) (zix (Int32.ofNat (gN M (gR M l0 0))))) (gR (cI M (gR M l1 0) (zix (0 : Int32)) (gR M l0 0) (zix (0 : Int32)) (zix (Int32.ofNat (gN M (gR M l0 0))))) l1 1) (zix (0 : Int32)) (gR (cI M (gR M l1 0) (zix (0 : Int32)) (gR M l0 0) (zix (0 : Int32)) (zix (Int32.ofNat (gN M (gR M l0 0))))) l0 1) (zix (0 : Int32)) (zix (Int32.ofNat (gN (cI M (gR M l1 0) (zix (0 : Int32)) (gR M l0 0) (zix (0 : Int32)) (zix (Int32.ofNat (gN M (gR M l0 0))))) (gR (cI M (gR M l1 0) (zix (0 : Int32)) (gR M l0 0) (zix (0 : Int32)) (zix (Int32.ofNat (gN M (gR M l0 0))))) l0 1))))) l0 = 3 then
  (some (none, (sI (cI (cI M (gR M l1 0) (zix (0 : Int32)) (gR M l0 0) (zix (0 : Int32)) (zix (Int32.ofNat (gN M (gR M l0 0))))) (gR (cI M (gR M l1 0) (zix (0 : Int32)) (gR M l0 0) (zix (0 : Int32)) (zix (Int32.ofNat (gN M (gR M l0 0))))) l1 1) (zix (0 : Int32)) (gR (cI M (gR M l1 0) (zix (0 : Int32)) (gR M l0 0) (zix (0 : Int32)) (zix (Int32.ofNat (gN M (gR M l0 0))))) l0 1) (zix (0 : Int32)) (zix (Int32.ofNat (gN (cI M (gR M l1 0) (zix (0 : Int32)) (gR M l0 0) (zix (0 : Int32)) (zix (Int32.ofNat (gN M (gR M l0 0))))) (gR (cI M (gR M l1 0) (zix (0 : Int32)) (gR M l0 0) (zix (0 : Int32)) (zix (Int32.ofNat (gN M (gR M l0 0))))) l0 1))))) l0 2 (gI (cI (cI M (gR M l1 0) (zix (0 : Int32)) (gR M l0 0) (zix (0 : Int32)) (zix (Int32.ofNat (gN M (gR M l0 0))))) (gR (cI M (gR M l1 0) (zix (0 : Int32)) (gR M l0 0) (zix (0 : Int32)) (zix (Int32.ofNat (gN M (gR M l0 0))))) l1 1) (zix (0 : Int32)) (gR (cI M (gR M l1 0) (zix (0 : Int32)) (gR M l0 0) (zix (0 : Int32)) (zix (Int32.ofNat (gN M (gR M l0 0))))) l0 1) (zix (0 : Int32)) (zix (Int32.ofNat (gN (cI M (gR M l1 0) (zix (0 : Int32)) (gR M l0 0) (zix (0 : Int32)) (zix (Int32.ofNat (gN M (gR M l0 0))))) (gR (cI M (gR M l1 0) (zix (0 : Int32)) (gR M l0 0) (zix (0 : Int32)) (zix (Int32.ofNat (gN M (gR M l0 0))))) l0 1))))) l1 2)))) else none) else none) else none) else none) else none) else none) else none) else none) else none) else none) else none) else none :=
  (blk_ok zcod none d zc_X3_become [(1, .getfield 11, 4, [3, 0, 2, 23, 0], none), (4, .iconst 0, 5, [], none), (5, .aload_n 0, 6, [], none), (6, .getfield 11, 9, [3, 0, 2, 23, 0], none), (9, .iconst 0, 10, [], none), (10, .aload_n 0, 11, [], none), (11, .getfield 11, 14, [3, 0, 2, 23, 0], none), (14, .arraylength, 15, [20], none), (15, .invokestatic 29, 18, [9999, 33, 19, 20, 21], none), (18, .aload_n 1, 19, [], none), (19, .getfield 15, 22, [3, 1, 2, 24, 0], none), (22, .iconst 0, 23, [], none), (23, .aload_n 0, 24, [], none), (24, .getfield 15, 27, [3, 1, 2, 24, 0], none), (27, .iconst 0, 28, [], none), (28, .aload_n 0, 29, [], none), (29, .getfield 15, 32, [3, 1, 2, 24, 0], none), (32, .arraylength, 33, [20], none), (33, .invokestatic 29, 36, [9999, 33, 19, 20, 21], none), (36, .aload_n 0, 37, [], none), (37, .aload_n 1, 38, [], none), (38, .getfield 18, 41, [3, 2, 0, 25, 0], none), (41, .putfield 18, 44, [3, 2, 0, 25, 0, 0], none), (44, .return_, 45, [], none)] (0, .aload_n 1, 1, [], none) (by decide +kernel) _ _ _).trans rfl
theorem E_X3_begin (d : Nat) (M : zM) (l0 : Nat) (l1 : Int32) : evM zcod (d + 1) 12 [.ref l0, .int l1] M = evk zcod none d zc_X3_begin 0 [(0, .ref l0), (1, .int l1)] [] M := evM_eq zcod d 12 _ M (Nat.le_of_ble_eq_true rfl)
theorem B_X3_begin_0 (d : Nat) (M : zM) (l0 : Nat) (l1 : Int32) :
  evk zcod none d zc_X3_begin 0 [(0, .ref l0), (1, .int l1)] [] M =
  if l1 < 0 then
  evk zcod none d zc_X3_begin 23 [] [] M
  else
  if gK M l0 = 3 then
  (if gK M (gR M l0 1) = 20 then
  (if (Int32.ofNat (gN M (gR M l0 1))) ≤ l1 then
  evk zcod none d zc_X3_begin 23 [] [] M
  else
  if gK M l0 = 3 then
  (if gK M l0 = 3 then
  (if gK M (gR M l0 1) = 20 ∧ zin l1 (gN M (gR M l0 1)) then
  (evk zcod none d zc_X3_begin 23 [] [] (sI M (gR M l0 1) (zix l1) (gI M l0 2))) else none) else none) else none) else none) else none :=
  (blk_ok zcod none d zc_X3_begin [(1, .ifCond .lt 22, 4, [23], none), (4, .iload_n 1, 5, [], none), (5, .aload_n 0, 6, [], none), (6, .getfield 15, 9, [3, 1, 2, 24, 0], none), (9, .arraylength, 10, [20], none), (10, .if_icmp .ge 13, 13, [23], none), (13, .aload_n 0, 14, [], none), (14, .getfield 15, 17, [3, 1, 2, 24, 0], none), (17, .iload_n 1, 18, [], none), (18, .aload_n 0, 19, [], none), (19, .getfield 18, 22, [3, 2, 0, 25, 0], none), (22, .iastore, 23, [20], none)] (0, .iload_n 1, 1, [], none) (by decide +kernel) _ _ _).trans rfl
theorem B_X3_begin_23 (d : Nat) (M : zM)  :
  evk zcod none d zc_X3_begin 23 [] [] M =
  some (none, M) :=
  (blk_ok zcod none d zc_X3_begin [] (23, .return_, 24, [], some []) (by decide +kernel) _ _ _).trans rfl
theorem E_X3_startOf (d : Nat) (M : zM) (l0 : Nat) (l1 : Int32) : evM zcod (d + 1) 13 [.ref l0, .int l1] M = evk zcod none d zc_X3_startOf 0 [(0, .ref l0), (1, .int l1)] [] M := evM_eq zcod d 13 _ M (Nat.le_of_ble_eq_true rfl)
theorem B_X3_startOf_0 (d : Nat) (M : zM) (l0 : Nat) (l1 : Int32) :
  evk zcod none d zc_X3_startOf 0 [(0, .ref l0), (1, .int l1)] [] M =
  if l1 < 0 then
  evk zcod none d zc_X3_startOf 22 [(0, .ref l0)] [] M
  else
  if gK M l0 = 3 then
  (if gK M (gR M l0 1) = 20 then
  (if (Int32.ofNat (gN M (gR M l0 1))) ≤ l1 then
  evk zcod none d zc_X3_startOf 22 [(0, .ref l0)] [] M
  else
  if gK M l0 = 3 then
  (if gK M (gR M l0 1) = 20 ∧ zin l1 (gN M (gR M l0 1)) then
  (evk zcod none d zc_X3_startOf 26 [] [.int (gI M (gR M l0 1) (zix l1))] M) else none) else none) else none) else none :=
  (blk_ok zcod none d zc_X3_startOf [(1, .ifCond .lt 21, 4, [22], none), (4, .iload_n 1, 5, [], none), (5, .aload_n 0, 6, [], none), (6, .getfield 15, 9, [3, 1, 2, 24, 0], none), (9, .arraylength, 10, [20], none), (10, .if_icmp .ge 12, 13, [22], none), (13, .aload_n 0, 14, [], none), (14, .getfield 15, 17, [3, 1, 2, 24, 0], none), (17, .iload_n 1, 18, [], none), (18, .iaload, 19, [20], none), (19, .goto 7, 22, [26], none)] (0, .iload_n 1, 1, [], none) (by decide +kernel) _ _ _).trans rfl
theorem B_X3_startOf_22 (d : Nat) (M : zM) (l0 : Nat) :
  evk zcod none d zc_X3_startOf 22 [(0, .ref l0)] [] M =
  if gK M l0 = 3 then
  (evk zcod none d zc_X3_startOf 26 [] [.int (gI M l0 2)] M) else none :=
  (blk_ok zcod none d zc_X3_startOf [(23, .getfield 18, 26, [3, 2, 0, 25, 0], none)] (22, .aload_n 0, 23, [], some [0]) (by decide +kernel) _ _ _).trans rfl
theorem B_X3_startOf_26 (d : Nat) (M : zM) (s0 : Int32) :
  evk zcod none d zc_X3_startOf 26 [] [.int s0] M =
  some (some (.int s0), M) :=
  (blk_ok zcod none d zc_X3_startOf [] (26, .ireturn, 27, [0], some []) (by decide +kernel) _ _ _).trans rfl
theorem E_X3_add (d : Nat) (M : zM) (l0 : Nat) (l1 : Int32) : evM zcod (d + 1) 14 [.ref l0, .int l1] M = evk zcod none d zc_X3_add 0 [(0, .ref l0), (1, .int l1)] [] M := evM_eq zcod d 14 _ M (Nat.le_of_ble_eq_true rfl)
theorem B_X3_add_0 (d : Nat) (M : zM) (l0 : Nat) (l1 : Int32) :
  evk zcod none d zc_X3_add 0 [(0, .ref l0), (1, .int l1)] [] M =
  if gK M l0 = 3 then
  (if gK M l0 = 3 then
  (if gK M (gR M l0 0) = 20 then
  (if (Int32.ofNat (gN M (gR M l0 0))) ≤ (gI M l0 2) then
  evk zcod none d zc_X3_add 32 [] [] M
  else
  if gK M l0 = 3 then
  (if gK M l0 = 3 then
  (if gK M (gR M l0 0) = 20 ∧ zin (gI M l0 2) (gN M (gR M l0 0)) then
  (if gK (sI M (gR M l0 0) (zix (gI M l0 2)) l1) l0 = 3 then
  (if gK (sI M (gR M l0 0) (zix (gI M l0 2)) l1) l0 = 3 then
  (evk zcod none d zc_X3_add 32 [] [] (sI (sI M (gR M l0 0) (zix (gI M l0 2)) l1) l0 2 ((gI (sI M (gR M l0 0) (zix (gI M l0 2)) l1) l0 2) + (1 : Int32)))) else none) else none) else none) else none) else none) else none) else none) else none :=
  (blk_ok zcod none d zc_X3_add [(1, .getfield 18, 4, [3, 2, 0, 25, 0], none), (4, .aload_n 0, 5, [], none), (5, .getfield 11, 8, [3, 0, 2, 23, 0], none), (8, .arraylength, 9, [20], none), (9, .if_icmp .ge 23, 12, [32], none), (12, .aload_n 0, 13, [], none), (13, .getfield 11, 16, [3, 0, 2, 23, 0], none), (16, .aload_n 0, 17, [], none), (17, .getfield 18, 20, [3, 2, 0, 25, 0], none), (20, .iload_n 1, 21, [], none), (21, .iastore, 22, [20], none), (22, .aload_n 0, 23, [], none), (23, .dup, 24, [], none), (24, .getfield 18, 27, [3, 2, 0, 25, 0], none), (27, .iconst 1, 28, [], none), (28, .iadd, 29, [], none), (29, .putfield 18, 32, [3, 2, 0, 25, 0, 0], none)] (0, .aload_n 0, 1, [], none) (by decide +kernel) _ _ _).trans rfl
theorem B_X3_add_32 (d : Nat) (M : zM)  :
  evk zcod none d zc_X3_add 32 [] [] M =
  some (none, M) :=
  (blk_ok zcod none d zc_X3_add [] (32, .return_, 33, [], some []) (by decide +kernel) _ _ _).trans rfl
theorem E_X3_addLess (d : Nat) (M : zM) (l0 : Nat) : evM zcod (d + 1) 15 [.ref l0] M = evk zcod none d zc_X3_addLess 0 [(0, .ref l0)] [] M := evM_eq zcod d 15 _ M (Nat.le_of_ble_eq_true rfl)
theorem B_X3_addLess_0 (d : Nat) (M : zM) (l0 : Nat) :
  evk zcod none d zc_X3_addLess 0 [(0, .ref l0)] [] M =
  if gK M l0 = 3 then
  (bV (evM zcod d 14 [.ref l0, .int (-5 : Int32)] M) fun M1 =>
  if M1.1.1 = M.1.1 then
  (if gK M1 l0 = 3 then
  (bV (evM zcod d 14 [.ref l0, .int (0 : Int32)] M1) fun M2 =>
  if M2.1.1 = M1.1.1 then
  (if gK M2 l0 = 3 then
  (some (some (.int ((gI M2 l0 2) - (1 : Int32))), M2)) else none) else none) else none) else none) else none :=
  (blk_ok zcod none d zc_X3_addLess [(1, .bipush (-5), 3, [], none), (3, .invokevirtual 26, 6, [14, 1, 0, 3, 30, 31, 32, 29], none), (6, .aload_n 0, 7, [], none), (7, .iconst 0, 8, [], none), (8, .invokevirtual 26, 11, [14, 1, 0, 3, 30, 31, 32, 29], none), (11, .aload_n 0, 12, [], none), (12, .getfield 18, 15, [3, 2, 0, 25, 0], none), (15, .iconst 1, 16, [], none), (16, .isub, 17, [], none), (17, .ireturn, 18, [0], none)] (0, .aload_n 0, 1, [], none) (by decide +kernel) _ _ _).trans rfl
theorem E_X3_goHereFrom (d : Nat) (M : zM) (l0 : Nat) (l1 : Int32) : evM zcod (d + 1) 16 [.ref l0, .int l1] M = evk zcod none d zc_X3_goHereFrom 0 [(0, .ref l0), (1, .int l1)] [] M := evM_eq zcod d 16 _ M (Nat.le_of_ble_eq_true rfl)
theorem B_X3_goHereFrom_0 (d : Nat) (M : zM) (l0 : Nat) (l1 : Int32) :
  evk zcod none d zc_X3_goHereFrom 0 [(0, .ref l0), (1, .int l1)] [] M =
  if l1 < 0 then
  evk zcod none d zc_X3_goHereFrom 22 [] [] M
  else
  if gK M l0 = 3 then
  (if (gI M l0 2) ≤ l1 then
  evk zcod none d zc_X3_goHereFrom 22 [] [] M
  else
  if gK M l0 = 3 then
  (if gK M l0 = 3 then
  (if gK M (gR M l0 0) = 20 ∧ zin l1 (gN M (gR M l0 0)) then
  (evk zcod none d zc_X3_goHereFrom 22 [] [] (sI M (gR M l0 0) (zix l1) (gI M l0 2))) else none) else none) else none) else none :=
  (blk_ok zcod none d zc_X3_goHereFrom [(1, .ifCond .lt 21, 4, [22], none), (4, .iload_n 1, 5, [], none), (5, .aload_n 0, 6, [], none), (6, .getfield 18, 9, [3, 2, 0, 25, 0], none), (9, .if_icmp .ge 13, 12, [22], none), (12, .aload_n 0, 13, [], none), (13, .getfield 11, 16, [3, 0, 2, 23, 0], none), (16, .iload_n 1, 17, [], none), (17, .aload_n 0, 18, [], none), (18, .getfield 18, 21, [3, 2, 0, 25, 0], none), (21, .iastore, 22, [20], none)] (0, .iload_n 1, 1, [], none) (by decide +kernel) _ _ _).trans rfl
theorem B_X3_goHereFrom_22 (d : Nat) (M : zM)  :
  evk zcod none d zc_X3_goHereFrom 22 [] [] M =
  some (none, M) :=
  (blk_ok zcod none d zc_X3_goHereFrom [] (22, .return_, 23, [], some []) (by decide +kernel) _ _ _).trans rfl
theorem E_X3_cell (d : Nat) (M : zM) (l0 : Nat) (l1 : Int32) : evM zcod (d + 1) 17 [.ref l0, .int l1] M = evk zcod none d zc_X3_cell 0 [(0, .ref l0), (1, .int l1)] [] M := evM_eq zcod d 17 _ M (Nat.le_of_ble_eq_true rfl)
theorem B_X3_cell_0 (d : Nat) (M : zM) (l0 : Nat) (l1 : Int32) :
  evk zcod none d zc_X3_cell 0 [(0, .ref l0), (1, .int l1)] [] M =
  if l1 < 0 then
  evk zcod none d zc_X3_cell 21 [] [] M
  else
  if gK M l0 = 3 then
  (if (gI M l0 2) ≤ l1 then
  evk zcod none d zc_X3_cell 21 [] [] M
  else
  if gK M l0 = 3 then
  (if gK M (gR M l0 0) = 20 ∧ zin l1 (gN M (gR M l0 0)) then
  (evk zcod none d zc_X3_cell 23 [] [.int (gI M (gR M l0 0) (zix l1))] M) else none) else none) else none :=
  (blk_ok zcod none d zc_X3_cell [(1, .ifCond .lt 20, 4, [21], none), (4, .iload_n 1, 5, [], none), (5, .aload_n 0, 6, [], none), (6, .getfield 18, 9, [3, 2, 0, 25, 0], none), (9, .if_icmp .ge 12, 12, [21], none), (12, .aload_n 0, 13, [], none), (13, .getfield 11, 16, [3, 0, 2, 23, 0], none), (16, .iload_n 1, 17, [], none), (17, .iaload, 18, [20], none), (18, .goto 5, 21, [23], none)] (0, .iload_n 1, 1, [], none) (by decide +kernel) _ _ _).trans rfl
theorem B_X3_cell_21 (d : Nat) (M : zM)  :
  evk zcod none d zc_X3_cell 21 [] [] M =
  evk zcod none d zc_X3_cell 23 [] [.int (-6 : Int32)] M :=
  (blk_ok zcod none d zc_X3_cell [] (21, .bipush (-6), 23, [], some []) (by decide +kernel) _ _ _).trans rfl
theorem B_X3_cell_23 (d : Nat) (M : zM) (s0 : Int32) :
  evk zcod none d zc_X3_cell 23 [] [.int s0] M =
  some (some (.int s0), M) :=
  (blk_ok zcod none d zc_X3_cell [] (23, .ireturn, 24, [0], some []) (by decide +kernel) _ _ _).trans rfl
theorem E_X3_size (d : Nat) (M : zM) (l0 : Nat) : evM zcod (d + 1) 18 [.ref l0] M = evk zcod none d zc_X3_size 0 [(0, .ref l0)] [] M := evM_eq zcod d 18 _ M (Nat.le_of_ble_eq_true rfl)
theorem B_X3_size_0 (d : Nat) (M : zM) (l0 : Nat) :
  evk zcod none d zc_X3_size 0 [(0, .ref l0)] [] M =
  if gK M l0 = 3 then
  (some (some (.int (gI M l0 2)), M)) else none :=
  (blk_ok zcod none d zc_X3_size [(1, .getfield 18, 4, [3, 2, 0, 25, 0], none), (4, .ireturn, 5, [0], none)] (0, .aload_n 0, 1, [], none) (by decide +kernel) _ _ _).trans rfl
theorem E_X8_init (d : Nat) (M : zM) (l0 : Nat) : evM zcod (d + 1) 19 [.ref l0] M = evk zcod none d zc_X8_init 0 [(0, .ref l0)] [] M := evM_eq zcod d 19 _ M (Nat.le_of_ble_eq_true rfl)
theorem B_X8_init_0 (d : Nat) (M : zM) (l0 : Nat) :
  evk zcod none d zc_X8_init 0 [(0, .ref l0)] [] M =
  if 0 < l0 then
  (if okS M [(0, .ref l0)] [.ref l0] = true then
  (if 0 < (M.1.1 + 7) ∧ okS (alc M 9 4) [(0, .ref l0)] [.ref (M.1.1 + 7), .ref l0] = true then
  (bV (evM zcod d 0 [.ref (M.1.1 + 7), .int (7 : Int32), .int (7 : Int32)] (alc M 9 4)) fun M1 =>
  if gK M1 l0 = 8 ∧ (M.1.1 + 7) < M1.1.1 + 7 then
  (evk zcod none d zc_X8_init 19 [(0, .ref l0)] [] (sR M1 l0 0 (M.1.1 + 7))) else none) else none) else none) else none :=
  (blk_ok zcod none d zc_X8_init [(1, .invokespecial 3, 4, [9998, 34, 1, 2], none), (4, .aload_n 0, 5, [], none), (5, .new 9, 8, [9, 4, 35, 36, 11], none), (8, .dup, 9, [], none), (9, .bipush 7, 11, [], none), (11, .bipush 7, 13, [], none), (13, .invokespecial 11, 16, [0, 2, 0, 37, 38, 11], none), (16, .putfield 14, 19, [8, 0, 2, 39, 0, 1], none)] (0, .aload_n 0, 1, [], none) (by decide +kernel) _ _ _).trans rfl
theorem B_X8_init_19 (d : Nat) (M : zM) (l0 : Nat) :
  evk zcod none d zc_X8_init 19 [(0, .ref l0)] [] M =
  if okS M [(0, .ref l0)] [.ref l0] = true then
  (if 0 < (M.1.1 + 7) ∧ okS (alc M 9 4) [(0, .ref l0)] [.ref (M.1.1 + 7), .ref l0] = true then
  (bV (evM zcod d 0 [.ref (M.1.1 + 7), .int (5 : Int32), .int (4 : Int32)] (alc M 9 4)) fun M1 =>
  if gK M1 l0 = 8 ∧ (M.1.1 + 7) < M1.1.1 + 7 then
  (evk zcod none d zc_X8_init 32 [(0, .ref l0)] [] (sR M1 l0 1 (M.1.1 + 7))) else none) else none) else none :=
  (blk_ok zcod none d zc_X8_init [(20, .new 9, 23, [9, 4, 35, 36, 11], none), (23, .dup, 24, [], none), (24, .iconst 5, 25, [], none), (25, .iconst 4, 26, [], none), (26, .invokespecial 11, 29, [0, 2, 0, 37, 38, 11], none), (29, .putfield 20, 32, [8, 1, 2, 40, 0, 1], none)] (19, .aload_n 0, 20, [], some [0]) (by decide +kernel) _ _ _).trans rfl
theorem B_X8_init_32 (d : Nat) (M : zM) (l0 : Nat) :
  evk zcod none d zc_X8_init 32 [(0, .ref l0)] [] M =
  if okS M [(0, .ref l0)] [.ref l0] = true then
  (if 0 < (M.1.1 + 7) ∧ okS (alc M 9 4) [(0, .ref l0)] [.ref (M.1.1 + 7), .ref l0] = true then
  (bV (evM zcod d 0 [.ref (M.1.1 + 7), .int (5 : Int32), .int (4 : Int32)] (alc M 9 4)) fun M1 =>
  if gK M1 l0 = 8 ∧ (M.1.1 + 7) < M1.1.1 + 7 then
  (evk zcod none d zc_X8_init 45 [(0, .ref l0)] [] (sR M1 l0 2 (M.1.1 + 7))) else none) else none) else none :=
  (blk_ok zcod none d zc_X8_init [(33, .new 9, 36, [9, 4, 35, 36, 11], none), (36, .dup, 37, [], none), (37, .iconst 5, 38, [], none), (38, .iconst 4, 39, [], none), (39, .invokespecial 11, 42, [0, 2, 0, 37, 38, 11], none), (42, .putfield 23, 45, [8, 2, 2, 41, 0, 1], none)] (32, .aload_n 0, 33, [], some [0]) (by decide +kernel) _ _ _).trans rfl
theorem B_X8_init_45 (d : Nat) (M : zM) (l0 : Nat) :
  evk zcod none d zc_X8_init 45 [(0, .ref l0)] [] M =
  if gK M l0 = 8 then
  (if gK (sI M l0 3 (0 : Int32)) l0 = 8 then
  (if gK (sI (sI M l0 3 (0 : Int32)) l0 4 (0 : Int32)) l0 = 8 then
  (some (none, (sI (sI (sI M l0 3 (0 : Int32)) l0 4 (0 : Int32)) l0 5 (0 : Int32)))) else none) else none) else none :=
  (blk_ok zcod none d zc_X8_init [(46, .iconst 0, 47, [], none), (47, .putfield 26, 50, [8, 3, 0, 42, 0, 0], none), (50, .aload_n 0, 51, [], none), (51, .iconst 0, 52, [], none), (52, .putfield 30, 55, [8, 4, 0, 43, 0, 0], none), (55, .aload_n 0, 56, [], none), (56, .iconst 0, 57, [], none), (57, .putfield 33, 60, [8, 5, 0, 44, 0, 0], none), (60, .return_, 61, [], none)] (45, .aload_n 0, 46, [], some [0]) (by decide +kernel) _ _ _).trans rfl
theorem E_X8_clear (d : Nat) (M : zM) (l0 : Nat) : evM zcod (d + 1) 20 [.ref l0] M = evk zcod none d zc_X8_clear 0 [(0, .ref l0)] [] M := evM_eq zcod d 20 _ M (Nat.le_of_ble_eq_true rfl)
theorem B_X8_clear_0 (d : Nat) (M : zM) (l0 : Nat) :
  evk zcod none d zc_X8_clear 0 [(0, .ref l0)] [] M =
  if gK M l0 = 8 then
  (if gK M (gR M l0 0) = 9 then
  (bV (evM zcod d 4 [.ref (gR M l0 0)] M) fun M1 =>
  if M1.1.1 = M.1.1 then
  (if gK M1 l0 = 8 then
  (if gK M1 (gR M1 l0 1) = 9 then
  (bV (evM zcod d 4 [.ref (gR M1 l0 1)] M1) fun M2 =>
  if M2.1.1 = M1.1.1 then
  (if gK M2 l0 = 8 then
  (if gK M2 (gR M2 l0 2) = 9 then
  (bV (evM zcod d 4 [.ref (gR M2 l0 2)] M2) fun M3 =>
  if M3.1.1 = M2.1.1 then
  (if gK M3 l0 = 8 then
  (evk zcod none d zc_X8_clear 26 [(0, .ref l0)] [] (sI M3 l0 3 (0 : Int32))) else none) else none) else none) else none) else none) else none) else none) else none) else none) else none :=
  (blk_ok zcod none d zc_X8_clear [(1, .getfield 14, 4, [8, 0, 2, 39, 0], none), (4, .invokevirtual 36, 7, [4, 0, 0, 9, 45, 46, 47, 11], none), (7, .aload_n 0, 8, [], none), (8, .getfield 20, 11, [8, 1, 2, 40, 0], none), (11, .invokevirtual 36, 14, [4, 0, 0, 9, 45, 46, 47, 11], none), (14, .aload_n 0, 15, [], none), (15, .getfield 23, 18, [8, 2, 2, 41, 0], none), (18, .invokevirtual 36, 21, [4, 0, 0, 9, 45, 46, 47, 11], none), (21, .aload_n 0, 22, [], none), (22, .iconst 0, 23, [], none), (23, .putfield 26, 26, [8, 3, 0, 42, 0, 0], none)] (0, .aload_n 0, 1, [], none) (by decide +kernel) _ _ _).trans rfl
theorem B_X8_clear_26 (d : Nat) (M : zM) (l0 : Nat) :
  evk zcod none d zc_X8_clear 26 [(0, .ref l0)] [] M =
  if gK M l0 = 8 then
  (if gK (sI M l0 4 (0 : Int32)) l0 = 8 then
  (some (none, (sI (sI M l0 4 (0 : Int32)) l0 5 (0 : Int32)))) else none) else none :=
  (blk_ok zcod none d zc_X8_clear [(27, .iconst 0, 28, [], none), (28, .putfield 30, 31, [8, 4, 0, 43, 0, 0], none), (31, .aload_n 0, 32, [], none), (32, .iconst 0, 33, [], none), (33, .putfield 33, 36, [8, 5, 0, 44, 0, 0], none), (36, .return_, 37, [], none)] (26, .aload_n 0, 27, [], some [0]) (by decide +kernel) _ _ _).trans rfl
theorem E_X8_become (d : Nat) (M : zM) (l0 : Nat) (l1 : Nat) : evM zcod (d + 1) 21 [.ref l0, .ref l1] M = evk zcod none d zc_X8_become 0 [(0, .ref l0), (1, .ref l1)] [] M := evM_eq zcod d 21 _ M (Nat.le_of_ble_eq_true rfl)
theorem B_X8_become_0 (d : Nat) (M : zM) (l0 : Nat) (l1 : Nat) :
  evk zcod none d zc_X8_become 0 [(0, .ref l0), (1, .ref l1)] [] M =
  if gK M l0 = 8 then
  (if gK M l1 = 8 then
  (if gK M (gR M l0 0) = 9 then
  (bV (evM zcod d 8 [.ref (gR M l0 0), .ref (gR M l1 0)] M) fun M1 =>
  if M1.1.1 = M.1.1 then
  (if gK M1 l0 = 8 then
  (if gK M1 l1 = 8 then
  (if gK M1 (gR M1 l0 1) = 9 then
  (bV (evM zcod d 8 [.ref (gR M1 l0 1), .ref (gR M1 l1 1)] M1) fun M2 =>
  if M2.1.1 = M1.1.1 then
  (if gK M2 l0 = 8 then
  (if gK M2 l1 = 8 then
  (if gK M2 (gR M2 l0 2) = 9 then
  (bV (evM zcod d 8 [.ref (gR M2 l0 2), .ref (gR M2 l1 2)] M2) fun M3 =>
  if M3.1.1 = M2.1.1 then
  (if gK M3 l1 = 8 then
  (if gK M3 l0 = 8 then
  (evk zcod none d zc_X8_become 41 [(0, .ref l0), (1, .ref l1)] [] (sI M3 l0 3 (gI M3 l1 3))) else none) else none) else none) else none) else none) else none) else none) else none) else none) else none) else none) else none) else none) else none :=
  (blk_ok zcod none d zc_X8_become [(1, .getfield 14, 4, [8, 0, 2, 39, 0], none), (4, .aload_n 1, 5, [], none), (5, .getfield 14, 8, [8, 0, 2, 39, 0], none), (8, .invokevirtual 39, 11, [8, 1, 0, 9, 48, 49, 50, 11], none), (11, .aload_n 0, 12, [], none), (12, .getfield 20, 15, [8, 1, 2, 40, 0], none), (15, .aload_n 1, 16, [], none), (16, .getfield 20, 19, [8, 1, 2, 40, 0], none), (19, .invokevirtual 39, 22, [8, 1, 0, 9, 48, 49, 50, 11], none), (22, .aload_n 0, 23, [], none), (23, .getfield 23, 26, [8, 2, 2, 41, 0], none), (26, .aload_n 1, 27, [], none), (27, .getfield 23, 30, [8, 2, 2, 41, 0], none), (30, .invokevirtual 39, 33, [8, 1, 0, 9, 48, 49, 50, 11], none), (33, .aload_n 0, 34, [], none), (34, .aload_n 1, 35, [], none), (35, .getfield 26, 38, [8, 3, 0, 42, 0], none), (38, .putfield 26, 41, [8, 3, 0, 42, 0, 0], none)] (0, .aload_n 0, 1, [], none) (by decide +kernel) _ _ _).trans rfl
theorem B_X8_become_41 (d : Nat) (M : zM) (l0 : Nat) (l1 : Nat) :
  evk zcod none d zc_X8_become 41 [(0, .ref l0), (1, .ref l1)] [] M =
  if gK M l1 = 8 then
  (if gK M l0 = 8 then
  (if gK (sI M l0 4 (gI M l1 4)) l1 = 8 then
  (if gK (sI M l0 4 (gI M l1 4)) l0 = 8 then
  (some (none, (sI (sI M l0 4 (gI M l1 4)) l0 5 (gI (sI M l0 4 (gI M l1 4)) l1 5)))) else none) else none) else none) else none :=
  (blk_ok zcod none d zc_X8_become [(42, .aload_n 1, 43, [], none), (43, .getfield 30, 46, [8, 4, 0, 43, 0], none), (46, .putfield 30, 49, [8, 4, 0, 43, 0, 0], none), (49, .aload_n 0, 50, [], none), (50, .aload_n 1, 51, [], none), (51, .getfield 33, 54, [8, 5, 0, 44, 0], none), (54, .putfield 33, 57, [8, 5, 0, 44, 0, 0], none), (57, .return_, 58, [], none)] (41, .aload_n 0, 42, [], some [0, 1]) (by decide +kernel) _ _ _).trans rfl
theorem E_X8_loadsThat (d : Nat) (M : zM) (l0 : Nat) (l1 : Int32) : evM zcod (d + 1) 22 [.ref l0, .int l1] M = evk zcod none d zc_X8_loadsThat 0 [(0, .ref l0), (1, .int l1)] [] M := evM_eq zcod d 22 _ M (Nat.le_of_ble_eq_true rfl)
theorem B_X8_loadsThat_0 (d : Nat) (M : zM) (l0 : Nat) (l1 : Int32) :
  evk zcod none d zc_X8_loadsThat 0 [(0, .ref l0), (1, .int l1)] [] M =
  evk zcod none d zc_X8_loadsThat 4 [(0, .ref l0), (1, .int l1), (2, .int (0 : Int32)), (3, .int (0 : Int32))] [] M :=
  (blk_ok zcod none d zc_X8_loadsThat [(1, .istore_n 2, 2, [], none), (2, .iconst 0, 3, [], none), (3, .istore_n 3, 4, [], none)] (0, .iconst 0, 1, [], none) (by decide +kernel) _ _ _).trans rfl
theorem B_X8_loadsThat_4 (d : Nat) (M : zM) (l0 : Nat) (l1 : Int32) (l2 : Int32) (l3 : Int32) :
  evk zcod none d zc_X8_loadsThat 4 [(0, .ref l0), (1, .int l1), (2, .int l2), (3, .int l3)] [] M =
  if gK M l0 = 8 then
  (if gK M (gR M l0 0) = 9 then
  (bI (evM zcod d 1 [.ref (gR M l0 0)] M) fun x1 M1 =>
  if M1.1.1 = M.1.1 then
  (if x1 ≤ l3 then
  evk zcod none d zc_X8_loadsThat 40 [(2, .int l2)] [] M1
  else
  if gK M1 l0 = 8 then
  (if gK M1 (gR M1 l0 0) = 9 then
  (bI (evM zcod d 5 [.ref (gR M1 l0 0), .int l3, .int (3 : Int32)] M1) fun x2 M2 =>
  if M2.1.1 = M1.1.1 then
  (if ¬ x2 = l1 then
  evk zcod none d zc_X8_loadsThat 34 [(0, .ref l0), (1, .int l1), (2, .int l2), (3, .int l3)] [] M2
  else
  evk zcod none d zc_X8_loadsThat 34 [(0, .ref l0), (1, .int l1), (2, .int (l2 ||| ((1 : Int32) <<< (l3 &&& 31)))), (3, .int l3)] [] M2) else none) else none) else none) else none) else none) else none :=
  (blk_ok zcod none d zc_X8_loadsThat [(5, .aload_n 0, 6, [], none), (6, .getfield 14, 9, [8, 0, 2, 39, 0], none), (9, .invokevirtual 43, 12, [1, 0, 1, 9, 51, 52, 53, 11], none), (12, .if_icmp .ge 28, 15, [40], none), (15, .aload_n 0, 16, [], none), (16, .getfield 14, 19, [8, 0, 2, 39, 0], none), (19, .iload_n 3, 20, [], none), (20, .iconst 3, 21, [], none), (21, .invokevirtual 47, 24, [5, 2, 1, 9, 54, 55, 56, 11], none), (24, .iload_n 1, 25, [], none), (25, .if_icmp .ne 9, 28, [34], none), (28, .iload_n 2, 29, [], none), (29, .iconst 1, 30, [], none), (30, .iload_n 3, 31, [], none), (31, .ishl, 32, [], none), (32, .ior, 33, [], none), (33, .istore_n 2, 34, [], none)] (4, .iload_n 3, 5, [], some [0, 1, 2, 3]) (by decide +kernel) _ _ _).trans rfl
theorem B_X8_loadsThat_34 (d : Nat) (M : zM) (l0 : Nat) (l1 : Int32) (l2 : Int32) (l3 : Int32) :
  evk zcod none d zc_X8_loadsThat 34 [(0, .ref l0), (1, .int l1), (2, .int l2), (3, .int l3)] [] M =
  evk zcod none d zc_X8_loadsThat 4 [(0, .ref l0), (1, .int l1), (2, .int l2), (3, .int (l3 + 1))] [] M :=
  (blk_ok zcod none d zc_X8_loadsThat [(37, .goto (-33), 40, [4], none)] (34, .iinc 3 1, 37, [], some [0, 1, 2, 3]) (by decide +kernel) _ _ _).trans rfl
theorem B_X8_loadsThat_40 (d : Nat) (M : zM) (l2 : Int32) :
  evk zcod none d zc_X8_loadsThat 40 [(2, .int l2)] [] M =
  some (some (.int l2), M) :=
  (blk_ok zcod none d zc_X8_loadsThat [(41, .ireturn, 42, [0], none)] (40, .iload_n 2, 41, [], some [2]) (by decide +kernel) _ _ _).trans rfl
theorem E_X8_up (d : Nat) (M : zM) (l0 : Nat) : evM zcod (d + 1) 23 [.ref l0] M = evk zcod none d zc_X8_up 0 [(0, .ref l0)] [] M := evM_eq zcod d 23 _ M (Nat.le_of_ble_eq_true rfl)
theorem B_X8_up_0 (d : Nat) (M : zM) (l0 : Nat) :
  evk zcod none d zc_X8_up 0 [(0, .ref l0)] [] M =
  if gK M l0 = 8 then
  (bI (evM zcod d 22 [.ref l0, .int (1 : Int32)] M) fun x1 M1 =>
  if M1.1.1 = M.1.1 then
  (bI (evM zcod d 277 [.int x1] M1) fun x2 M2 =>
  if M2.1.1 = M1.1.1 then
  (some (some (.int x2), M2)) else none) else none) else none :=
  (blk_ok zcod none d zc_X8_up [(1, .iconst 1, 2, [], none), (2, .invokevirtual 51, 5, [22, 1, 1, 8, 57, 58, 59, 60], none), (5, .invokestatic 55, 8, [277, 1, 1, 0, 61, 62, 63], none), (8, .ireturn, 9, [0], none)] (0, .aload_n 0, 1, [], none) (by decide +kernel) _ _ _).trans rfl
theorem E_X8_stored (d : Nat) (M : zM) (l0 : Nat) : evM zcod (d + 1) 24 [.ref l0] M = evk zcod none d zc_X8_stored 0 [(0, .ref l0)] [] M := evM_eq zcod d 24 _ M (Nat.le_of_ble_eq_true rfl)
theorem B_X8_stored_0 (d : Nat) (M : zM) (l0 : Nat) :
  evk zcod none d zc_X8_stored 0 [(0, .ref l0)] [] M =
  if gK M l0 = 8 then
  (bI (evM zcod d 22 [.ref l0, .int (2 : Int32)] M) fun x1 M1 =>
  if M1.1.1 = M.1.1 then
  (bI (evM zcod d 277 [.int x1] M1) fun x2 M2 =>
  if M2.1.1 = M1.1.1 then
  (some (some (.int x2), M2)) else none) else none) else none :=
  (blk_ok zcod none d zc_X8_stored [(1, .iconst 2, 2, [], none), (2, .invokevirtual 51, 5, [22, 1, 1, 8, 57, 58, 59, 60], none), (5, .invokestatic 55, 8, [277, 1, 1, 0, 61, 62, 63], none), (8, .ireturn, 9, [0], none)] (0, .aload_n 0, 1, [], none) (by decide +kernel) _ _ _).trans rfl
theorem E_X8_isLoadAtFoot (d : Nat) (M : zM) (l0 : Nat) (l1 : Int32) : evM zcod (d + 1) 25 [.ref l0, .int l1] M = evk zcod none d zc_X8_isLoadAtFoot 0 [(0, .ref l0), (1, .int l1)] [] M := evM_eq zcod d 25 _ M (Nat.le_of_ble_eq_true rfl)
theorem B_X8_isLoadAtFoot_0 (d : Nat) (M : zM) (l0 : Nat) (l1 : Int32) :
  evk zcod none d zc_X8_isLoadAtFoot 0 [(0, .ref l0), (1, .int l1)] [] M =
  if gK M l0 = 8 then
  (if gK M (gR M l0 0) = 9 then
  (bI (evM zcod d 2 [.ref (gR M l0 0), .int l1] M) fun x1 M1 =>
  if M1.1.1 = M.1.1 then
  (if x1 = 0 then
  evk zcod none d zc_X8_isLoadAtFoot 27 [] [] M1
  else
  if gK M1 l0 = 8 then
  (if gK M1 (gR M1 l0 0) = 9 then
  (bI (evM zcod d 5 [.ref (gR M1 l0 0), .int l1, .int (3 : Int32)] M1) fun x2 M2 =>
  if M2.1.1 = M1.1.1 then
  (if ¬ x2 = 0 then
  evk zcod none d zc_X8_isLoadAtFoot 27 [] [] M2
  else
  evk zcod none d zc_X8_isLoadAtFoot 28 [] [.int (1 : Int32)] M2) else none) else none) else none) else none) else none) else none :=
  (blk_ok zcod none d zc_X8_isLoadAtFoot [(1, .getfield 14, 4, [8, 0, 2, 39, 0], none), (4, .iload_n 1, 5, [], none), (5, .invokevirtual 60, 8, [2, 1, 1, 9, 64, 65, 66, 11], none), (8, .ifCond .eq 19, 11, [27], none), (11, .aload_n 0, 12, [], none), (12, .getfield 14, 15, [8, 0, 2, 39, 0], none), (15, .iload_n 1, 16, [], none), (16, .iconst 3, 17, [], none), (17, .invokevirtual 47, 20, [5, 2, 1, 9, 54, 55, 56, 11], none), (20, .ifCond .ne 7, 23, [27], none), (23, .iconst 1, 24, [], none), (24, .goto 4, 27, [28], none)] (0, .aload_n 0, 1, [], none) (by decide +kernel) _ _ _).trans rfl
theorem B_X8_isLoadAtFoot_27 (d : Nat) (M : zM)  :
  evk zcod none d zc_X8_isLoadAtFoot 27 [] [] M =
  evk zcod none d zc_X8_isLoadAtFoot 28 [] [.int (0 : Int32)] M :=
  (blk_ok zcod none d zc_X8_isLoadAtFoot [] (27, .iconst 0, 28, [], some []) (by decide +kernel) _ _ _).trans rfl
theorem B_X8_isLoadAtFoot_28 (d : Nat) (M : zM) (s0 : Int32) :
  evk zcod none d zc_X8_isLoadAtFoot 28 [] [.int s0] M =
  if s0 = 0 ∨ s0 = 1 then some (some (.int s0), M) else none :=
  (blk_ok zcod none d zc_X8_isLoadAtFoot [] (28, .ireturn, 29, [1], some []) (by decide +kernel) _ _ _).trans rfl
theorem E_X8_isSilkAtFoot (d : Nat) (M : zM) (l0 : Nat) (l1 : Int32) : evM zcod (d + 1) 26 [.ref l0, .int l1] M = evk zcod none d zc_X8_isSilkAtFoot 0 [(0, .ref l0), (1, .int l1)] [] M := evM_eq zcod d 26 _ M (Nat.le_of_ble_eq_true rfl)
theorem B_X8_isSilkAtFoot_0 (d : Nat) (M : zM) (l0 : Nat) (l1 : Int32) :
  evk zcod none d zc_X8_isSilkAtFoot 0 [(0, .ref l0), (1, .int l1)] [] M =
  if gK M l0 = 8 then
  (if gK M (gR M l0 1) = 9 then
  (bI (evM zcod d 2 [.ref (gR M l0 1), .int l1] M) fun x1 M1 =>
  if M1.1.1 = M.1.1 then
  (if x1 = 0 then
  evk zcod none d zc_X8_isSilkAtFoot 29 [] [] M1
  else
  if gK M1 l0 = 8 then
  (if gK M1 (gR M1 l0 1) = 9 then
  (bI (evM zcod d 5 [.ref (gR M1 l0 1), .int l1, .int (1 : Int32)] M1) fun x2 M2 =>
  if M2.1.1 = M1.1.1 then
  (if ¬ x2 = (-2 : Int32) then
  evk zcod none d zc_X8_isSilkAtFoot 29 [] [] M2
  else
  evk zcod none d zc_X8_isSilkAtFoot 30 [] [.int (1 : Int32)] M2) else none) else none) else none) else none) else none) else none :=
  (blk_ok zcod none d zc_X8_isSilkAtFoot [(1, .getfield 20, 4, [8, 1, 2, 40, 0], none), (4, .iload_n 1, 5, [], none), (5, .invokevirtual 60, 8, [2, 1, 1, 9, 64, 65, 66, 11], none), (8, .ifCond .eq 21, 11, [29], none), (11, .aload_n 0, 12, [], none), (12, .getfield 20, 15, [8, 1, 2, 40, 0], none), (15, .iload_n 1, 16, [], none), (16, .iconst 1, 17, [], none), (17, .invokevirtual 47, 20, [5, 2, 1, 9, 54, 55, 56, 11], none), (20, .bipush (-2), 22, [], none), (22, .if_icmp .ne 7, 25, [29], none), (25, .iconst 1, 26, [], none), (26, .goto 4, 29, [30], none)] (0, .aload_n 0, 1, [], none) (by decide +kernel) _ _ _).trans rfl
theorem B_X8_isSilkAtFoot_29 (d : Nat) (M : zM)  :
  evk zcod none d zc_X8_isSilkAtFoot 29 [] [] M =
  evk zcod none d zc_X8_isSilkAtFoot 30 [] [.int (0 : Int32)] M :=
  (blk_ok zcod none d zc_X8_isSilkAtFoot [] (29, .iconst 0, 30, [], some []) (by decide +kernel) _ _ _).trans rfl
theorem B_X8_isSilkAtFoot_30 (d : Nat) (M : zM) (s0 : Int32) :
  evk zcod none d zc_X8_isSilkAtFoot 30 [] [.int s0] M =
  if s0 = 0 ∨ s0 = 1 then some (some (.int s0), M) else none :=
  (blk_ok zcod none d zc_X8_isSilkAtFoot [] (30, .ireturn, 31, [1], some []) (by decide +kernel) _ _ _).trans rfl
theorem E_X8_isReady (d : Nat) (M : zM) (l0 : Nat) (l1 : Int32) (l2 : Int32) : evM zcod (d + 1) 27 [.ref l0, .int l1, .int l2] M = evk zcod none d zc_X8_isReady 0 [(0, .ref l0), (1, .int l1), (2, .int l2)] [] M := evM_eq zcod d 27 _ M (Nat.le_of_ble_eq_true rfl)
theorem B_X8_isReady_0 (d : Nat) (M : zM) (l0 : Nat) (l1 : Int32) (l2 : Int32) :
  evk zcod none d zc_X8_isReady 0 [(0, .ref l0), (1, .int l1), (2, .int l2)] [] M =
  if gK M l0 = 8 then
  (bI (evM zcod d 25 [.ref l0, .int l1] M) fun x1 M1 =>
  if M1.1.1 = M.1.1 then
  (if x1 = 0 then
  evk zcod none d zc_X8_isReady 20 [] [] M1
  else
  if gK M1 l0 = 8 then
  (bI (evM zcod d 26 [.ref l0, .int l2] M1) fun x2 M2 =>
  if M2.1.1 = M1.1.1 then
  (if x2 = 0 then
  evk zcod none d zc_X8_isReady 20 [] [] M2
  else
  evk zcod none d zc_X8_isReady 21 [] [.int (1 : Int32)] M2) else none) else none) else none) else none :=
  (blk_ok zcod none d zc_X8_isReady [(1, .iload_n 1, 2, [], none), (2, .invokevirtual 64, 5, [25, 1, 1, 8, 67, 68, 69, 60], none), (5, .ifCond .eq 15, 8, [20], none), (8, .aload_n 0, 9, [], none), (9, .iload_n 2, 10, [], none), (10, .invokevirtual 67, 13, [26, 1, 1, 8, 70, 71, 72, 60], none), (13, .ifCond .eq 7, 16, [20], none), (16, .iconst 1, 17, [], none), (17, .goto 4, 20, [21], none)] (0, .aload_n 0, 1, [], none) (by decide +kernel) _ _ _).trans rfl
theorem B_X8_isReady_20 (d : Nat) (M : zM)  :
  evk zcod none d zc_X8_isReady 20 [] [] M =
  evk zcod none d zc_X8_isReady 21 [] [.int (0 : Int32)] M :=
  (blk_ok zcod none d zc_X8_isReady [] (20, .iconst 0, 21, [], some []) (by decide +kernel) _ _ _).trans rfl
theorem B_X8_isReady_21 (d : Nat) (M : zM) (s0 : Int32) :
  evk zcod none d zc_X8_isReady 21 [] [.int s0] M =
  if s0 = 0 ∨ s0 = 1 then some (some (.int s0), M) else none :=
  (blk_ok zcod none d zc_X8_isReady [] (21, .ireturn, 22, [1], some []) (by decide +kernel) _ _ _).trans rfl
theorem E_X8_letGo (d : Nat) (M : zM) (l0 : Nat) (l1 : Int32) (l2 : Int32) : evM zcod (d + 1) 28 [.ref l0, .int l1, .int l2] M = evk zcod none d zc_X8_letGo 0 [(0, .ref l0), (1, .int l1), (2, .int l2)] [] M := evM_eq zcod d 28 _ M (Nat.le_of_ble_eq_true rfl)
theorem B_X8_letGo_0 (d : Nat) (M : zM) (l0 : Nat) (l1 : Int32) (l2 : Int32) :
  evk zcod none d zc_X8_letGo 0 [(0, .ref l0), (1, .int l1), (2, .int l2)] [] M =
  if gK M l0 = 8 then
  (if gK M (gR M l0 0) = 9 then
  (bV (evM zcod d 6 [.ref (gR M l0 0), .int l1, .int (3 : Int32), .int (1 : Int32)] M) fun M1 =>
  if M1.1.1 = M.1.1 then
  (if gK M1 l0 = 8 then
  (if gK M1 (gR M1 l0 0) = 9 then
  (bV (evM zcod d 6 [.ref (gR M1 l0 0), .int l1, .int (4 : Int32), .int (0 : Int32)] M1) fun M2 =>
  if M2.1.1 = M1.1.1 then
  (if gK M2 l0 = 8 then
  (if gK M2 (gR M2 l0 0) = 9 then
  (bV (evM zcod d 6 [.ref (gR M2 l0 0), .int l1, .int (5 : Int32), .int l2] M2) fun M3 =>
  if M3.1.1 = M2.1.1 then
  (if gK M3 l0 = 8 then
  (if gK M3 (gR M3 l0 1) = 9 then
  (bV (evM zcod d 6 [.ref (gR M3 l0 1), .int l2, .int (1 : Int32), .int l1] M3) fun M4 =>
  if M4.1.1 = M3.1.1 then
  (evk zcod none d zc_X8_letGo 40 [(0, .ref l0), (2, .int l2)] [] M4) else none) else none) else none) else none) else none) else none) else none) else none) else none) else none) else none) else none :=
  (blk_ok zcod none d zc_X8_letGo [(1, .getfield 14, 4, [8, 0, 2, 39, 0], none), (4, .iload_n 1, 5, [], none), (5, .iconst 3, 6, [], none), (6, .iconst 1, 7, [], none), (7, .invokevirtual 70, 10, [6, 3, 0, 9, 73, 13, 14, 11], none), (10, .aload_n 0, 11, [], none), (11, .getfield 14, 14, [8, 0, 2, 39, 0], none), (14, .iload_n 1, 15, [], none), (15, .iconst 4, 16, [], none), (16, .iconst 0, 17, [], none), (17, .invokevirtual 70, 20, [6, 3, 0, 9, 73, 13, 14, 11], none), (20, .aload_n 0, 21, [], none), (21, .getfield 14, 24, [8, 0, 2, 39, 0], none), (24, .iload_n 1, 25, [], none), (25, .iconst 5, 26, [], none), (26, .iload_n 2, 27, [], none), (27, .invokevirtual 70, 30, [6, 3, 0, 9, 73, 13, 14, 11], none), (30, .aload_n 0, 31, [], none), (31, .getfield 20, 34, [8, 1, 2, 40, 0], none), (34, .iload_n 2, 35, [], none), (35, .iconst 1, 36, [], none), (36, .iload_n 1, 37, [], none), (37, .invokevirtual 70, 40, [6, 3, 0, 9, 73, 13, 14, 11], none)] (0, .aload_n 0, 1, [], none) (by decide +kernel) _ _ _).trans rfl
theorem B_X8_letGo_40 (d : Nat) (M : zM) (l0 : Nat) (l2 : Int32) :
  evk zcod none d zc_X8_letGo 40 [(0, .ref l0), (2, .int l2)] [] M =
  if gK M l0 = 8 then
  (if gK M l0 = 8 then
  (if gK M (gR M l0 1) = 9 then
  (bI (evM zcod d 5 [.ref (gR M l0 1), .int l2, .int (2 : Int32)] M) fun x1 M1 =>
  if M1.1.1 = M.1.1 then
  (if gK M1 (gR M l0 1) = 9 then
  (bV (evM zcod d 6 [.ref (gR M l0 1), .int l2, .int (2 : Int32), .int (x1 + (1 : Int32))] M1) fun M2 =>
  if M2.1.1 = M1.1.1 then
  (some (none, M2)) else none) else none) else none) else none) else none) else none :=
  (blk_ok zcod none d zc_X8_letGo [(41, .getfield 20, 44, [8, 1, 2, 40, 0], none), (44, .iload_n 2, 45, [], none), (45, .iconst 2, 46, [], none), (46, .aload_n 0, 47, [], none), (47, .getfield 20, 50, [8, 1, 2, 40, 0], none), (50, .iload_n 2, 51, [], none), (51, .iconst 2, 52, [], none), (52, .invokevirtual 47, 55, [5, 2, 1, 9, 54, 55, 56, 11], none), (55, .iconst 1, 56, [], none), (56, .iadd, 57, [], none), (57, .invokevirtual 70, 60, [6, 3, 0, 9, 73, 13, 14, 11], none), (60, .return_, 61, [], none)] (40, .aload_n 0, 41, [], some [0, 2]) (by decide +kernel) _ _ _).trans rfl
theorem E_X8_bringDown (d : Nat) (M : zM) (l0 : Nat) (l1 : Int32) (l2 : Int32) : evM zcod (d + 1) 29 [.ref l0, .int l1, .int l2] M = evk zcod none d zc_X8_bringDown 0 [(0, .ref l0), (1, .int l1), (2, .int l2)] [] M := evM_eq zcod d 29 _ M (Nat.le_of_ble_eq_true rfl)
theorem B_X8_bringDown_0 (d : Nat) (M : zM) (l0 : Nat) (l1 : Int32) (l2 : Int32) :
  evk zcod none d zc_X8_bringDown 0 [(0, .ref l0), (1, .int l1), (2, .int l2)] [] M =
  if gK M l0 = 8 then
  (if gK M l0 = 8 then
  (if gK M (gR M l0 0) = 9 then
  (bI (evM zcod d 5 [.ref (gR M l0 0), .int l1, .int (5 : Int32)] M) fun x1 M1 =>
  if M1.1.1 = M.1.1 then
  (if gK M1 (gR M l0 1) = 9 then
  (bV (evM zcod d 6 [.ref (gR M l0 1), .int x1, .int (1 : Int32), .int (-2 : Int32)] M1) fun M2 =>
  if M2.1.1 = M1.1.1 then
  (if gK M2 l0 = 8 then
  (if gK M2 (gR M2 l0 0) = 9 then
  (bV (evM zcod d 6 [.ref (gR M2 l0 0), .int l1, .int (3 : Int32), .int l2] M2) fun M3 =>
  if M3.1.1 = M2.1.1 then
  (if gK M3 l0 = 8 then
  (if gK M3 (gR M3 l0 0) = 9 then
  (bV (evM zcod d 6 [.ref (gR M3 l0 0), .int l1, .int (4 : Int32), .int (0 : Int32)] M3) fun M4 =>
  if M4.1.1 = M3.1.1 then
  (evk zcod none d zc_X8_bringDown 39 [(0, .ref l0), (1, .int l1)] [] M4) else none) else none) else none) else none) else none) else none) else none) else none) else none) else none) else none) else none :=
  (blk_ok zcod none d zc_X8_bringDown [(1, .getfield 20, 4, [8, 1, 2, 40, 0], none), (4, .aload_n 0, 5, [], none), (5, .getfield 14, 8, [8, 0, 2, 39, 0], none), (8, .iload_n 1, 9, [], none), (9, .iconst 5, 10, [], none), (10, .invokevirtual 47, 13, [5, 2, 1, 9, 54, 55, 56, 11], none), (13, .iconst 1, 14, [], none), (14, .bipush (-2), 16, [], none), (16, .invokevirtual 70, 19, [6, 3, 0, 9, 73, 13, 14, 11], none), (19, .aload_n 0, 20, [], none), (20, .getfield 14, 23, [8, 0, 2, 39, 0], none), (23, .iload_n 1, 24, [], none), (24, .iconst 3, 25, [], none), (25, .iload_n 2, 26, [], none), (26, .invokevirtual 70, 29, [6, 3, 0, 9, 73, 13, 14, 11], none), (29, .aload_n 0, 30, [], none), (30, .getfield 14, 33, [8, 0, 2, 39, 0], none), (33, .iload_n 1, 34, [], none), (34, .iconst 4, 35, [], none), (35, .iconst 0, 36, [], none), (36, .invokevirtual 70, 39, [6, 3, 0, 9, 73, 13, 14, 11], none)] (0, .aload_n 0, 1, [], none) (by decide +kernel) _ _ _).trans rfl
theorem B_X8_bringDown_39 (d : Nat) (M : zM) (l0 : Nat) (l1 : Int32) :
  evk zcod none d zc_X8_bringDown 39 [(0, .ref l0), (1, .int l1)] [] M =
  if gK M l0 = 8 then
  (if gK M (gR M l0 0) = 9 then
  (bV (evM zcod d 6 [.ref (gR M l0 0), .int l1, .int (5 : Int32), .int (-2 : Int32)] M) fun M1 =>
  if M1.1.1 = M.1.1 then
  (some (none, M1)) else none) else none) else none :=
  (blk_ok zcod none d zc_X8_bringDown [(40, .getfield 14, 43, [8, 0, 2, 39, 0], none), (43, .iload_n 1, 44, [], none), (44, .iconst 5, 45, [], none), (45, .bipush (-2), 47, [], none), (47, .invokevirtual 70, 50, [6, 3, 0, 9, 73, 13, 14, 11], none), (50, .return_, 51, [], none)] (39, .aload_n 0, 40, [], some [0, 1]) (by decide +kernel) _ _ _).trans rfl
theorem E_X8_nearestHook (d : Nat) (M : zM) (l0 : Nat) (l1 : Int32) (l2 : Int32) : evM zcod (d + 1) 30 [.ref l0, .int l1, .int l2] M = evk zcod none d zc_X8_nearestHook 0 [(0, .ref l0), (1, .int l1), (2, .int l2)] [] M := evM_eq zcod d 30 _ M (Nat.le_of_ble_eq_true rfl)
theorem B_X8_nearestHook_0 (d : Nat) (M : zM) (l0 : Nat) (l1 : Int32) (l2 : Int32) :
  evk zcod none d zc_X8_nearestHook 0 [(0, .ref l0), (1, .int l1), (2, .int l2)] [] M =
  evk zcod none d zc_X8_nearestHook 10 [(0, .ref l0), (1, .int l1), (2, .int l2), (3, .int (-2 : Int32)), (4, .int (20 : Int32)), (5, .int (0 : Int32))] [] M :=
  (blk_ok zcod none d zc_X8_nearestHook [(2, .istore_n 3, 3, [], none), (3, .bipush 20, 5, [], none), (5, .istore 4, 7, [], none), (7, .iconst 0, 8, [], none), (8, .istore 5, 10, [], none)] (0, .bipush (-2), 2, [], none) (by decide +kernel) _ _ _).trans rfl
theorem B_X8_nearestHook_10 (d : Nat) (M : zM) (l0 : Nat) (l1 : Int32) (l2 : Int32) (l3 : Int32) (l4 : Int32) (l5 : Int32) :
  evk zcod none d zc_X8_nearestHook 10 [(0, .ref l0), (1, .int l1), (2, .int l2), (3, .int l3), (4, .int l4), (5, .int l5)] [] M =
  if gK M l0 = 8 then
  (if gK M (gR M l0 2) = 9 then
  (bI (evM zcod d 1 [.ref (gR M l0 2)] M) fun x1 M1 =>
  if M1.1.1 = M.1.1 then
  (if x1 ≤ l5 then
  evk zcod none d zc_X8_nearestHook 83 [(3, .int l3)] [] M1
  else
  if gK M1 l0 = 8 then
  (if gK M1 (gR M1 l0 2) = 9 then
  (bI (evM zcod d 5 [.ref (gR M1 l0 2), .int l5, .int (0 : Int32)] M1) fun x2 M2 =>
  if M2.1.1 = M1.1.1 then
  (bI (evM zcod d 276 [.int (x2 - l1)] M2) fun x3 M3 =>
  if M3.1.1 = M2.1.1 then
  (if l4 ≤ x3 then
  evk zcod none d zc_X8_nearestHook 77 [(0, .ref l0), (1, .int l1), (2, .int l2), (3, .int l3), (4, .int l4), (5, .int l5)] [] M3
  else
  if gK M3 l0 = 8 then
  (if gK M3 (gR M3 l0 2) = 9 then
  (bI (evM zcod d 5 [.ref (gR M3 l0 2), .int l5, .int (1 : Int32)] M3) fun x4 M4 =>
  if M4.1.1 = M3.1.1 then
  (if x4 < x3 then
  evk zcod none d zc_X8_nearestHook 77 [(0, .ref l0), (1, .int l1), (2, .int l2), (3, .int l3), (4, .int l4), (5, .int l5)] [] M4
  else
  evk zcod none d zc_X8_nearestHook 61 [(0, .ref l0), (1, .int l1), (2, .int l2), (3, .int l3), (4, .int l4), (5, .int l5), (6, .int x3)] [] M4) else none) else none) else none) else none) else none) else none) else none) else none) else none) else none :=
  (blk_ok zcod none d zc_X8_nearestHook [(12, .aload_n 0, 13, [], none), (13, .getfield 23, 16, [8, 2, 2, 41, 0], none), (16, .invokevirtual 43, 19, [1, 0, 1, 9, 51, 52, 53, 11], none), (19, .if_icmp .ge 64, 22, [83], none), (22, .aload_n 0, 23, [], none), (23, .getfield 23, 26, [8, 2, 2, 41, 0], none), (26, .iload 5, 28, [], none), (28, .iconst 0, 29, [], none), (29, .invokevirtual 47, 32, [5, 2, 1, 9, 54, 55, 56, 11], none), (32, .iload_n 1, 33, [], none), (33, .isub, 34, [], none), (34, .invokestatic 74, 37, [276, 1, 1, 0, 74, 75, 17], none), (37, .istore 6, 39, [], none), (39, .iload 6, 41, [], none), (41, .iload 4, 43, [], none), (43, .if_icmp .ge 34, 46, [77], none), (46, .iload 6, 48, [], none), (48, .aload_n 0, 49, [], none), (49, .getfield 23, 52, [8, 2, 2, 41, 0], none), (52, .iload 5, 54, [], none), (54, .iconst 1, 55, [], none), (55, .invokevirtual 47, 58, [5, 2, 1, 9, 54, 55, 56, 11], none), (58, .if_icmp .gt 19, 61, [77], none)] (10, .iload 5, 12, [], some [0, 1, 2, 3, 4, 5]) (by decide +kernel) _ _ _).trans rfl
theorem B_X8_nearestHook_61 (d : Nat) (M : zM) (l0 : Nat) (l1 : Int32) (l2 : Int32) (l3 : Int32) (l4 : Int32) (l5 : Int32) (l6 : Int32) :
  evk zcod none d zc_X8_nearestHook 61 [(0, .ref l0), (1, .int l1), (2, .int l2), (3, .int l3), (4, .int l4), (5, .int l5), (6, .int l6)] [] M =
  if ¬ ((l2 >>> (l5 &&& 31)) &&& (1 : Int32)) = 0 then
  evk zcod none d zc_X8_nearestHook 77 [(0, .ref l0), (1, .int l1), (2, .int l2), (3, .int l3), (4, .int l4), (5, .int l5)] [] M
  else
  evk zcod none d zc_X8_nearestHook 77 [(0, .ref l0), (1, .int l1), (2, .int l2), (3, .int l5), (4, .int l6), (5, .int l5)] [] M :=
  (blk_ok zcod none d zc_X8_nearestHook [(62, .iload 5, 64, [], none), (64, .ishr, 65, [], none), (65, .iconst 1, 66, [], none), (66, .iand, 67, [], none), (67, .ifCond .ne 10, 70, [77], none), (70, .iload 5, 72, [], none), (72, .istore_n 3, 73, [], none), (73, .iload 6, 75, [], none), (75, .istore 4, 77, [], none)] (61, .iload_n 2, 62, [], some [0, 1, 2, 3, 4, 5, 6]) (by decide +kernel) _ _ _).trans rfl
theorem B_X8_nearestHook_77 (d : Nat) (M : zM) (l0 : Nat) (l1 : Int32) (l2 : Int32) (l3 : Int32) (l4 : Int32) (l5 : Int32) :
  evk zcod none d zc_X8_nearestHook 77 [(0, .ref l0), (1, .int l1), (2, .int l2), (3, .int l3), (4, .int l4), (5, .int l5)] [] M =
  evk zcod none d zc_X8_nearestHook 10 [(0, .ref l0), (1, .int l1), (2, .int l2), (3, .int l3), (4, .int l4), (5, .int (l5 + 1))] [] M :=
  (blk_ok zcod none d zc_X8_nearestHook [(80, .goto (-70), 83, [10], none)] (77, .iinc 5 1, 80, [], some [0, 1, 2, 3, 4, 5]) (by decide +kernel) _ _ _).trans rfl
theorem B_X8_nearestHook_83 (d : Nat) (M : zM) (l3 : Int32) :
  evk zcod none d zc_X8_nearestHook 83 [(3, .int l3)] [] M =
  some (some (.int l3), M) :=
  (blk_ok zcod none d zc_X8_nearestHook [(84, .ireturn, 85, [0], none)] (83, .iload_n 3, 84, [], some [3]) (by decide +kernel) _ _ _).trans rfl
theorem E_X8_hooksReaching (d : Nat) (M : zM) (l0 : Nat) (l1 : Int32) : evM zcod (d + 1) 31 [.ref l0, .int l1] M = evk zcod none d zc_X8_hooksReaching 0 [(0, .ref l0), (1, .int l1)] [] M := evM_eq zcod d 31 _ M (Nat.le_of_ble_eq_true rfl)
theorem B_X8_hooksReaching_0 (d : Nat) (M : zM) (l0 : Nat) (l1 : Int32) :
  evk zcod none d zc_X8_hooksReaching 0 [(0, .ref l0), (1, .int l1)] [] M =
  evk zcod none d zc_X8_hooksReaching 4 [(0, .ref l0), (1, .int l1), (2, .int (0 : Int32)), (3, .int (0 : Int32))] [] M :=
  (blk_ok zcod none d zc_X8_hooksReaching [(1, .istore_n 2, 2, [], none), (2, .iconst 0, 3, [], none), (3, .istore_n 3, 4, [], none)] (0, .iconst 0, 1, [], none) (by decide +kernel) _ _ _).trans rfl
theorem B_X8_hooksReaching_4 (d : Nat) (M : zM) (l0 : Nat) (l1 : Int32) (l2 : Int32) (l3 : Int32) :
  evk zcod none d zc_X8_hooksReaching 4 [(0, .ref l0), (1, .int l1), (2, .int l2), (3, .int l3)] [] M =
  if gK M l0 = 8 then
  (if gK M (gR M l0 2) = 9 then
  (bI (evM zcod d 1 [.ref (gR M l0 2)] M) fun x1 M1 =>
  if M1.1.1 = M.1.1 then
  (if x1 ≤ l3 then
  evk zcod none d zc_X8_hooksReaching 53 [(2, .int l2)] [] M1
  else
  if gK M1 l0 = 8 then
  (if gK M1 (gR M1 l0 2) = 9 then
  (bI (evM zcod d 5 [.ref (gR M1 l0 2), .int l3, .int (0 : Int32)] M1) fun x2 M2 =>
  if M2.1.1 = M1.1.1 then
  (bI (evM zcod d 276 [.int (x2 - l1)] M2) fun x3 M3 =>
  if M3.1.1 = M2.1.1 then
  (if gK M3 l0 = 8 then
  (if gK M3 (gR M3 l0 2) = 9 then
  (bI (evM zcod d 5 [.ref (gR M3 l0 2), .int l3, .int (1 : Int32)] M3) fun x4 M4 =>
  if M4.1.1 = M3.1.1 then
  (if x4 < x3 then
  evk zcod none d zc_X8_hooksReaching 47 [(0, .ref l0), (1, .int l1), (2, .int l2), (3, .int l3)] [] M4
  else
  evk zcod none d zc_X8_hooksReaching 41 [(0, .ref l0), (1, .int l1), (2, .int l2), (3, .int l3)] [] M4) else none) else none) else none) else none) else none) else none) else none) else none) else none) else none :=
  (blk_ok zcod none d zc_X8_hooksReaching [(5, .aload_n 0, 6, [], none), (6, .getfield 23, 9, [8, 2, 2, 41, 0], none), (9, .invokevirtual 43, 12, [1, 0, 1, 9, 51, 52, 53, 11], none), (12, .if_icmp .ge 41, 15, [53], none), (15, .aload_n 0, 16, [], none), (16, .getfield 23, 19, [8, 2, 2, 41, 0], none), (19, .iload_n 3, 20, [], none), (20, .iconst 0, 21, [], none), (21, .invokevirtual 47, 24, [5, 2, 1, 9, 54, 55, 56, 11], none), (24, .iload_n 1, 25, [], none), (25, .isub, 26, [], none), (26, .invokestatic 74, 29, [276, 1, 1, 0, 74, 75, 17], none), (29, .aload_n 0, 30, [], none), (30, .getfield 23, 33, [8, 2, 2, 41, 0], none), (33, .iload_n 3, 34, [], none), (34, .iconst 1, 35, [], none), (35, .invokevirtual 47, 38, [5, 2, 1, 9, 54, 55, 56, 11], none), (38, .if_icmp .gt 9, 41, [47], none)] (4, .iload_n 3, 5, [], some [0, 1, 2, 3]) (by decide +kernel) _ _ _).trans rfl
theorem B_X8_hooksReaching_41 (d : Nat) (M : zM) (l0 : Nat) (l1 : Int32) (l2 : Int32) (l3 : Int32) :
  evk zcod none d zc_X8_hooksReaching 41 [(0, .ref l0), (1, .int l1), (2, .int l2), (3, .int l3)] [] M =
  evk zcod none d zc_X8_hooksReaching 47 [(0, .ref l0), (1, .int l1), (2, .int (l2 ||| ((1 : Int32) <<< (l3 &&& 31)))), (3, .int l3)] [] M :=
  (blk_ok zcod none d zc_X8_hooksReaching [(42, .iconst 1, 43, [], none), (43, .iload_n 3, 44, [], none), (44, .ishl, 45, [], none), (45, .ior, 46, [], none), (46, .istore_n 2, 47, [], none)] (41, .iload_n 2, 42, [], some [0, 1, 2, 3]) (by decide +kernel) _ _ _).trans rfl
theorem B_X8_hooksReaching_47 (d : Nat) (M : zM) (l0 : Nat) (l1 : Int32) (l2 : Int32) (l3 : Int32) :
  evk zcod none d zc_X8_hooksReaching 47 [(0, .ref l0), (1, .int l1), (2, .int l2), (3, .int l3)] [] M =
  evk zcod none d zc_X8_hooksReaching 4 [(0, .ref l0), (1, .int l1), (2, .int l2), (3, .int (l3 + 1))] [] M :=
  (blk_ok zcod none d zc_X8_hooksReaching [(50, .goto (-46), 53, [4], none)] (47, .iinc 3 1, 50, [], some [0, 1, 2, 3]) (by decide +kernel) _ _ _).trans rfl
theorem B_X8_hooksReaching_53 (d : Nat) (M : zM) (l2 : Int32) :
  evk zcod none d zc_X8_hooksReaching 53 [(2, .int l2)] [] M =
  some (some (.int l2), M) :=
  (blk_ok zcod none d zc_X8_hooksReaching [(54, .ireturn, 55, [0], none)] (53, .iload_n 2, 54, [], some [2]) (by decide +kernel) _ _ _).trans rfl
theorem E_X5_init (d : Nat) (M : zM) (l0 : Nat) : evM zcod (d + 1) 32 [.ref l0] M = evk zcod none d zc_X5_init 0 [(0, .ref l0)] [] M := evM_eq zcod d 32 _ M (Nat.le_of_ble_eq_true rfl)
theorem B_X5_init_0 (d : Nat) (M : zM) (l0 : Nat) :
  evk zcod none d zc_X5_init 0 [(0, .ref l0)] [] M =
  if 0 < l0 then
  (if okS M [(0, .ref l0)] [.ref l0] = true then
  (if 0 < (M.1.1 + 7) ∧ okS (alc M 8 6) [(0, .ref l0)] [.ref (M.1.1 + 7), .ref l0] = true then
  (bV (evM zcod d 19 [.ref (M.1.1 + 7)] (alc M 8 6)) fun M1 =>
  if gK M1 l0 = 5 ∧ (M.1.1 + 7) < M1.1.1 + 7 then
  (evk zcod none d zc_X5_init 15 [(0, .ref l0)] [] (sR M1 l0 0 (M.1.1 + 7))) else none) else none) else none) else none :=
  (blk_ok zcod none d zc_X5_init [(1, .invokespecial 3, 4, [9998, 76, 1, 2], none), (4, .aload_n 0, 5, [], none), (5, .new 9, 8, [8, 6, 77, 78, 60], none), (8, .dup, 9, [], none), (9, .invokespecial 11, 12, [19, 0, 0, 79, 80, 60], none), (12, .putfield 12, 15, [5, 0, 2, 81, 0, 1], none)] (0, .aload_n 0, 1, [], none) (by decide +kernel) _ _ _).trans rfl
theorem B_X5_init_15 (d : Nat) (M : zM) (l0 : Nat) :
  evk zcod none d zc_X5_init 15 [(0, .ref l0)] [] M =
  if okS M [(0, .ref l0)] [.ref l0] = true then
  (if 0 < (M.1.1 + 7) ∧ okS (alc M 3 3) [(0, .ref l0)] [.ref (M.1.1 + 7), .ref l0] = true then
  (bV (evM zcod d 9 [.ref (M.1.1 + 7)] (alc M 3 3)) fun M1 =>
  if gK M1 l0 = 5 ∧ (M.1.1 + 7) < M1.1.1 + 7 then
  (evk zcod none d zc_X5_init 26 [(0, .ref l0)] [] (sR M1 l0 1 (M.1.1 + 7))) else none) else none) else none :=
  (blk_ok zcod none d zc_X5_init [(16, .new 18, 19, [3, 3, 82, 83, 29], none), (19, .dup, 20, [], none), (20, .invokespecial 20, 23, [9, 0, 0, 84, 85, 29], none), (23, .putfield 21, 26, [5, 1, 2, 86, 0, 1], none)] (15, .aload_n 0, 16, [], some [0]) (by decide +kernel) _ _ _).trans rfl
theorem B_X5_init_26 (d : Nat) (M : zM) (l0 : Nat) :
  evk zcod none d zc_X5_init 26 [(0, .ref l0)] [] M =
  if gK M l0 = 5 then
  (bV (evM zcod d 33 [.ref l0] M) fun M1 =>
  if M1.1.1 = M.1.1 then
  (some (none, M1)) else none) else none :=
  (blk_ok zcod none d zc_X5_init [(27, .invokevirtual 25, 30, [33, 0, 0, 5, 87, 88, 89, 90], none), (30, .return_, 31, [], none)] (26, .aload_n 0, 27, [], some [0]) (by decide +kernel) _ _ _).trans rfl
theorem E_X5_clear (d : Nat) (M : zM) (l0 : Nat) : evM zcod (d + 1) 33 [.ref l0] M = evk zcod none d zc_X5_clear 0 [(0, .ref l0)] [] M := evM_eq zcod d 33 _ M (Nat.le_of_ble_eq_true rfl)
theorem B_X5_clear_0 (d : Nat) (M : zM) (l0 : Nat) :
  evk zcod none d zc_X5_clear 0 [(0, .ref l0)] [] M =
  if gK M l0 = 5 then
  (if gK M (gR M l0 0) = 8 then
  (bV (evM zcod d 20 [.ref (gR M l0 0)] M) fun M1 =>
  if M1.1.1 = M.1.1 then
  (if gK M1 l0 = 5 then
  (if gK M1 (gR M1 l0 1) = 3 then
  (bV (evM zcod d 10 [.ref (gR M1 l0 1)] M1) fun M2 =>
  if M2.1.1 = M1.1.1 then
  (if gK M2 l0 = 5 then
  (if gK (sI M2 l0 2 (10 : Int32)) l0 = 5 then
  (evk zcod none d zc_X5_clear 25 [(0, .ref l0)] [] (sI (sI M2 l0 2 (10 : Int32)) l0 3 (0 : Int32))) else none) else none) else none) else none) else none) else none) else none) else none :=
  (blk_ok zcod none d zc_X5_clear [(1, .getfield 12, 4, [5, 0, 2, 81, 0], none), (4, .invokevirtual 28, 7, [20, 0, 0, 8, 91, 92, 93, 60], none), (7, .aload_n 0, 8, [], none), (8, .getfield 21, 11, [5, 1, 2, 86, 0], none), (11, .invokevirtual 29, 14, [10, 0, 0, 3, 94, 95, 96, 29], none), (14, .aload_n 0, 15, [], none), (15, .bipush 10, 17, [], none), (17, .putfield 30, 20, [5, 2, 0, 97, 0, 0], none), (20, .aload_n 0, 21, [], none), (21, .iconst 0, 22, [], none), (22, .putfield 34, 25, [5, 3, 0, 98, 0, 0], none)] (0, .aload_n 0, 1, [], none) (by decide +kernel) _ _ _).trans rfl
theorem B_X5_clear_25 (d : Nat) (M : zM) (l0 : Nat) :
  evk zcod none d zc_X5_clear 25 [(0, .ref l0)] [] M =
  if gK M l0 = 5 then
  (some (none, (sI M l0 4 (0 : Int32)))) else none :=
  (blk_ok zcod none d zc_X5_clear [(26, .iconst 0, 27, [], none), (27, .putfield 37, 30, [5, 4, 0, 99, 0, 0], none), (30, .return_, 31, [], none)] (25, .aload_n 0, 26, [], some [0]) (by decide +kernel) _ _ _).trans rfl
theorem E_X5_become (d : Nat) (M : zM) (l0 : Nat) (l1 : Nat) : evM zcod (d + 1) 34 [.ref l0, .ref l1] M = evk zcod none d zc_X5_become 0 [(0, .ref l0), (1, .ref l1)] [] M := evM_eq zcod d 34 _ M (Nat.le_of_ble_eq_true rfl)
theorem B_X5_become_0 (d : Nat) (M : zM) (l0 : Nat) (l1 : Nat) :
  evk zcod none d zc_X5_become 0 [(0, .ref l0), (1, .ref l1)] [] M =
  if gK M l0 = 5 then
  (if gK M l1 = 5 then
  (if gK M (gR M l0 0) = 8 then
  (bV (evM zcod d 21 [.ref (gR M l0 0), .ref (gR M l1 0)] M) fun M1 =>
  if M1.1.1 = M.1.1 then
  (if gK M1 l0 = 5 then
  (if gK M1 l1 = 5 then
  (if gK M1 (gR M1 l0 1) = 3 then
  (bV (evM zcod d 11 [.ref (gR M1 l0 1), .ref (gR M1 l1 1)] M1) fun M2 =>
  if M2.1.1 = M1.1.1 then
  (if gK M2 l1 = 5 then
  (if gK M2 l0 = 5 then
  (if gK (sI M2 l0 2 (gI M2 l1 2)) l1 = 5 then
  (if gK (sI M2 l0 2 (gI M2 l1 2)) l0 = 5 then
  (evk zcod none d zc_X5_become 38 [(0, .ref l0), (1, .ref l1)] [] (sI (sI M2 l0 2 (gI M2 l1 2)) l0 3 (gI (sI M2 l0 2 (gI M2 l1 2)) l1 3))) else none) else none) else none) else none) else none) else none) else none) else none) else none) else none) else none) else none :=
  (blk_ok zcod none d zc_X5_become [(1, .getfield 12, 4, [5, 0, 2, 81, 0], none), (4, .aload_n 1, 5, [], none), (5, .getfield 12, 8, [5, 0, 2, 81, 0], none), (8, .invokevirtual 40, 11, [21, 1, 0, 8, 100, 101, 102, 60], none), (11, .aload_n 0, 12, [], none), (12, .getfield 21, 15, [5, 1, 2, 86, 0], none), (15, .aload_n 1, 16, [], none), (16, .getfield 21, 19, [5, 1, 2, 86, 0], none), (19, .invokevirtual 44, 22, [11, 1, 0, 3, 103, 104, 105, 29], none), (22, .aload_n 0, 23, [], none), (23, .aload_n 1, 24, [], none), (24, .getfield 30, 27, [5, 2, 0, 97, 0], none), (27, .putfield 30, 30, [5, 2, 0, 97, 0, 0], none), (30, .aload_n 0, 31, [], none), (31, .aload_n 1, 32, [], none), (32, .getfield 34, 35, [5, 3, 0, 98, 0], none), (35, .putfield 34, 38, [5, 3, 0, 98, 0, 0], none)] (0, .aload_n 0, 1, [], none) (by decide +kernel) _ _ _).trans rfl
theorem B_X5_become_38 (d : Nat) (M : zM) (l0 : Nat) (l1 : Nat) :
  evk zcod none d zc_X5_become 38 [(0, .ref l0), (1, .ref l1)] [] M =
  if gK M l1 = 5 then
  (if gK M l0 = 5 then
  (some (none, (sI M l0 4 (gI M l1 4)))) else none) else none :=
  (blk_ok zcod none d zc_X5_become [(39, .aload_n 1, 40, [], none), (40, .getfield 37, 43, [5, 4, 0, 99, 0], none), (43, .putfield 37, 46, [5, 4, 0, 99, 0, 0], none), (46, .return_, 47, [], none)] (38, .aload_n 0, 39, [], some [0, 1]) (by decide +kernel) _ _ _).trans rfl
