/-! block equations over (S, I, L): 43z.blkd -/
theorem E_X11_feed (d : Nat) (M : zM) (l0 : Nat) (l1 : Int32) (l2 : Int32) (l3 : Int32) (l4 : Int32) (l5 : Int32) : evM zcod (d + 1) 113 [.ref l0, .int l1, .int l2, .int l3, .int l4, .int l5] M = evk zcod none d zc_X11_feed 0 [(0, .ref l0), (1, .int l1), (2, .int l2), (3, .int l3), (4, .int l4), (5, .int l5)] [] M := evM_eq zcod d 113 _ M (Nat.le_of_ble_eq_true rfl)
set_option maxRecDepth 20000 in
set_option maxHeartbeats 4000000 in
theorem R_X11_feed_0 (d : Nat) (S : mS) (I : mI) (L : mJ) (l0 : Nat) (l1 : Int32) (l2 : Int32) (l3 : Int32) (l4 : Int32) (l5 : Int32) :
  evk zcod none d zc_X11_feed 0 [(0, .ref l0), (1, .int l1), (2, .int l2), (3, .int l3), (4, .int l4), (5, .int l5)] [] (S, I, L) =
  if kK S l0 = 11 then
 (if ((I l0 1) + (nI 20)) ≤ (nI 2000) then
 evk zcod none d zc_X11_feed 15 [(0, .ref l0), (1, .int l1), (2, .int l2), (3, .int l3), (4, .int l4), (5, .int l5)] [] (S, I, L)
 else
 some (some (.int (Int32.ofInt (-1))), (S, I, L))) else none :=
  (blk_ok zcod none d zc_X11_feed [(1, .getfield 13, 4, [11, 1, 0, 442, 0], none), (4, .bipush 20, 6, [], none), (6, .iadd, 7, [], none), (7, .sipush 2000, 10, [], none), (10, .if_icmp .le 5, 13, [15], none), (13, .iconst (-1), 14, [], none), (14, .ireturn, 15, [0], none)] (0, .aload_n 0, 1, [], none) (by decide +kernel) _ _ _).trans rfl
theorem B_X11_feed_0 (d : Nat) (S : mS) (I : mI) (L : mJ) (l0 : Nat) (l1 : Int32) (l2 : Int32) (l3 : Int32) (l4 : Int32) (l5 : Int32) :
  evk zcod none d zc_X11_feed 0 [(0, .ref l0), (1, .int l1), (2, .int l2), (3, .int l3), (4, .int l4), (5, .int l5)] [] (S, I, L) =
  if kK S l0 = 11 then
 (if ((I l0 1) + (nI 20)) ≤ (nI 2000) then
 evk zcod none d zc_X11_feed 15 [(0, .ref l0), (1, .int l1), (2, .int l2), (3, .int l3), (4, .int l4), (5, .int l5)] [] (S, I, L)
 else
 some (some (.int (-1 : Int32)), (S, I, L))) else none := by
  have h := R_X11_feed_0 d S I L l0 l1 l2 l3 l4 l5
  simp only [cvN] at h
  exact h
set_option maxRecDepth 20000 in
set_option maxHeartbeats 4000000 in
theorem B_X11_feed_15 (d : Nat) (S : mS) (I : mI) (L : mJ) (l0 : Nat) (l1 : Int32) (l2 : Int32) (l3 : Int32) (l4 : Int32) (l5 : Int32) :
  evk zcod none d zc_X11_feed 15 [(0, .ref l0), (1, .int l1), (2, .int l2), (3, .int l3), (4, .int l4), (5, .int l5)] [] (S, I, L) =
  if kK S l0 = 11 then
 (bV (evM zcod d 147 [.ref l0, .int l1] (S, I, L)) fun M1 =>
 if M1.1.1 = S.1 then
 (if kK M1.1 l0 = 11 then
 (bV (evM zcod d 147 [.ref l0, .int l2] M1) fun M2 =>
 if M2.1.1 = M1.1.1 then
 (if kK M2.1 l0 = 11 then
 (bV (evM zcod d 147 [.ref l0, .int l3] M2) fun M3 =>
 if M3.1.1 = M2.1.1 then
 (if kK M3.1 l0 = 11 then
 (bV (evM zcod d 147 [.ref l0, .int l4] M3) fun M4 =>
 if M4.1.1 = M3.1.1 then
 (evk zcod none d zc_X11_feed 36 [(0, .ref l0), (5, .int l5)] [] M4) else none) else none) else none) else none) else none) else none) else none) else none :=
  (blk_ok zcod none d zc_X11_feed [(16, .iload_n 1, 17, [], none), (17, .invokevirtual 105, 20, [147, 1, 0, 11, 488, 489, 490, 222], none), (20, .aload_n 0, 21, [], none), (21, .iload_n 2, 22, [], none), (22, .invokevirtual 105, 25, [147, 1, 0, 11, 488, 489, 490, 222], none), (25, .aload_n 0, 26, [], none), (26, .iload_n 3, 27, [], none), (27, .invokevirtual 105, 30, [147, 1, 0, 11, 488, 489, 490, 222], none), (30, .aload_n 0, 31, [], none), (31, .iload 4, 33, [], none), (33, .invokevirtual 105, 36, [147, 1, 0, 11, 488, 489, 490, 222], none)] (15, .aload_n 0, 16, [], some [0, 1, 2, 3, 4, 5]) (by decide +kernel) _ _ _).trans rfl
set_option maxRecDepth 20000 in
set_option maxHeartbeats 4000000 in
theorem B_X11_feed_36 (d : Nat) (S : mS) (I : mI) (L : mJ) (l0 : Nat) (l5 : Int32) :
  evk zcod none d zc_X11_feed 36 [(0, .ref l0), (5, .int l5)] [] (S, I, L) =
  if kK S l0 = 11 then
 (bV (evM zcod d 147 [.ref l0, .int l5] (S, I, L)) fun M1 =>
 if M1.1.1 = S.1 then
 (if kK M1.1 l0 = 11 then
 (some (some (.int (M1.2.1 l0 1)), M1)) else none) else none) else none :=
  (blk_ok zcod none d zc_X11_feed [(37, .iload 5, 39, [], none), (39, .invokevirtual 105, 42, [147, 1, 0, 11, 488, 489, 490, 222], none), (42, .aload_n 0, 43, [], none), (43, .getfield 13, 46, [11, 1, 0, 442, 0], none), (46, .ireturn, 47, [0], none)] (36, .aload_n 0, 37, [], some [0, 5]) (by decide +kernel) _ _ _).trans rfl
theorem E_X11_back (d : Nat) (M : zM) (l0 : Nat) (l1 : Int32) : evM zcod (d + 1) 114 [.ref l0, .int l1] M = evk zcod none d zc_X11_back 0 [(0, .ref l0), (1, .int l1)] [] M := evM_eq zcod d 114 _ M (Nat.le_of_ble_eq_true rfl)
set_option maxRecDepth 20000 in
set_option maxHeartbeats 4000000 in
theorem R_X11_back_0 (d : Nat) (S : mS) (I : mI) (L : mJ) (l0 : Nat) (l1 : Int32) :
  evk zcod none d zc_X11_back 0 [(0, .ref l0), (1, .int l1)] [] (S, I, L) =
  if kK S l0 = 11 then
 (bI (evM zcod d 145 [.int l1, .int (nI 0), .int (I l0 1)] (S, I, L)) fun x1 M1 =>
 if M1.1.1 = S.1 then
 (if ¬ x1 = (nI 0) then
 evk zcod none d zc_X11_back 14 [(0, .ref l0), (1, .int l1)] [] M1
 else
 some (some (.int (Int32.ofInt (-1))), M1)) else none) else none :=
  (blk_ok zcod none d zc_X11_back [(1, .iconst 0, 2, [], none), (2, .aload_n 0, 3, [], none), (3, .getfield 13, 6, [11, 1, 0, 442, 0], none), (6, .invokestatic 109, 9, [145, 3, 1, 0, 491, 221, 222], none), (9, .ifCond .ne 5, 12, [14], none), (12, .iconst (-1), 13, [], none), (13, .ireturn, 14, [0], none)] (0, .iload_n 1, 1, [], none) (by decide +kernel) _ _ _).trans rfl
theorem B_X11_back_0 (d : Nat) (S : mS) (I : mI) (L : mJ) (l0 : Nat) (l1 : Int32) :
  evk zcod none d zc_X11_back 0 [(0, .ref l0), (1, .int l1)] [] (S, I, L) =
  if kK S l0 = 11 then
 (bI (evM zcod d 145 [.int l1, .int (nI 0), .int (I l0 1)] (S, I, L)) fun x1 M1 =>
 if M1.1.1 = S.1 then
 (if ¬ x1 = (nI 0) then
 evk zcod none d zc_X11_back 14 [(0, .ref l0), (1, .int l1)] [] M1
 else
 some (some (.int (-1 : Int32)), M1)) else none) else none := by
  have h := R_X11_back_0 d S I L l0 l1
  simp only [cvN] at h
  exact h
set_option maxRecDepth 20000 in
set_option maxHeartbeats 4000000 in
theorem B_X11_back_14 (d : Nat) (S : mS) (I : mI) (L : mJ) (l0 : Nat) (l1 : Int32) :
  evk zcod none d zc_X11_back 14 [(0, .ref l0), (1, .int l1)] [] (S, I, L) =
  if kK S l0 = 11 then
 (if kK S l0 = 11 then
 (if kK S l0 = 11 then
 (some (some (.int ((uI I l0 1 ((I l0 1) - l1)) l0 1)), (S, (uI I l0 1 ((I l0 1) - l1)), L))) else none) else none) else none :=
  (blk_ok zcod none d zc_X11_back [(15, .dup, 16, [], none), (16, .getfield 13, 19, [11, 1, 0, 442, 0], none), (19, .iload_n 1, 20, [], none), (20, .isub, 21, [], none), (21, .putfield 13, 24, [11, 1, 0, 442, 0, 0], none), (24, .aload_n 0, 25, [], none), (25, .getfield 13, 28, [11, 1, 0, 442, 0], none), (28, .ireturn, 29, [0], none)] (14, .aload_n 0, 15, [], some [0, 1]) (by decide +kernel) _ _ _).trans rfl
theorem E_X11_read (d : Nat) (M : zM) (l0 : Nat) : evM zcod (d + 1) 115 [.ref l0] M = evk zcod none d zc_X11_read 0 [(0, .ref l0)] [] M := evM_eq zcod d 115 _ M (Nat.le_of_ble_eq_true rfl)
set_option maxRecDepth 20000 in
set_option maxHeartbeats 4000000 in
theorem R_X11_read_0 (d : Nat) (S : mS) (I : mI) (L : mJ) (l0 : Nat) :
  evk zcod none d zc_X11_read 0 [(0, .ref l0)] [] (S, I, L) =
  if kK S l0 = 11 then
 (if kK S l0 = 11 then
 (if kK S l0 = 11 then
 (if kK S (kR S l0 5) = 6 then
 (bI (evM zcod d 52 [.ref (kR S l0 5), .ref (kR S l0 0), .int (I l0 1)] (S, I, L)) fun x1 M1 =>
 if M1.1.1 = S.1 then
 (if kK M1.1 l0 = 11 then
 (if ¬ x1 = (nI 0) then
 evk zcod none d zc_X11_read 30 [(0, .ref l0), (1, .int x1)] [.ref l0] (M1.1, (uI M1.2.1 l0 1 (nI 0)), M1.2.2)
 else
 evk zcod none d zc_X11_read 37 [(0, .ref l0), (1, .int x1)] [.int (Int32.ofInt (-1)), .ref l0] (M1.1, (uI M1.2.1 l0 1 (nI 0)), M1.2.2)) else none) else none) else none) else none) else none) else none :=
  (blk_ok zcod none d zc_X11_read [(1, .getfield 35, 4, [11, 5, 2, 454, 0], none), (4, .aload_n 0, 5, [], none), (5, .getfield 9, 8, [11, 0, 2, 441, 0], none), (8, .aload_n 0, 9, [], none), (9, .getfield 13, 12, [11, 1, 0, 442, 0], none), (12, .invokevirtual 113, 15, [52, 2, 1, 6, 492, 493, 494, 181], none), (15, .istore_n 1, 16, [], none), (16, .aload_n 0, 17, [], none), (17, .iconst 0, 18, [], none), (18, .putfield 13, 21, [11, 1, 0, 442, 0, 0], none), (21, .aload_n 0, 22, [], none), (22, .iload_n 1, 23, [], none), (23, .ifCond .ne 7, 26, [30], none), (26, .iconst (-1), 27, [], none), (27, .goto 10, 30, [37], none)] (0, .aload_n 0, 1, [], none) (by decide +kernel) _ _ _).trans rfl
theorem B_X11_read_0 (d : Nat) (S : mS) (I : mI) (L : mJ) (l0 : Nat) :
  evk zcod none d zc_X11_read 0 [(0, .ref l0)] [] (S, I, L) =
  if kK S l0 = 11 then
 (if kK S l0 = 11 then
 (if kK S l0 = 11 then
 (if kK S (kR S l0 5) = 6 then
 (bI (evM zcod d 52 [.ref (kR S l0 5), .ref (kR S l0 0), .int (I l0 1)] (S, I, L)) fun x1 M1 =>
 if M1.1.1 = S.1 then
 (if kK M1.1 l0 = 11 then
 (if ¬ x1 = (nI 0) then
 evk zcod none d zc_X11_read 30 [(0, .ref l0), (1, .int x1)] [.ref l0] (M1.1, (uI M1.2.1 l0 1 (nI 0)), M1.2.2)
 else
 evk zcod none d zc_X11_read 37 [(0, .ref l0), (1, .int x1)] [.int (-1 : Int32), .ref l0] (M1.1, (uI M1.2.1 l0 1 (nI 0)), M1.2.2)) else none) else none) else none) else none) else none) else none := by
  have h := R_X11_read_0 d S I L l0
  simp only [cvN] at h
  exact h
set_option maxRecDepth 20000 in
set_option maxHeartbeats 4000000 in
theorem B_X11_read_30 (d : Nat) (S : mS) (I : mI) (L : mJ) (l0 : Nat) (l1 : Int32) (s0 : Nat) :
  evk zcod none d zc_X11_read 30 [(0, .ref l0), (1, .int l1)] [.ref s0] (S, I, L) =
  if kK S l0 = 11 then
 (if kK S (kR S l0 5) = 6 then
 (bI (evM zcod d 51 [.ref (kR S l0 5)] (S, I, L)) fun x1 M1 =>
 if M1.1.1 = S.1 then
 (evk zcod none d zc_X11_read 37 [(0, .ref l0), (1, .int l1)] [.int x1, .ref s0] M1) else none) else none) else none :=
  (blk_ok zcod none d zc_X11_read [(31, .getfield 35, 34, [11, 5, 2, 454, 0], none), (34, .invokevirtual 117, 37, [51, 0, 1, 6, 495, 496, 497, 181], none)] (30, .aload_n 0, 31, [], some [0, 1]) (by decide +kernel) _ _ _).trans rfl
set_option maxRecDepth 20000 in
set_option maxHeartbeats 4000000 in
theorem B_X11_read_37 (d : Nat) (S : mS) (I : mI) (L : mJ) (l0 : Nat) (l1 : Int32) (s0 : Nat) (s1 : Int32) :
  evk zcod none d zc_X11_read 37 [(0, .ref l0), (1, .int l1)] [.int s1, .ref s0] (S, I, L) =
  if kK S s0 = 11 then
 (if ¬ l1 = (nI 0) then
 evk zcod none d zc_X11_read 83 [(1, .int l1)] [] (S, (uI I s0 2 s1), L)
 else
 if kK S l0 = 11 then
 (if kK S l0 = 11 then
 (if kK S (kR S l0 3) = 5 then
 (bV (evM zcod d 34 [.ref (kR S l0 3), .ref (kR S l0 4)] (S, (uI I s0 2 s1), L)) fun M1 =>
 if M1.1.1 = S.1 then
 (if kK M1.1 l0 = 11 then
 (if kK M1.1 l0 = 11 then
 (if kK M1.1 (kR M1.1 l0 3) = 5 then
 (if kK M1.1 (kR M1.1 l0 6) = 8 then
 (bV (evM zcod d 21 [.ref (kR M1.1 l0 6), .ref (kR M1.1 (kR M1.1 l0 3) 0)] M1) fun M2 =>
 if M2.1.1 = M1.1.1 then
 (if kK M2.1 l0 = 11 then
 (if kK M2.1 (kR M2.1 l0 12) = 4 then
 (bV (evM zcod d 104 [.ref (kR M2.1 l0 12)] M2) fun M3 =>
 if M3.1.1 = M2.1.1 then
 (evk zcod none d zc_X11_read 76 [(0, .ref l0), (1, .int l1)] [] M3) else none) else none) else none) else none) else none) else none) else none) else none) else none) else none) else none) else none) else none :=
  (blk_ok zcod none d zc_X11_read [(40, .iload_n 1, 41, [], none), (41, .ifCond .ne 42, 44, [83], none), (44, .aload_n 0, 45, [], none), (45, .getfield 23, 48, [11, 3, 2, 448, 0], none), (48, .aload_n 0, 49, [], none), (49, .getfield 27, 52, [11, 4, 2, 449, 0], none), (52, .invokevirtual 120, 55, [34, 1, 0, 5, 498, 499, 500, 90], none), (55, .aload_n 0, 56, [], none), (56, .getfield 42, 59, [11, 6, 2, 457, 0], none), (59, .aload_n 0, 60, [], none), (60, .getfield 23, 63, [11, 3, 2, 448, 0], none), (63, .getfield 123, 66, [5, 0, 2, 501, 1], none), (66, .invokevirtual 126, 69, [21, 1, 0, 8, 502, 101, 102, 60], none), (69, .aload_n 0, 70, [], none), (70, .getfield 92, 73, [11, 12, 2, 484, 0], none), (73, .invokevirtual 129, 76, [104, 0, 0, 4, 503, 504, 505, 439], none)] (37, .putfield 17, 40, [11, 2, 0, 443, 0, 0], some [0, 1]) (by decide +kernel) _ _ _).trans rfl
set_option maxRecDepth 20000 in
set_option maxHeartbeats 4000000 in
theorem B_X11_read_76 (d : Nat) (S : mS) (I : mI) (L : mJ) (l0 : Nat) (l1 : Int32) :
  evk zcod none d zc_X11_read 76 [(0, .ref l0), (1, .int l1)] [] (S, I, L) =
  if kK S l0 = 11 then
 (if kK S (kR S l0 13) = 9 then
 (bV (evM zcod d 4 [.ref (kR S l0 13)] (S, I, L)) fun M1 =>
 if M1.1.1 = S.1 then
 (evk zcod none d zc_X11_read 83 [(1, .int l1)] [] M1) else none) else none) else none :=
  (blk_ok zcod none d zc_X11_read [(77, .getfield 101, 80, [11, 13, 2, 487, 0], none), (80, .invokevirtual 132, 83, [4, 0, 0, 9, 506, 46, 47, 11], none)] (76, .aload_n 0, 77, [], some [0, 1]) (by decide +kernel) _ _ _).trans rfl
set_option maxRecDepth 20000 in
set_option maxHeartbeats 4000000 in
theorem B_X11_read_83 (d : Nat) (S : mS) (I : mI) (L : mJ) (l1 : Int32) :
  evk zcod none d zc_X11_read 83 [(1, .int l1)] [] (S, I, L) =
  some (some (.int l1), (S, I, L)) :=
  (blk_ok zcod none d zc_X11_read [(84, .ireturn, 85, [0], none)] (83, .iload_n 1, 84, [], some [1]) (by decide +kernel) _ _ _).trans rfl
theorem E_X11_place (d : Nat) (M : zM) (l0 : Nat) : evM zcod (d + 1) 116 [.ref l0] M = evk zcod none d zc_X11_place 0 [(0, .ref l0)] [] M := evM_eq zcod d 116 _ M (Nat.le_of_ble_eq_true rfl)
set_option maxRecDepth 20000 in
set_option maxHeartbeats 4000000 in
theorem B_X11_place_0 (d : Nat) (S : mS) (I : mI) (L : mJ) (l0 : Nat) :
  evk zcod none d zc_X11_place 0 [(0, .ref l0)] [] (S, I, L) =
  if kK S l0 = 11 then
 (some (some (.int (I l0 2)), (S, I, L))) else none :=
  (blk_ok zcod none d zc_X11_place [(1, .getfield 17, 4, [11, 2, 0, 443, 0], none), (4, .ireturn, 5, [0], none)] (0, .aload_n 0, 1, [], none) (by decide +kernel) _ _ _).trans rfl
theorem E_X11_load (d : Nat) (M : zM) (l0 : Nat) (l1 : Int32) (l2 : Int32) : evM zcod (d + 1) 117 [.ref l0, .int l1, .int l2] M = evk zcod none d zc_X11_load 0 [(0, .ref l0), (1, .int l1), (2, .int l2)] [] M := evM_eq zcod d 117 _ M (Nat.le_of_ble_eq_true rfl)
set_option maxRecDepth 20000 in
set_option maxHeartbeats 4000000 in
theorem B_X11_load_0 (d : Nat) (S : mS) (I : mI) (L : mJ) (l0 : Nat) (l1 : Int32) (l2 : Int32) :
  evk zcod none d zc_X11_load 0 [(0, .ref l0), (1, .int l1), (2, .int l2)] [] (S, I, L) =
  if kK S l0 = 11 then
 (if kK S (kR S l0 6) = 8 then
 (if kK S (kR S (kR S l0 6) 0) = 9 then
 (bI (evM zcod d 5 [.ref (kR S (kR S l0 6) 0), .int l1, .int l2] (S, I, L)) fun x1 M1 =>
 if M1.1.1 = S.1 then
 (some (some (.int x1), M1)) else none) else none) else none) else none :=
  (blk_ok zcod none d zc_X11_load [(1, .getfield 42, 4, [11, 6, 2, 457, 0], none), (4, .getfield 133, 7, [8, 0, 2, 507, 1], none), (7, .iload_n 1, 8, [], none), (8, .iload_n 2, 9, [], none), (9, .invokevirtual 136, 12, [5, 2, 1, 9, 508, 55, 56, 11], none), (12, .ireturn, 13, [0], none)] (0, .aload_n 0, 1, [], none) (by decide +kernel) _ _ _).trans rfl
theorem E_X11_silk (d : Nat) (M : zM) (l0 : Nat) (l1 : Int32) (l2 : Int32) : evM zcod (d + 1) 118 [.ref l0, .int l1, .int l2] M = evk zcod none d zc_X11_silk 0 [(0, .ref l0), (1, .int l1), (2, .int l2)] [] M := evM_eq zcod d 118 _ M (Nat.le_of_ble_eq_true rfl)
set_option maxRecDepth 20000 in
set_option maxHeartbeats 4000000 in
theorem R_X11_silk_0 (d : Nat) (S : mS) (I : mI) (L : mJ) (l0 : Nat) (l1 : Int32) (l2 : Int32) :
  evk zcod none d zc_X11_silk 0 [(0, .ref l0), (1, .int l1), (2, .int l2)] [] (S, I, L) =
  if ¬ l2 = (nI 3) then
 evk zcod none d zc_X11_silk 9 [(0, .ref l0), (1, .int l1), (2, .int l2)] [] (S, I, L)
 else
 evk zcod none d zc_X11_silk 21 [] [.int (Int32.ofInt (-1))] (S, I, L) :=
  (blk_ok zcod none d zc_X11_silk [(1, .iconst 3, 2, [], none), (2, .if_icmp .ne 7, 5, [9], none), (5, .iconst (-1), 6, [], none), (6, .goto 15, 9, [21], none)] (0, .iload_n 2, 1, [], none) (by decide +kernel) _ _ _).trans rfl
theorem B_X11_silk_0 (d : Nat) (S : mS) (I : mI) (L : mJ) (l0 : Nat) (l1 : Int32) (l2 : Int32) :
  evk zcod none d zc_X11_silk 0 [(0, .ref l0), (1, .int l1), (2, .int l2)] [] (S, I, L) =
  if ¬ l2 = (nI 3) then
 evk zcod none d zc_X11_silk 9 [(0, .ref l0), (1, .int l1), (2, .int l2)] [] (S, I, L)
 else
 evk zcod none d zc_X11_silk 21 [] [.int (-1 : Int32)] (S, I, L) := by
  have h := R_X11_silk_0 d S I L l0 l1 l2
  simp only [cvN] at h
  exact h
set_option maxRecDepth 20000 in
set_option maxHeartbeats 4000000 in
theorem B_X11_silk_9 (d : Nat) (S : mS) (I : mI) (L : mJ) (l0 : Nat) (l1 : Int32) (l2 : Int32) :
  evk zcod none d zc_X11_silk 9 [(0, .ref l0), (1, .int l1), (2, .int l2)] [] (S, I, L) =
  if kK S l0 = 11 then
 (if kK S (kR S l0 6) = 8 then
 (if kK S (kR S (kR S l0 6) 1) = 9 then
 (bI (evM zcod d 5 [.ref (kR S (kR S l0 6) 1), .int l1, .int l2] (S, I, L)) fun x1 M1 =>
 if M1.1.1 = S.1 then
 (evk zcod none d zc_X11_silk 21 [] [.int x1] M1) else none) else none) else none) else none :=
  (blk_ok zcod none d zc_X11_silk [(10, .getfield 42, 13, [11, 6, 2, 457, 0], none), (13, .getfield 140, 16, [8, 1, 2, 509, 1], none), (16, .iload_n 1, 17, [], none), (17, .iload_n 2, 18, [], none), (18, .invokevirtual 136, 21, [5, 2, 1, 9, 508, 55, 56, 11], none)] (9, .aload_n 0, 10, [], some [0, 1, 2]) (by decide +kernel) _ _ _).trans rfl
set_option maxRecDepth 20000 in
set_option maxHeartbeats 4000000 in
theorem B_X11_silk_21 (d : Nat) (S : mS) (I : mI) (L : mJ) (s0 : Int32) :
  evk zcod none d zc_X11_silk 21 [] [.int s0] (S, I, L) =
  some (some (.int s0), (S, I, L)) :=
  (blk_ok zcod none d zc_X11_silk [] (21, .ireturn, 22, [0], some []) (by decide +kernel) _ _ _).trans rfl
theorem E_X11_pull (d : Nat) (M : zM) (l0 : Nat) (l1 : Int32) : evM zcod (d + 1) 119 [.ref l0, .int l1] M = evk zcod none d zc_X11_pull 0 [(0, .ref l0), (1, .int l1)] [] M := evM_eq zcod d 119 _ M (Nat.le_of_ble_eq_true rfl)
set_option maxRecDepth 20000 in
set_option maxHeartbeats 4000000 in
theorem B_X11_pull_0 (d : Nat) (S : mS) (I : mI) (L : mJ) (l0 : Nat) (l1 : Int32) :
  evk zcod none d zc_X11_pull 0 [(0, .ref l0), (1, .int l1)] [] (S, I, L) =
  if kK S l0 = 11 then
 (if kK S (kR S l0 6) = 8 then
 (if kK S (kR S (kR S l0 6) 1) = 9 then
 (bI (evM zcod d 2 [.ref (kR S (kR S l0 6) 1), .int l1] (S, I, L)) fun x1 M1 =>
 if M1.1.1 = S.1 then
 (if x1 = (nI 0) then
 evk zcod none d zc_X11_pull 29 [] [] M1
 else
 if kK M1.1 l0 = 11 then
 (if kK M1.1 (kR M1.1 l0 6) = 8 then
 (if kK M1.1 (kR M1.1 (kR M1.1 l0 6) 1) = 9 then
 (bI (evM zcod d 5 [.ref (kR M1.1 (kR M1.1 l0 6) 1), .int l1, .int (nI 3)] M1) fun x2 M2 =>
 if M2.1.1 = M1.1.1 then
 (evk zcod none d zc_X11_pull 31 [] [.int x2] M2) else none) else none) else none) else none) else none) else none) else none) else none :=
  (blk_ok zcod none d zc_X11_pull [(1, .getfield 42, 4, [11, 6, 2, 457, 0], none), (4, .getfield 140, 7, [8, 1, 2, 509, 1], none), (7, .iload_n 1, 8, [], none), (8, .invokevirtual 143, 11, [2, 1, 1, 9, 510, 65, 66, 11], none), (11, .ifCond .eq 18, 14, [29], none), (14, .aload_n 0, 15, [], none), (15, .getfield 42, 18, [11, 6, 2, 457, 0], none), (18, .getfield 140, 21, [8, 1, 2, 509, 1], none), (21, .iload_n 1, 22, [], none), (22, .iconst 3, 23, [], none), (23, .invokevirtual 136, 26, [5, 2, 1, 9, 508, 55, 56, 11], none), (26, .goto 5, 29, [31], none)] (0, .aload_n 0, 1, [], none) (by decide +kernel) _ _ _).trans rfl
set_option maxRecDepth 20000 in
set_option maxHeartbeats 4000000 in
theorem R_X11_pull_29 (d : Nat) (S : mS) (I : mI) (L : mJ)  :
  evk zcod none d zc_X11_pull 29 [] [] (S, I, L) =
  evk zcod none d zc_X11_pull 31 [] [.int ((Int8.ofInt (-100)).toInt32)] (S, I, L) :=
  (blk_ok zcod none d zc_X11_pull [] (29, .bipush (-100), 31, [], some []) (by decide +kernel) _ _ _).trans rfl
theorem B_X11_pull_29 (d : Nat) (S : mS) (I : mI) (L : mJ)  :
  evk zcod none d zc_X11_pull 29 [] [] (S, I, L) =
  evk zcod none d zc_X11_pull 31 [] [.int (-100 : Int32)] (S, I, L) := by
  have h := R_X11_pull_29 d S I L 
  simp only [cvN] at h
  exact h
set_option maxRecDepth 20000 in
set_option maxHeartbeats 4000000 in
theorem B_X11_pull_31 (d : Nat) (S : mS) (I : mI) (L : mJ) (s0 : Int32) :
  evk zcod none d zc_X11_pull 31 [] [.int s0] (S, I, L) =
  some (some (.int s0), (S, I, L)) :=
  (blk_ok zcod none d zc_X11_pull [] (31, .ireturn, 32, [0], some []) (by decide +kernel) _ _ _).trans rfl
theorem E_X11_hook (d : Nat) (M : zM) (l0 : Nat) (l1 : Int32) (l2 : Int32) : evM zcod (d + 1) 120 [.ref l0, .int l1, .int l2] M = evk zcod none d zc_X11_hook 0 [(0, .ref l0), (1, .int l1), (2, .int l2)] [] M := evM_eq zcod d 120 _ M (Nat.le_of_ble_eq_true rfl)
set_option maxRecDepth 20000 in
set_option maxHeartbeats 4000000 in
theorem B_X11_hook_0 (d : Nat) (S : mS) (I : mI) (L : mJ) (l0 : Nat) (l1 : Int32) (l2 : Int32) :
  evk zcod none d zc_X11_hook 0 [(0, .ref l0), (1, .int l1), (2, .int l2)] [] (S, I, L) =
  if kK S l0 = 11 then
 (if kK S (kR S l0 6) = 8 then
 (if kK S (kR S (kR S l0 6) 2) = 9 then
 (bI (evM zcod d 5 [.ref (kR S (kR S l0 6) 2), .int l1, .int l2] (S, I, L)) fun x1 M1 =>
 if M1.1.1 = S.1 then
 (some (some (.int x1), M1)) else none) else none) else none) else none :=
  (blk_ok zcod none d zc_X11_hook [(1, .getfield 42, 4, [11, 6, 2, 457, 0], none), (4, .getfield 147, 7, [8, 2, 2, 511, 1], none), (7, .iload_n 1, 8, [], none), (8, .iload_n 2, 9, [], none), (9, .invokevirtual 136, 12, [5, 2, 1, 9, 508, 55, 56, 11], none), (12, .ireturn, 13, [0], none)] (0, .aload_n 0, 1, [], none) (by decide +kernel) _ _ _).trans rfl
theorem E_X11_tells (d : Nat) (M : zM) (l0 : Nat) (l1 : Int32) (l2 : Int32) (l3 : Int32) : evM zcod (d + 1) 121 [.ref l0, .int l1, .int l2, .int l3] M = evk zcod none d zc_X11_tells 0 [(0, .ref l0), (1, .int l1), (2, .int l2), (3, .int l3)] [] M := evM_eq zcod d 121 _ M (Nat.le_of_ble_eq_true rfl)
set_option maxRecDepth 20000 in
set_option maxHeartbeats 4000000 in
theorem B_X11_tells_0 (d : Nat) (S : mS) (I : mI) (L : mJ) (l0 : Nat) (l1 : Int32) (l2 : Int32) (l3 : Int32) :
  evk zcod none d zc_X11_tells 0 [(0, .ref l0), (1, .int l1), (2, .int l2), (3, .int l3)] [] (S, I, L) =
  if l3 = (nI 0) then
 evk zcod none d zc_X11_tells 9 [(0, .ref l0), (1, .int l1), (2, .int l2), (3, .int l3)] [] (S, I, L)
 else
 if ¬ l3 = (nI 2) then
 evk zcod none d zc_X11_tells 13 [(0, .ref l0), (1, .int l1), (2, .int l2), (3, .int l3)] [] (S, I, L)
 else
 evk zcod none d zc_X11_tells 9 [(0, .ref l0), (1, .int l1), (2, .int l2), (3, .int l3)] [] (S, I, L) :=
  (blk_ok zcod none d zc_X11_tells [(1, .ifCond .eq 8, 4, [9], none), (4, .iload_n 3, 5, [], none), (5, .iconst 2, 6, [], none), (6, .if_icmp .ne 7, 9, [13], none)] (0, .iload_n 3, 1, [], none) (by decide +kernel) _ _ _).trans rfl
set_option maxRecDepth 20000 in
set_option maxHeartbeats 4000000 in
theorem B_X11_tells_9 (d : Nat) (S : mS) (I : mI) (L : mJ) (l0 : Nat) (l1 : Int32) (l2 : Int32) (l3 : Int32) :
  evk zcod none d zc_X11_tells 9 [(0, .ref l0), (1, .int l1), (2, .int l2), (3, .int l3)] [] (S, I, L) =
  evk zcod none d zc_X11_tells 14 [(0, .ref l0), (1, .int l1), (2, .int l2), (3, .int l3)] [.int (nI 1)] (S, I, L) :=
  (blk_ok zcod none d zc_X11_tells [(10, .goto 4, 13, [14], none)] (9, .iconst 1, 10, [], some [0, 1, 2, 3]) (by decide +kernel) _ _ _).trans rfl
set_option maxRecDepth 20000 in
set_option maxHeartbeats 4000000 in
theorem B_X11_tells_13 (d : Nat) (S : mS) (I : mI) (L : mJ) (l0 : Nat) (l1 : Int32) (l2 : Int32) (l3 : Int32) :
  evk zcod none d zc_X11_tells 13 [(0, .ref l0), (1, .int l1), (2, .int l2), (3, .int l3)] [] (S, I, L) =
  evk zcod none d zc_X11_tells 14 [(0, .ref l0), (1, .int l1), (2, .int l2), (3, .int l3)] [.int (nI 0)] (S, I, L) :=
  (blk_ok zcod none d zc_X11_tells [] (13, .iconst 0, 14, [], some [0, 1, 2, 3]) (by decide +kernel) _ _ _).trans rfl
set_option maxRecDepth 20000 in
set_option maxHeartbeats 4000000 in
theorem B_X11_tells_14 (d : Nat) (S : mS) (I : mI) (L : mJ) (l0 : Nat) (l1 : Int32) (l2 : Int32) (l3 : Int32) (s0 : Int32) :
  evk zcod none d zc_X11_tells 14 [(0, .ref l0), (1, .int l1), (2, .int l2), (3, .int l3)] [.int s0] (S, I, L) =
  bI (evM zcod d 145 [.int l3, .int (nI 0), .int (nI 3)] (S, I, L)) fun x1 M1 =>
 if M1.1.1 = S.1 then
 (if x1 = (nI 0) then
 evk zcod none d zc_X11_tells 58 [] [] M1
 else
 if kK M1.1 l0 = 11 then
 (if kK M1.1 (kR M1.1 l0 6) = 8 then
 (if kK M1.1 (kR M1.1 (kR M1.1 l0 6) 0) = 9 then
 (bI (evM zcod d 2 [.ref (kR M1.1 (kR M1.1 l0 6) 0), .int l1] M1) fun x2 M2 =>
 if M2.1.1 = M1.1.1 then
 (if x2 = (nI 0) then
 evk zcod none d zc_X11_tells 58 [] [] M2
 else
 if s0 = (nI 0) then
 evk zcod none d zc_X11_tells 61 [(0, .ref l0), (1, .int l1), (2, .int l2), (3, .int l3)] [] M2
 else
 if kK M2.1 l0 = 11 then
 (if kK M2.1 (kR M2.1 l0 6) = 8 then
 (if kK M2.1 (kR M2.1 (kR M2.1 l0 6) 1) = 9 then
 (bI (evM zcod d 2 [.ref (kR M2.1 (kR M2.1 l0 6) 1), .int l2] M2) fun x3 M3 =>
 if M3.1.1 = M2.1.1 then
 (if ¬ x3 = (nI 0) then
 evk zcod none d zc_X11_tells 61 [(0, .ref l0), (1, .int l1), (2, .int l2), (3, .int l3)] [] M3
 else
 evk zcod none d zc_X11_tells 58 [] [] M3) else none) else none) else none) else none) else none) else none) else none) else none) else none :=
  (blk_ok zcod none d zc_X11_tells [(16, .iload_n 3, 17, [], none), (17, .iconst 0, 18, [], none), (18, .iconst 3, 19, [], none), (19, .invokestatic 109, 22, [145, 3, 1, 0, 491, 221, 222], none), (22, .ifCond .eq 36, 25, [58], none), (25, .aload_n 0, 26, [], none), (26, .getfield 42, 29, [11, 6, 2, 457, 0], none), (29, .getfield 133, 32, [8, 0, 2, 507, 1], none), (32, .iload_n 1, 33, [], none), (33, .invokevirtual 143, 36, [2, 1, 1, 9, 510, 65, 66, 11], none), (36, .ifCond .eq 22, 39, [58], none), (39, .iload 4, 41, [], none), (41, .ifCond .eq 20, 44, [61], none), (44, .aload_n 0, 45, [], none), (45, .getfield 42, 48, [11, 6, 2, 457, 0], none), (48, .getfield 140, 51, [8, 1, 2, 509, 1], none), (51, .iload_n 2, 52, [], none), (52, .invokevirtual 143, 55, [2, 1, 1, 9, 510, 65, 66, 11], none), (55, .ifCond .ne 6, 58, [61], none)] (14, .istore 4, 16, [], some [0, 1, 2, 3]) (by decide +kernel) _ _ _).trans rfl
set_option maxRecDepth 20000 in
set_option maxHeartbeats 4000000 in
theorem R_X11_tells_58 (d : Nat) (S : mS) (I : mI) (L : mJ)  :
  evk zcod none d zc_X11_tells 58 [] [] (S, I, L) =
  some (some (.int ((Int8.ofInt (-100)).toInt32)), (S, I, L)) :=
  (blk_ok zcod none d zc_X11_tells [(60, .ireturn, 61, [0], none)] (58, .bipush (-100), 60, [], some []) (by decide +kernel) _ _ _).trans rfl
theorem B_X11_tells_58 (d : Nat) (S : mS) (I : mI) (L : mJ)  :
  evk zcod none d zc_X11_tells 58 [] [] (S, I, L) =
  some (some (.int (-100 : Int32)), (S, I, L)) := by
  have h := R_X11_tells_58 d S I L 
  simp only [cvN] at h
  exact h
set_option maxRecDepth 20000 in
set_option maxHeartbeats 4000000 in
theorem B_X11_tells_61 (d : Nat) (S : mS) (I : mI) (L : mJ) (l0 : Nat) (l1 : Int32) (l2 : Int32) (l3 : Int32) :
  evk zcod none d zc_X11_tells 61 [(0, .ref l0), (1, .int l1), (2, .int l2), (3, .int l3)] [] (S, I, L) =
  if kK S l0 = 11 then
 (if kK S (kR S l0 6) = 8 then
 (if kK S (kR S (kR S l0 6) 0) = 9 then
 (bI (evM zcod d 5 [.ref (kR S (kR S l0 6) 0), .int l1, .int (nI 0)] (S, I, L)) fun x1 M1 =>
 if M1.1.1 = S.1 then
 (if kK M1.1 l0 = 11 then
 (if kK M1.1 (kR M1.1 l0 6) = 8 then
 (if kK M1.1 (kR M1.1 (kR M1.1 l0 6) 0) = 9 then
 (bI (evM zcod d 5 [.ref (kR M1.1 (kR M1.1 l0 6) 0), .int l1, .int (nI 1)] M1) fun x2 M2 =>
 if M2.1.1 = M1.1.1 then
 (if kK M2.1 l0 = 11 then
 (if kK M2.1 l0 = 11 then
 (if kK M2.1 (kR M2.1 l0 6) = 8 then
 (if kK M2.1 l0 = 11 then
 (if kK M2.1 (kR M2.1 l0 6) = 8 then
 (bI (evM zcod d 23 [.ref (kR M2.1 l0 6)] M2) fun x3 M3 =>
 if M3.1.1 = M2.1.1 then
 (if kK M3.1 l0 = 11 then
 (if kK M3.1 (kR M3.1 l0 6) = 8 then
 (bI (evM zcod d 24 [.ref (kR M3.1 l0 6)] M3) fun x4 M4 =>
 if M4.1.1 = M3.1.1 then
 (if kK M4.1 (kR M2.1 l0 8) = 7 then
 (bV (evM zcod d 69 [.ref (kR M2.1 l0 8), .int (M2.2.1 (kR M2.1 l0 6) 3), .int x3, .int x4] M4) fun M5 =>
 if M5.1.1 = M4.1.1 then
 (evk zcod none d zc_X11_tells 117 [(0, .ref l0), (1, .int l1), (2, .int l2), (3, .int l3), (5, .int x1), (6, .int x2)] [] M5) else none) else none) else none) else none) else none) else none) else none) else none) else none) else none) else none) else none) else none) else none) else none) else none) else none) else none) else none :=
  (blk_ok zcod none d zc_X11_tells [(62, .getfield 42, 65, [11, 6, 2, 457, 0], none), (65, .getfield 133, 68, [8, 0, 2, 507, 1], none), (68, .iload_n 1, 69, [], none), (69, .iconst 0, 70, [], none), (70, .invokevirtual 136, 73, [5, 2, 1, 9, 508, 55, 56, 11], none), (73, .istore 5, 75, [], none), (75, .aload_n 0, 76, [], none), (76, .getfield 42, 79, [11, 6, 2, 457, 0], none), (79, .getfield 133, 82, [8, 0, 2, 507, 1], none), (82, .iload_n 1, 83, [], none), (83, .iconst 1, 84, [], none), (84, .invokevirtual 136, 87, [5, 2, 1, 9, 508, 55, 56, 11], none), (87, .istore 6, 89, [], none), (89, .aload_n 0, 90, [], none), (90, .getfield 58, 93, [11, 8, 2, 464, 0], none), (93, .aload_n 0, 94, [], none), (94, .getfield 42, 97, [11, 6, 2, 457, 0], none), (97, .getfield 150, 100, [8, 3, 0, 512, 1], none), (100, .aload_n 0, 101, [], none), (101, .getfield 42, 104, [11, 6, 2, 457, 0], none), (104, .invokevirtual 153, 107, [23, 0, 1, 8, 513, 294, 295, 60], none), (107, .aload_n 0, 108, [], none), (108, .getfield 42, 111, [11, 6, 2, 457, 0], none), (111, .invokevirtual 156, 114, [24, 0, 1, 8, 514, 305, 306, 60], none), (114, .invokevirtual 159, 117, [69, 3, 0, 7, 515, 308, 309, 261], none)] (61, .aload_n 0, 62, [], some [0, 1, 2, 3]) (by decide +kernel) _ _ _).trans rfl
set_option maxRecDepth 20000 in
set_option maxHeartbeats 4000000 in
theorem B_X11_tells_117 (d : Nat) (S : mS) (I : mI) (L : mJ) (l0 : Nat) (l1 : Int32) (l2 : Int32) (l3 : Int32) (l5 : Int32) (l6 : Int32) :
  evk zcod none d zc_X11_tells 117 [(0, .ref l0), (1, .int l1), (2, .int l2), (3, .int l3), (5, .int l5), (6, .int l6)] [] (S, I, L) =
  if ¬ l3 = (nI 0) then
 evk zcod none d zc_X11_tells 146 [(0, .ref l0), (1, .int l1), (2, .int l2), (3, .int l3), (5, .int l5), (6, .int l6)] [] (S, I, L)
 else
 if kK S l0 = 11 then
 (if kK S l0 = 11 then
 (if kK S (kR S l0 6) = 8 then
 (if kK S (kR S (kR S l0 6) 1) = 9 then
 (bI (evM zcod d 5 [.ref (kR S (kR S l0 6) 1), .int l2, .int (nI 0)] (S, I, L)) fun x1 M1 =>
 if M1.1.1 = S.1 then
 (if kK M1.1 (kR S l0 8) = 7 then
 (bI (evM zcod d 70 [.ref (kR S l0 8), .int x1, .int l6, .int (nI 0), .int l5] M1) fun x2 M2 =>
 if M2.1.1 = M1.1.1 then
 (some (some (.int x2), M2)) else none) else none) else none) else none) else none) else none) else none :=
  (blk_ok zcod none d zc_X11_tells [(118, .ifCond .ne 28, 121, [146], none), (121, .aload_n 0, 122, [], none), (122, .getfield 58, 125, [11, 8, 2, 464, 0], none), (125, .aload_n 0, 126, [], none), (126, .getfield 42, 129, [11, 6, 2, 457, 0], none), (129, .getfield 140, 132, [8, 1, 2, 509, 1], none), (132, .iload_n 2, 133, [], none), (133, .iconst 0, 134, [], none), (134, .invokevirtual 136, 137, [5, 2, 1, 9, 508, 55, 56, 11], none), (137, .iload 6, 139, [], none), (139, .iconst 0, 140, [], none), (140, .iload 5, 142, [], none), (142, .invokevirtual 163, 145, [70, 4, 1, 7, 516, 325, 326, 261], none), (145, .ireturn, 146, [0], none)] (117, .iload_n 3, 118, [], some [0, 1, 2, 3, 5, 6]) (by decide +kernel) _ _ _).trans rfl
set_option maxRecDepth 20000 in
set_option maxHeartbeats 4000000 in
theorem B_X11_tells_146 (d : Nat) (S : mS) (I : mI) (L : mJ) (l0 : Nat) (l1 : Int32) (l2 : Int32) (l3 : Int32) (l5 : Int32) (l6 : Int32) :
  evk zcod none d zc_X11_tells 146 [(0, .ref l0), (1, .int l1), (2, .int l2), (3, .int l3), (5, .int l5), (6, .int l6)] [] (S, I, L) =
  if ¬ l3 = (nI 1) then
 evk zcod none d zc_X11_tells 162 [(0, .ref l0), (1, .int l1), (2, .int l2), (3, .int l3), (6, .int l6)] [] (S, I, L)
 else
 if kK S l0 = 11 then
 (if kK S (kR S l0 8) = 7 then
 (bI (evM zcod d 71 [.ref (kR S l0 8), .int (nI 0), .int l5] (S, I, L)) fun x1 M1 =>
 if M1.1.1 = S.1 then
 (some (some (.int x1), M1)) else none) else none) else none :=
  (blk_ok zcod none d zc_X11_tells [(147, .iconst 1, 148, [], none), (148, .if_icmp .ne 14, 151, [162], none), (151, .aload_n 0, 152, [], none), (152, .getfield 58, 155, [11, 8, 2, 464, 0], none), (155, .iconst 0, 156, [], none), (156, .iload 5, 158, [], none), (158, .invokevirtual 167, 161, [71, 2, 1, 7, 517, 328, 329, 261], none), (161, .ireturn, 162, [0], none)] (146, .iload_n 3, 147, [], some [0, 1, 2, 3, 5, 6]) (by decide +kernel) _ _ _).trans rfl
set_option maxRecDepth 20000 in
set_option maxHeartbeats 4000000 in
theorem B_X11_tells_162 (d : Nat) (S : mS) (I : mI) (L : mJ) (l0 : Nat) (l1 : Int32) (l2 : Int32) (l3 : Int32) (l6 : Int32) :
  evk zcod none d zc_X11_tells 162 [(0, .ref l0), (1, .int l1), (2, .int l2), (3, .int l3), (6, .int l6)] [] (S, I, L) =
  if ¬ l3 = (nI 2) then
 evk zcod none d zc_X11_tells 189 [(0, .ref l0), (1, .int l1), (6, .int l6)] [] (S, I, L)
 else
 if kK S l0 = 11 then
 (if kK S l0 = 11 then
 (if kK S (kR S l0 6) = 8 then
 (if kK S (kR S (kR S l0 6) 1) = 9 then
 (bI (evM zcod d 5 [.ref (kR S (kR S l0 6) 1), .int l2, .int (nI 0)] (S, I, L)) fun x1 M1 =>
 if M1.1.1 = S.1 then
 (if kK M1.1 (kR S l0 8) = 7 then
 (bI (evM zcod d 72 [.ref (kR S l0 8), .int x1, .int l6] M1) fun x2 M2 =>
 if M2.1.1 = M1.1.1 then
 (some (some (.int x2), M2)) else none) else none) else none) else none) else none) else none) else none :=
  (blk_ok zcod none d zc_X11_tells [(163, .iconst 2, 164, [], none), (164, .if_icmp .ne 25, 167, [189], none), (167, .aload_n 0, 168, [], none), (168, .getfield 58, 171, [11, 8, 2, 464, 0], none), (171, .aload_n 0, 172, [], none), (172, .getfield 42, 175, [11, 6, 2, 457, 0], none), (175, .getfield 140, 178, [8, 1, 2, 509, 1], none), (178, .iload_n 2, 179, [], none), (179, .iconst 0, 180, [], none), (180, .invokevirtual 136, 183, [5, 2, 1, 9, 508, 55, 56, 11], none), (183, .iload 6, 185, [], none), (185, .invokevirtual 170, 188, [72, 2, 1, 7, 518, 404, 405, 261], none), (188, .ireturn, 189, [0], none)] (162, .iload_n 3, 163, [], some [0, 1, 2, 3, 6]) (by decide +kernel) _ _ _).trans rfl
set_option maxRecDepth 20000 in
set_option maxHeartbeats 4000000 in
theorem B_X11_tells_189 (d : Nat) (S : mS) (I : mI) (L : mJ) (l0 : Nat) (l1 : Int32) (l6 : Int32) :
  evk zcod none d zc_X11_tells 189 [(0, .ref l0), (1, .int l1), (6, .int l6)] [] (S, I, L) =
  if kK S l0 = 11 then
 (if kK S l0 = 11 then
 (if kK S (kR S l0 6) = 8 then
 (if kK S (kR S (kR S l0 6) 0) = 9 then
 (bI (evM zcod d 5 [.ref (kR S (kR S l0 6) 0), .int l1, .int (nI 2)] (S, I, L)) fun x1 M1 =>
 if M1.1.1 = S.1 then
 (if kK M1.1 (kR S l0 8) = 7 then
 (bI (evM zcod d 73 [.ref (kR S l0 8), .int x1, .int l6] M1) fun x2 M2 =>
 if M2.1.1 = M1.1.1 then
 (some (some (.int x2), M2)) else none) else none) else none) else none) else none) else none) else none :=
  (blk_ok zcod none d zc_X11_tells [(190, .getfield 58, 193, [11, 8, 2, 464, 0], none), (193, .aload_n 0, 194, [], none), (194, .getfield 42, 197, [11, 6, 2, 457, 0], none), (197, .getfield 133, 200, [8, 0, 2, 507, 1], none), (200, .iload_n 1, 201, [], none), (201, .iconst 2, 202, [], none), (202, .invokevirtual 136, 205, [5, 2, 1, 9, 508, 55, 56, 11], none), (205, .iload 6, 207, [], none), (207, .invokevirtual 173, 210, [73, 2, 1, 7, 519, 341, 342, 261], none), (210, .ireturn, 211, [0], none)] (189, .aload_n 0, 190, [], some [0, 1, 6]) (by decide +kernel) _ _ _).trans rfl
theorem E_X11_tie (d : Nat) (M : zM) (l0 : Nat) (l1 : Int32) (l2 : Int32) : evM zcod (d + 1) 122 [.ref l0, .int l1, .int l2] M = evk zcod none d zc_X11_tie 0 [(0, .ref l0), (1, .int l1), (2, .int l2)] [] M := evM_eq zcod d 122 _ M (Nat.le_of_ble_eq_true rfl)
set_option maxRecDepth 20000 in
set_option maxHeartbeats 4000000 in
theorem R_X11_tie_0 (d : Nat) (S : mS) (I : mI) (L : mJ) (l0 : Nat) (l1 : Int32) (l2 : Int32) :
  evk zcod none d zc_X11_tie 0 [(0, .ref l0), (1, .int l1), (2, .int l2)] [] (S, I, L) =
  if kK S l0 = 11 then
 (bI (evM zcod d 148 [.ref l0, .int l1, .int l2] (S, I, L)) fun x1 M1 =>
 if M1.1.1 = S.1 then
 (if ¬ x1 = (nI 0) then
 evk zcod none d zc_X11_tie 11 [(0, .ref l0), (1, .int l1), (2, .int l2)] [] M1
 else
 some (some (.int (Int32.ofInt (-1))), M1)) else none) else none :=
  (blk_ok zcod none d zc_X11_tie [(1, .iload_n 1, 2, [], none), (2, .iload_n 2, 3, [], none), (3, .invokevirtual 176, 6, [148, 2, 1, 11, 520, 521, 522, 222], none), (6, .ifCond .ne 5, 9, [11], none), (9, .iconst (-1), 10, [], none), (10, .ireturn, 11, [0], none)] (0, .aload_n 0, 1, [], none) (by decide +kernel) _ _ _).trans rfl
theorem B_X11_tie_0 (d : Nat) (S : mS) (I : mI) (L : mJ) (l0 : Nat) (l1 : Int32) (l2 : Int32) :
  evk zcod none d zc_X11_tie 0 [(0, .ref l0), (1, .int l1), (2, .int l2)] [] (S, I, L) =
  if kK S l0 = 11 then
 (bI (evM zcod d 148 [.ref l0, .int l1, .int l2] (S, I, L)) fun x1 M1 =>
 if M1.1.1 = S.1 then
 (if ¬ x1 = (nI 0) then
 evk zcod none d zc_X11_tie 11 [(0, .ref l0), (1, .int l1), (2, .int l2)] [] M1
 else
 some (some (.int (-1 : Int32)), M1)) else none) else none := by
  have h := R_X11_tie_0 d S I L l0 l1 l2
  simp only [cvN] at h
  exact h
set_option maxRecDepth 20000 in
set_option maxHeartbeats 4000000 in
theorem R_X11_tie_11 (d : Nat) (S : mS) (I : mI) (L : mJ) (l0 : Nat) (l1 : Int32) (l2 : Int32) :
  evk zcod none d zc_X11_tie 11 [(0, .ref l0), (1, .int l1), (2, .int l2)] [] (S, I, L) =
  if kK S l0 = 11 then
 (if kK S (kR S l0 6) = 8 then
 (bI (evM zcod d 27 [.ref (kR S l0 6), .int l1, .int l2] (S, I, L)) fun x1 M1 =>
 if M1.1.1 = S.1 then
 (if ¬ x1 = (nI 0) then
 evk zcod none d zc_X11_tie 26 [(0, .ref l0), (1, .int l1), (2, .int l2)] [] M1
 else
 some (some (.int ((Int8.ofInt (-2)).toInt32)), M1)) else none) else none) else none :=
  (blk_ok zcod none d zc_X11_tie [(12, .getfield 42, 15, [11, 6, 2, 457, 0], none), (15, .iload_n 1, 16, [], none), (16, .iload_n 2, 17, [], none), (17, .invokevirtual 180, 20, [27, 2, 1, 8, 523, 381, 382, 60], none), (20, .ifCond .ne 6, 23, [26], none), (23, .bipush (-2), 25, [], none), (25, .ireturn, 26, [0], none)] (11, .aload_n 0, 12, [], some [0, 1, 2]) (by decide +kernel) _ _ _).trans rfl
theorem B_X11_tie_11 (d : Nat) (S : mS) (I : mI) (L : mJ) (l0 : Nat) (l1 : Int32) (l2 : Int32) :
  evk zcod none d zc_X11_tie 11 [(0, .ref l0), (1, .int l1), (2, .int l2)] [] (S, I, L) =
  if kK S l0 = 11 then
 (if kK S (kR S l0 6) = 8 then
 (bI (evM zcod d 27 [.ref (kR S l0 6), .int l1, .int l2] (S, I, L)) fun x1 M1 =>
 if M1.1.1 = S.1 then
 (if ¬ x1 = (nI 0) then
 evk zcod none d zc_X11_tie 26 [(0, .ref l0), (1, .int l1), (2, .int l2)] [] M1
 else
 some (some (.int (-2 : Int32)), M1)) else none) else none) else none := by
  have h := R_X11_tie_11 d S I L l0 l1 l2
  simp only [cvN] at h
  exact h
set_option maxRecDepth 20000 in
set_option maxHeartbeats 4000000 in
theorem B_X11_tie_26 (d : Nat) (S : mS) (I : mI) (L : mJ) (l0 : Nat) (l1 : Int32) (l2 : Int32) :
  evk zcod none d zc_X11_tie 26 [(0, .ref l0), (1, .int l1), (2, .int l2)] [] (S, I, L) =
  if kK S l0 = 11 then
 (if kK S l0 = 11 then
 (if kK S (kR S l0 12) = 4 then
 (bV (evM zcod d 107 [.ref (kR S l0 12), .ref (kR S l0 6)] (S, I, L)) fun M1 =>
 if M1.1.1 = S.1 then
 (if kK M1.1 l0 = 11 then
 (if kK M1.1 l0 = 11 then
 (if kK M1.1 (kR M1.1 l0 6) = 8 then
 (if kK M1.1 l0 = 11 then
 (if kK M1.1 (kR M1.1 l0 6) = 8 then
 (bI (evM zcod d 23 [.ref (kR M1.1 l0 6)] M1) fun x2 M2 =>
 if M2.1.1 = M1.1.1 then
 (if kK M2.1 l0 = 11 then
 (if kK M2.1 (kR M2.1 l0 6) = 8 then
 (bI (evM zcod d 24 [.ref (kR M2.1 l0 6)] M2) fun x3 M3 =>
 if M3.1.1 = M2.1.1 then
 (if kK M3.1 (kR M1.1 l0 8) = 7 then
 (bV (evM zcod d 69 [.ref (kR M1.1 l0 8), .int (M1.2.1 (kR M1.1 l0 6) 3), .int x2, .int x3] M3) fun M4 =>
 if M4.1.1 = M3.1.1 then
 (evk zcod none d zc_X11_tie 65 [(0, .ref l0), (1, .int l1), (2, .int l2)] [] M4) else none) else none) else none) else none) else none) else none) else none) else none) else none) else none) else none) else none) else none) else none) else none :=
  (blk_ok zcod none d zc_X11_tie [(27, .getfield 92, 30, [11, 12, 2, 484, 0], none), (30, .aload_n 0, 31, [], none), (31, .getfield 42, 34, [11, 6, 2, 457, 0], none), (34, .invokevirtual 183, 37, [107, 1, 0, 4, 524, 525, 526, 439], none), (37, .aload_n 0, 38, [], none), (38, .getfield 58, 41, [11, 8, 2, 464, 0], none), (41, .aload_n 0, 42, [], none), (42, .getfield 42, 45, [11, 6, 2, 457, 0], none), (45, .getfield 150, 48, [8, 3, 0, 512, 1], none), (48, .aload_n 0, 49, [], none), (49, .getfield 42, 52, [11, 6, 2, 457, 0], none), (52, .invokevirtual 153, 55, [23, 0, 1, 8, 513, 294, 295, 60], none), (55, .aload_n 0, 56, [], none), (56, .getfield 42, 59, [11, 6, 2, 457, 0], none), (59, .invokevirtual 156, 62, [24, 0, 1, 8, 514, 305, 306, 60], none), (62, .invokevirtual 159, 65, [69, 3, 0, 7, 515, 308, 309, 261], none)] (26, .aload_n 0, 27, [], some [0, 1, 2]) (by decide +kernel) _ _ _).trans rfl
set_option maxRecDepth 20000 in
set_option maxHeartbeats 4000000 in
theorem B_X11_tie_65 (d : Nat) (S : mS) (I : mI) (L : mJ) (l0 : Nat) (l1 : Int32) (l2 : Int32) :
  evk zcod none d zc_X11_tie 65 [(0, .ref l0), (1, .int l1), (2, .int l2)] [] (S, I, L) =
  if kK S l0 = 11 then
 (if kK S l0 = 11 then
 (if kK S (kR S l0 6) = 8 then
 (if kK S (kR S (kR S l0 6) 1) = 9 then
 (bI (evM zcod d 5 [.ref (kR S (kR S l0 6) 1), .int l2, .int (nI 0)] (S, I, L)) fun x1 M1 =>
 if M1.1.1 = S.1 then
 (if kK M1.1 l0 = 11 then
 (if kK M1.1 (kR M1.1 l0 6) = 8 then
 (if kK M1.1 (kR M1.1 (kR M1.1 l0 6) 0) = 9 then
 (bI (evM zcod d 5 [.ref (kR M1.1 (kR M1.1 l0 6) 0), .int l1, .int (nI 1)] M1) fun x2 M2 =>
 if M2.1.1 = M1.1.1 then
 (if kK M2.1 (kR S l0 8) = 7 then
 (bI (evM zcod d 72 [.ref (kR S l0 8), .int x1, .int x2] M2) fun x3 M3 =>
 if M3.1.1 = M2.1.1 then
 (if kK M3.1 l0 = 11 then
 (if kK M3.1 (kR M3.1 l0 6) = 8 then
 (bV (evM zcod d 28 [.ref (kR M3.1 l0 6), .int l1, .int l2] M3) fun M4 =>
 if M4.1.1 = M3.1.1 then
 (evk zcod none d zc_X11_tie 106 [(0, .ref l0), (3, .int x3)] [] M4) else none) else none) else none) else none) else none) else none) else none) else none) else none) else none) else none) else none) else none) else none :=
  (blk_ok zcod none d zc_X11_tie [(66, .getfield 58, 69, [11, 8, 2, 464, 0], none), (69, .aload_n 0, 70, [], none), (70, .getfield 42, 73, [11, 6, 2, 457, 0], none), (73, .getfield 140, 76, [8, 1, 2, 509, 1], none), (76, .iload_n 2, 77, [], none), (77, .iconst 0, 78, [], none), (78, .invokevirtual 136, 81, [5, 2, 1, 9, 508, 55, 56, 11], none), (81, .aload_n 0, 82, [], none), (82, .getfield 42, 85, [11, 6, 2, 457, 0], none), (85, .getfield 133, 88, [8, 0, 2, 507, 1], none), (88, .iload_n 1, 89, [], none), (89, .iconst 1, 90, [], none), (90, .invokevirtual 136, 93, [5, 2, 1, 9, 508, 55, 56, 11], none), (93, .invokevirtual 170, 96, [72, 2, 1, 7, 518, 404, 405, 261], none), (96, .istore_n 3, 97, [], none), (97, .aload_n 0, 98, [], none), (98, .getfield 42, 101, [11, 6, 2, 457, 0], none), (101, .iload_n 1, 102, [], none), (102, .iload_n 2, 103, [], none), (103, .invokevirtual 186, 106, [28, 2, 0, 8, 527, 528, 529, 60], none)] (65, .aload_n 0, 66, [], some [0, 1, 2]) (by decide +kernel) _ _ _).trans rfl
set_option maxRecDepth 20000 in
set_option maxHeartbeats 4000000 in
theorem B_X11_tie_106 (d : Nat) (S : mS) (I : mI) (L : mJ) (l0 : Nat) (l3 : Int32) :
  evk zcod none d zc_X11_tie 106 [(0, .ref l0), (3, .int l3)] [] (S, I, L) =
  if kK S l0 = 11 then
 (if kK S (kR S l0 6) = 8 then
 (if kK S (kR S l0 6) = 8 then
 (some (some (.int l3), (S, (uI I (kR S l0 6) 5 ((I (kR S l0 6) 5) + l3)), L))) else none) else none) else none :=
  (blk_ok zcod none d zc_X11_tie [(107, .getfield 42, 110, [11, 6, 2, 457, 0], none), (110, .dup, 111, [], none), (111, .getfield 189, 114, [8, 5, 0, 530, 1], none), (114, .iload_n 3, 115, [], none), (115, .iadd, 116, [], none), (116, .putfield 189, 119, [8, 5, 0, 530, 1, 0], none), (119, .iload_n 3, 120, [], none), (120, .ireturn, 121, [0], none)] (106, .aload_n 0, 107, [], some [0, 3]) (by decide +kernel) _ _ _).trans rfl
theorem E_X11_move (d : Nat) (M : zM) (l0 : Nat) (l1 : Int32) (l2 : Int32) : evM zcod (d + 1) 123 [.ref l0, .int l1, .int l2] M = evk zcod none d zc_X11_move 0 [(0, .ref l0), (1, .int l1), (2, .int l2)] [] M := evM_eq zcod d 123 _ M (Nat.le_of_ble_eq_true rfl)
set_option maxRecDepth 20000 in
set_option maxHeartbeats 4000000 in
theorem B_X11_move_0 (d : Nat) (S : mS) (I : mI) (L : mJ) (l0 : Nat) (l1 : Int32) (l2 : Int32) :
  evk zcod none d zc_X11_move 0 [(0, .ref l0), (1, .int l1), (2, .int l2)] [] (S, I, L) =
  if kK S l0 = 11 then
 (if kK S (kR S l0 6) = 8 then
 (if kK S (kR S (kR S l0 6) 2) = 9 then
 (bI (evM zcod d 2 [.ref (kR S (kR S l0 6) 2), .int l1] (S, I, L)) fun x1 M1 =>
 if M1.1.1 = S.1 then
 (if x1 = (nI 0) then
 evk zcod none d zc_X11_move 40 [] [] M1
 else
 bI (evM zcod d 145 [.int l2, .int (nI 0), .int (nI 19)] M1) fun x2 M2 =>
 if M2.1.1 = M1.1.1 then
 (if x2 = (nI 0) then
 evk zcod none d zc_X11_move 40 [] [] M2
 else
 if kK M2.1 l0 = 11 then
 (if kK M2.1 (kR M2.1 l0 6) = 8 then
 (if kK M2.1 (kR M2.1 (kR M2.1 l0 6) 2) = 9 then
 (bI (evM zcod d 5 [.ref (kR M2.1 (kR M2.1 l0 6) 2), .int l1, .int (nI 0)] M2) fun x3 M3 =>
 if M3.1.1 = M2.1.1 then
 (if ¬ x3 = l2 then
 evk zcod none d zc_X11_move 42 [(0, .ref l0), (1, .int l1), (2, .int l2)] [] M3
 else
 evk zcod none d zc_X11_move 40 [] [] M3) else none) else none) else none) else none) else none) else none) else none) else none) else none :=
  (blk_ok zcod none d zc_X11_move [(1, .getfield 42, 4, [11, 6, 2, 457, 0], none), (4, .getfield 147, 7, [8, 2, 2, 511, 1], none), (7, .iload_n 1, 8, [], none), (8, .invokevirtual 143, 11, [2, 1, 1, 9, 510, 65, 66, 11], none), (11, .ifCond .eq 29, 14, [40], none), (14, .iload_n 2, 15, [], none), (15, .iconst 0, 16, [], none), (16, .bipush 19, 18, [], none), (18, .invokestatic 109, 21, [145, 3, 1, 0, 491, 221, 222], none), (21, .ifCond .eq 19, 24, [40], none), (24, .aload_n 0, 25, [], none), (25, .getfield 42, 28, [11, 6, 2, 457, 0], none), (28, .getfield 147, 31, [8, 2, 2, 511, 1], none), (31, .iload_n 1, 32, [], none), (32, .iconst 0, 33, [], none), (33, .invokevirtual 136, 36, [5, 2, 1, 9, 508, 55, 56, 11], none), (36, .iload_n 2, 37, [], none), (37, .if_icmp .ne 5, 40, [42], none)] (0, .aload_n 0, 1, [], none) (by decide +kernel) _ _ _).trans rfl
set_option maxRecDepth 20000 in
set_option maxHeartbeats 4000000 in
theorem B_X11_move_40 (d : Nat) (S : mS) (I : mI) (L : mJ)  :
  evk zcod none d zc_X11_move 40 [] [] (S, I, L) =
  some (some (.int (nI 0)), (S, I, L)) :=
  (blk_ok zcod none d zc_X11_move [(41, .ireturn, 42, [1], none)] (40, .iconst 0, 41, [], some []) (by decide +kernel) _ _ _).trans rfl
set_option maxRecDepth 20000 in
set_option maxHeartbeats 4000000 in
theorem B_X11_move_42 (d : Nat) (S : mS) (I : mI) (L : mJ) (l0 : Nat) (l1 : Int32) (l2 : Int32) :
  evk zcod none d zc_X11_move 42 [(0, .ref l0), (1, .int l1), (2, .int l2)] [] (S, I, L) =
  if kK S l0 = 11 then
 (if kK S l0 = 11 then
 (if kK S (kR S l0 12) = 4 then
 (bV (evM zcod d 107 [.ref (kR S l0 12), .ref (kR S l0 6)] (S, I, L)) fun M1 =>
 if M1.1.1 = S.1 then
 (if kK M1.1 l0 = 11 then
 (if kK M1.1 (kR M1.1 l0 6) = 8 then
 (if kK M1.1 (kR M1.1 (kR M1.1 l0 6) 2) = 9 then
 (bV (evM zcod d 6 [.ref (kR M1.1 (kR M1.1 l0 6) 2), .int l1, .int (nI 0), .int l2] M1) fun M2 =>
 if M2.1.1 = M1.1.1 then
 (some (some (.int (nI 1)), M2)) else none) else none) else none) else none) else none) else none) else none) else none :=
  (blk_ok zcod none d zc_X11_move [(43, .getfield 92, 46, [11, 12, 2, 484, 0], none), (46, .aload_n 0, 47, [], none), (47, .getfield 42, 50, [11, 6, 2, 457, 0], none), (50, .invokevirtual 183, 53, [107, 1, 0, 4, 524, 525, 526, 439], none), (53, .aload_n 0, 54, [], none), (54, .getfield 42, 57, [11, 6, 2, 457, 0], none), (57, .getfield 147, 60, [8, 2, 2, 511, 1], none), (60, .iload_n 1, 61, [], none), (61, .iconst 0, 62, [], none), (62, .iload_n 2, 63, [], none), (63, .invokevirtual 192, 66, [6, 3, 0, 9, 531, 13, 14, 11], none), (66, .iconst 1, 67, [], none), (67, .ireturn, 68, [1], none)] (42, .aload_n 0, 43, [], some [0, 1, 2]) (by decide +kernel) _ _ _).trans rfl
theorem E_X11_patch (d : Nat) (M : zM) (l0 : Nat) (l1 : Int32) (l2 : Int32) : evM zcod (d + 1) 124 [.ref l0, .int l1, .int l2] M = evk zcod none d zc_X11_patch 0 [(0, .ref l0), (1, .int l1), (2, .int l2)] [] M := evM_eq zcod d 124 _ M (Nat.le_of_ble_eq_true rfl)
set_option maxRecDepth 20000 in
set_option maxHeartbeats 4000000 in
theorem B_X11_patch_0 (d : Nat) (S : mS) (I : mI) (L : mJ) (l0 : Nat) (l1 : Int32) (l2 : Int32) :
  evk zcod none d zc_X11_patch 0 [(0, .ref l0), (1, .int l1), (2, .int l2)] [] (S, I, L) =
  if kK S l0 = 11 then
 (if kK S (kR S l0 6) = 8 then
 (bI (evM zcod d 26 [.ref (kR S l0 6), .int l1] (S, I, L)) fun x1 M1 =>
 if M1.1.1 = S.1 then
 (if ¬ x1 = (nI 0) then
 evk zcod none d zc_X11_patch 13 [(0, .ref l0), (1, .int l1), (2, .int l2)] [] M1
 else
 some (some (.int (nI 0)), M1)) else none) else none) else none :=
  (blk_ok zcod none d zc_X11_patch [(1, .getfield 42, 4, [11, 6, 2, 457, 0], none), (4, .iload_n 1, 5, [], none), (5, .invokevirtual 195, 8, [26, 1, 1, 8, 532, 71, 72, 60], none), (8, .ifCond .ne 5, 11, [13], none), (11, .iconst 0, 12, [], none), (12, .ireturn, 13, [1], none)] (0, .aload_n 0, 1, [], none) (by decide +kernel) _ _ _).trans rfl
set_option maxRecDepth 20000 in
set_option maxHeartbeats 4000000 in
theorem B_X11_patch_13 (d : Nat) (S : mS) (I : mI) (L : mJ) (l0 : Nat) (l1 : Int32) (l2 : Int32) :
  evk zcod none d zc_X11_patch 13 [(0, .ref l0), (1, .int l1), (2, .int l2)] [] (S, I, L) =
  if kK S l0 = 11 then
 (if kK S (kR S l0 6) = 8 then
 (if kK S (kR S (kR S l0 6) 1) = 9 then
 (bI (evM zcod d 5 [.ref (kR S (kR S l0 6) 1), .int l1, .int (nI 3)] (S, I, L)) fun x1 M1 =>
 if M1.1.1 = S.1 then
 (if l2 = (nI 0) then
 evk zcod none d zc_X11_patch 33 [(0, .ref l0), (1, .int l1)] [.int x1] M1
 else
 evk zcod none d zc_X11_patch 34 [(0, .ref l0), (1, .int l1)] [.int (nI 1), .int x1] M1) else none) else none) else none) else none :=
  (blk_ok zcod none d zc_X11_patch [(14, .getfield 42, 17, [11, 6, 2, 457, 0], none), (17, .getfield 140, 20, [8, 1, 2, 509, 1], none), (20, .iload_n 1, 21, [], none), (21, .iconst 3, 22, [], none), (22, .invokevirtual 136, 25, [5, 2, 1, 9, 508, 55, 56, 11], none), (25, .iload_n 2, 26, [], none), (26, .ifCond .eq 7, 29, [33], none), (29, .iconst 1, 30, [], none), (30, .goto 4, 33, [34], none)] (13, .aload_n 0, 14, [], some [0, 1, 2]) (by decide +kernel) _ _ _).trans rfl
set_option maxRecDepth 20000 in
set_option maxHeartbeats 4000000 in
theorem R_X11_patch_33 (d : Nat) (S : mS) (I : mI) (L : mJ) (l0 : Nat) (l1 : Int32) (s0 : Int32) :
  evk zcod none d zc_X11_patch 33 [(0, .ref l0), (1, .int l1)] [.int s0] (S, I, L) =
  evk zcod none d zc_X11_patch 34 [(0, .ref l0), (1, .int l1)] [.int (Int32.ofInt (-1)), .int s0] (S, I, L) :=
  (blk_ok zcod none d zc_X11_patch [] (33, .iconst (-1), 34, [], some [0, 1]) (by decide +kernel) _ _ _).trans rfl
theorem B_X11_patch_33 (d : Nat) (S : mS) (I : mI) (L : mJ) (l0 : Nat) (l1 : Int32) (s0 : Int32) :
  evk zcod none d zc_X11_patch 33 [(0, .ref l0), (1, .int l1)] [.int s0] (S, I, L) =
  evk zcod none d zc_X11_patch 34 [(0, .ref l0), (1, .int l1)] [.int (-1 : Int32), .int s0] (S, I, L) := by
  have h := R_X11_patch_33 d S I L l0 l1 s0
  simp only [cvN] at h
  exact h
set_option maxRecDepth 20000 in
set_option maxHeartbeats 4000000 in
theorem R_X11_patch_34 (d : Nat) (S : mS) (I : mI) (L : mJ) (l0 : Nat) (l1 : Int32) (s0 : Int32) (s1 : Int32) :
  evk zcod none d zc_X11_patch 34 [(0, .ref l0), (1, .int l1)] [.int s1, .int s0] (S, I, L) =
  bI (evM zcod d 145 [.int (s0 + s1), .int ((Int8.ofInt (-3)).toInt32), .int (nI 3)] (S, I, L)) fun x1 M1 =>
 if M1.1.1 = S.1 then
 (if ¬ x1 = (nI 0) then
 evk zcod none d zc_X11_patch 48 [(0, .ref l0), (1, .int l1), (3, .int (s0 + s1))] [] M1
 else
 some (some (.int (nI 0)), M1)) else none :=
  (blk_ok zcod none d zc_X11_patch [(35, .istore_n 3, 36, [], none), (36, .iload_n 3, 37, [], none), (37, .bipush (-3), 39, [], none), (39, .iconst 3, 40, [], none), (40, .invokestatic 109, 43, [145, 3, 1, 0, 491, 221, 222], none), (43, .ifCond .ne 5, 46, [48], none), (46, .iconst 0, 47, [], none), (47, .ireturn, 48, [1], none)] (34, .iadd, 35, [], some [0, 1]) (by decide +kernel) _ _ _).trans rfl
theorem B_X11_patch_34 (d : Nat) (S : mS) (I : mI) (L : mJ) (l0 : Nat) (l1 : Int32) (s0 : Int32) (s1 : Int32) :
  evk zcod none d zc_X11_patch 34 [(0, .ref l0), (1, .int l1)] [.int s1, .int s0] (S, I, L) =
  bI (evM zcod d 145 [.int (s0 + s1), .int (-3 : Int32), .int (nI 3)] (S, I, L)) fun x1 M1 =>
 if M1.1.1 = S.1 then
 (if ¬ x1 = (nI 0) then
 evk zcod none d zc_X11_patch 48 [(0, .ref l0), (1, .int l1), (3, .int (s0 + s1))] [] M1
 else
 some (some (.int (nI 0)), M1)) else none := by
  have h := R_X11_patch_34 d S I L l0 l1 s0 s1
  simp only [cvN] at h
  exact h
set_option maxRecDepth 20000 in
set_option maxHeartbeats 4000000 in
theorem B_X11_patch_48 (d : Nat) (S : mS) (I : mI) (L : mJ) (l0 : Nat) (l1 : Int32) (l3 : Int32) :
  evk zcod none d zc_X11_patch 48 [(0, .ref l0), (1, .int l1), (3, .int l3)] [] (S, I, L) =
  if kK S l0 = 11 then
 (if kK S l0 = 11 then
 (if kK S (kR S l0 12) = 4 then
 (bV (evM zcod d 107 [.ref (kR S l0 12), .ref (kR S l0 6)] (S, I, L)) fun M1 =>
 if M1.1.1 = S.1 then
 (if kK M1.1 l0 = 11 then
 (if kK M1.1 (kR M1.1 l0 6) = 8 then
 (if kK M1.1 (kR M1.1 (kR M1.1 l0 6) 1) = 9 then
 (bV (evM zcod d 6 [.ref (kR M1.1 (kR M1.1 l0 6) 1), .int l1, .int (nI 3), .int l3] M1) fun M2 =>
 if M2.1.1 = M1.1.1 then
 (some (some (.int (nI 1)), M2)) else none) else none) else none) else none) else none) else none) else none) else none :=
  (blk_ok zcod none d zc_X11_patch [(49, .getfield 92, 52, [11, 12, 2, 484, 0], none), (52, .aload_n 0, 53, [], none), (53, .getfield 42, 56, [11, 6, 2, 457, 0], none), (56, .invokevirtual 183, 59, [107, 1, 0, 4, 524, 525, 526, 439], none), (59, .aload_n 0, 60, [], none), (60, .getfield 42, 63, [11, 6, 2, 457, 0], none), (63, .getfield 140, 66, [8, 1, 2, 509, 1], none), (66, .iload_n 1, 67, [], none), (67, .iconst 3, 68, [], none), (68, .iload_n 3, 69, [], none), (69, .invokevirtual 192, 72, [6, 3, 0, 9, 531, 13, 14, 11], none), (72, .iconst 1, 73, [], none), (73, .ireturn, 74, [1], none)] (48, .aload_n 0, 49, [], some [0, 1, 3]) (by decide +kernel) _ _ _).trans rfl
theorem E_X11_hours (d : Nat) (M : zM) (l0 : Nat) (l1 : Int32) : evM zcod (d + 1) 125 [.ref l0, .int l1] M = evk zcod none d zc_X11_hours 0 [(0, .ref l0), (1, .int l1)] [] M := evM_eq zcod d 125 _ M (Nat.le_of_ble_eq_true rfl)
set_option maxRecDepth 20000 in
set_option maxHeartbeats 4000000 in
theorem R_X11_hours_0 (d : Nat) (S : mS) (I : mI) (L : mJ) (l0 : Nat) (l1 : Int32) :
  evk zcod none d zc_X11_hours 0 [(0, .ref l0), (1, .int l1)] [] (S, I, L) =
  bI (evM zcod d 145 [.int l1, .int (nI 0), .int (nI 72)] (S, I, L)) fun x1 M1 =>
 if M1.1.1 = S.1 then
 (if ¬ x1 = (nI 0) then
 evk zcod none d zc_X11_hours 12 [(0, .ref l0), (1, .int l1)] [] M1
 else
 some (some (.int (Int32.ofInt (-1))), M1)) else none :=
  (blk_ok zcod none d zc_X11_hours [(1, .iconst 0, 2, [], none), (2, .bipush 72, 4, [], none), (4, .invokestatic 109, 7, [145, 3, 1, 0, 491, 221, 222], none), (7, .ifCond .ne 5, 10, [12], none), (10, .iconst (-1), 11, [], none), (11, .ireturn, 12, [0], none)] (0, .iload_n 1, 1, [], none) (by decide +kernel) _ _ _).trans rfl
theorem B_X11_hours_0 (d : Nat) (S : mS) (I : mI) (L : mJ) (l0 : Nat) (l1 : Int32) :
  evk zcod none d zc_X11_hours 0 [(0, .ref l0), (1, .int l1)] [] (S, I, L) =
  bI (evM zcod d 145 [.int l1, .int (nI 0), .int (nI 72)] (S, I, L)) fun x1 M1 =>
 if M1.1.1 = S.1 then
 (if ¬ x1 = (nI 0) then
 evk zcod none d zc_X11_hours 12 [(0, .ref l0), (1, .int l1)] [] M1
 else
 some (some (.int (-1 : Int32)), M1)) else none := by
  have h := R_X11_hours_0 d S I L l0 l1
  simp only [cvN] at h
  exact h
set_option maxRecDepth 20000 in
set_option maxHeartbeats 4000000 in
theorem B_X11_hours_12 (d : Nat) (S : mS) (I : mI) (L : mJ) (l0 : Nat) (l1 : Int32) :
  evk zcod none d zc_X11_hours 12 [(0, .ref l0), (1, .int l1)] [] (S, I, L) =
  if l1 ≤ (nI 0) then
 evk zcod none d zc_X11_hours 46 [(0, .ref l0)] [] (S, I, L)
 else
 if kK S l0 = 11 then
 (if kK S l0 = 11 then
 (if kK S (kR S l0 12) = 4 then
 (bV (evM zcod d 107 [.ref (kR S l0 12), .ref (kR S l0 6)] (S, I, L)) fun M1 =>
 if M1.1.1 = S.1 then
 (if kK M1.1 l0 = 11 then
 (if kK M1.1 l0 = 11 then
 (if kK M1.1 l0 = 11 then
 (if kK M1.1 (kR M1.1 l0 3) = 5 then
 (if kK M1.1 (kR M1.1 l0 9) = 0 then
 (bV (evM zcod d 82 [.ref (kR M1.1 l0 9), .ref (kR M1.1 l0 6), .int l1, .int (M1.2.1 (kR M1.1 l0 3) 4)] M1) fun M2 =>
 if M2.1.1 = M1.1.1 then
 (evk zcod none d zc_X11_hours 46 [(0, .ref l0)] [] M2) else none) else none) else none) else none) else none) else none) else none) else none) else none) else none :=
  (blk_ok zcod none d zc_X11_hours [(13, .ifCond .le 33, 16, [46], none), (16, .aload_n 0, 17, [], none), (17, .getfield 92, 20, [11, 12, 2, 484, 0], none), (20, .aload_n 0, 21, [], none), (21, .getfield 42, 24, [11, 6, 2, 457, 0], none), (24, .invokevirtual 183, 27, [107, 1, 0, 4, 524, 525, 526, 439], none), (27, .aload_n 0, 28, [], none), (28, .getfield 67, 31, [11, 9, 2, 469, 0], none), (31, .aload_n 0, 32, [], none), (32, .getfield 42, 35, [11, 6, 2, 457, 0], none), (35, .iload_n 1, 36, [], none), (36, .aload_n 0, 37, [], none), (37, .getfield 23, 40, [11, 3, 2, 448, 0], none), (40, .getfield 198, 43, [5, 4, 0, 533, 1], none), (43, .invokevirtual 201, 46, [82, 3, 0, 0, 534, 535, 536, 290], none)] (12, .iload_n 1, 13, [], some [0, 1]) (by decide +kernel) _ _ _).trans rfl
set_option maxRecDepth 20000 in
set_option maxHeartbeats 4000000 in
theorem B_X11_hours_46 (d : Nat) (S : mS) (I : mI) (L : mJ) (l0 : Nat) :
  evk zcod none d zc_X11_hours 46 [(0, .ref l0)] [] (S, I, L) =
  if kK S l0 = 11 then
 (if kK S (kR S l0 6) = 8 then
 (some (some (.int (I (kR S l0 6) 3)), (S, I, L))) else none) else none :=
  (blk_ok zcod none d zc_X11_hours [(47, .getfield 42, 50, [11, 6, 2, 457, 0], none), (50, .getfield 150, 53, [8, 3, 0, 512, 1], none), (53, .ireturn, 54, [0], none)] (46, .aload_n 0, 47, [], some [0]) (by decide +kernel) _ _ _).trans rfl
theorem E_X11_undo (d : Nat) (M : zM) (l0 : Nat) : evM zcod (d + 1) 126 [.ref l0] M = evk zcod none d zc_X11_undo 0 [(0, .ref l0)] [] M := evM_eq zcod d 126 _ M (Nat.le_of_ble_eq_true rfl)
set_option maxRecDepth 20000 in
set_option maxHeartbeats 4000000 in
theorem B_X11_undo_0 (d : Nat) (S : mS) (I : mI) (L : mJ) (l0 : Nat) :
  evk zcod none d zc_X11_undo 0 [(0, .ref l0)] [] (S, I, L) =
  if kK S l0 = 11 then
 (if kK S l0 = 11 then
 (if kK S (kR S l0 12) = 4 then
 (bI (evM zcod d 108 [.ref (kR S l0 12), .ref (kR S l0 6)] (S, I, L)) fun x1 M1 =>
 if M1.1.1 = S.1 then
 (if x1 = nI 0 ∨ x1 = nI 1 then some (some (.int x1), M1) else none) else none) else none) else none) else none :=
  (blk_ok zcod none d zc_X11_undo [(1, .getfield 92, 4, [11, 12, 2, 484, 0], none), (4, .aload_n 0, 5, [], none), (5, .getfield 42, 8, [11, 6, 2, 457, 0], none), (8, .invokevirtual 205, 11, [108, 1, 1, 4, 537, 538, 539, 439], none), (11, .ireturn, 12, [1], none)] (0, .aload_n 0, 1, [], none) (by decide +kernel) _ _ _).trans rfl
theorem E_X11_flight (d : Nat) (M : zM) (l0 : Nat) (l1 : Int32) (l2 : Int32) (l3 : Int32) (l4 : Int32) : evM zcod (d + 1) 127 [.ref l0, .int l1, .int l2, .int l3, .int l4] M = evk zcod none d zc_X11_flight 0 [(0, .ref l0), (1, .int l1), (2, .int l2), (3, .int l3), (4, .int l4)] [] M := evM_eq zcod d 127 _ M (Nat.le_of_ble_eq_true rfl)
set_option maxRecDepth 20000 in
set_option maxHeartbeats 4000000 in
theorem B_X11_flight_0 (d : Nat) (S : mS) (I : mI) (L : mJ) (l0 : Nat) (l1 : Int32) (l2 : Int32) (l3 : Int32) (l4 : Int32) :
  evk zcod none d zc_X11_flight 0 [(0, .ref l0), (1, .int l1), (2, .int l2), (3, .int l3), (4, .int l4)] [] (S, I, L) =
  if kK S l0 = 11 then
 (bI (evM zcod d 148 [.ref l0, .int l1, .int l2] (S, I, L)) fun x1 M1 =>
 if M1.1.1 = S.1 then
 (if x1 = (nI 0) then
 evk zcod none d zc_X11_flight 29 [] [] M1
 else
 bI (evM zcod d 145 [.int l3, .int (nI 0), .int (nI 24)] M1) fun x2 M2 =>
 if M2.1.1 = M1.1.1 then
 (if x2 = (nI 0) then
 evk zcod none d zc_X11_flight 29 [] [] M2
 else
 bI (evM zcod d 145 [.int l4, .int (nI 0), .int (nI 3)] M2) fun x3 M3 =>
 if M3.1.1 = M2.1.1 then
 (if ¬ x3 = (nI 0) then
 evk zcod none d zc_X11_flight 31 [(0, .ref l0), (1, .int l1), (2, .int l2), (3, .int l3), (4, .int l4)] [] M3
 else
 evk zcod none d zc_X11_flight 29 [] [] M3) else none) else none) else none) else none :=
  (blk_ok zcod none d zc_X11_flight [(1, .iload_n 1, 2, [], none), (2, .iload_n 2, 3, [], none), (3, .invokevirtual 176, 6, [148, 2, 1, 11, 520, 521, 522, 222], none), (6, .ifCond .eq 23, 9, [29], none), (9, .iload_n 3, 10, [], none), (10, .iconst 0, 11, [], none), (11, .bipush 24, 13, [], none), (13, .invokestatic 109, 16, [145, 3, 1, 0, 491, 221, 222], none), (16, .ifCond .eq 13, 19, [29], none), (19, .iload 4, 21, [], none), (21, .iconst 0, 22, [], none), (22, .iconst 3, 23, [], none), (23, .invokestatic 109, 26, [145, 3, 1, 0, 491, 221, 222], none), (26, .ifCond .ne 5, 29, [31], none)] (0, .aload_n 0, 1, [], none) (by decide +kernel) _ _ _).trans rfl
set_option maxRecDepth 20000 in
set_option maxHeartbeats 4000000 in
theorem R_X11_flight_29 (d : Nat) (S : mS) (I : mI) (L : mJ)  :
  evk zcod none d zc_X11_flight 29 [] [] (S, I, L) =
  some (some (.int (Int32.ofInt (-1))), (S, I, L)) :=
  (blk_ok zcod none d zc_X11_flight [(30, .ireturn, 31, [0], none)] (29, .iconst (-1), 30, [], some []) (by decide +kernel) _ _ _).trans rfl
theorem B_X11_flight_29 (d : Nat) (S : mS) (I : mI) (L : mJ)  :
  evk zcod none d zc_X11_flight 29 [] [] (S, I, L) =
  some (some (.int (-1 : Int32)), (S, I, L)) := by
  have h := R_X11_flight_29 d S I L 
  simp only [cvN] at h
  exact h
set_option maxRecDepth 20000 in
set_option maxHeartbeats 4000000 in
theorem R_X11_flight_31 (d : Nat) (S : mS) (I : mI) (L : mJ) (l0 : Nat) (l1 : Int32) (l2 : Int32) (l3 : Int32) (l4 : Int32) :
  evk zcod none d zc_X11_flight 31 [(0, .ref l0), (1, .int l1), (2, .int l2), (3, .int l3), (4, .int l4)] [] (S, I, L) =
  if kK S l0 = 11 then
 (if kK S (kR S l0 6) = 8 then
 (bI (evM zcod d 27 [.ref (kR S l0 6), .int l1, .int l2] (S, I, L)) fun x1 M1 =>
 if M1.1.1 = S.1 then
 (if ¬ x1 = (nI 0) then
 evk zcod none d zc_X11_flight 46 [(0, .ref l0), (1, .int l1), (2, .int l2), (3, .int l3), (4, .int l4)] [] M1
 else
 some (some (.int ((Int8.ofInt (-2)).toInt32)), M1)) else none) else none) else none :=
  (blk_ok zcod none d zc_X11_flight [(32, .getfield 42, 35, [11, 6, 2, 457, 0], none), (35, .iload_n 1, 36, [], none), (36, .iload_n 2, 37, [], none), (37, .invokevirtual 180, 40, [27, 2, 1, 8, 523, 381, 382, 60], none), (40, .ifCond .ne 6, 43, [46], none), (43, .bipush (-2), 45, [], none), (45, .ireturn, 46, [0], none)] (31, .aload_n 0, 32, [], some [0, 1, 2, 3, 4]) (by decide +kernel) _ _ _).trans rfl
theorem B_X11_flight_31 (d : Nat) (S : mS) (I : mI) (L : mJ) (l0 : Nat) (l1 : Int32) (l2 : Int32) (l3 : Int32) (l4 : Int32) :
  evk zcod none d zc_X11_flight 31 [(0, .ref l0), (1, .int l1), (2, .int l2), (3, .int l3), (4, .int l4)] [] (S, I, L) =
  if kK S l0 = 11 then
 (if kK S (kR S l0 6) = 8 then
 (bI (evM zcod d 27 [.ref (kR S l0 6), .int l1, .int l2] (S, I, L)) fun x1 M1 =>
 if M1.1.1 = S.1 then
 (if ¬ x1 = (nI 0) then
 evk zcod none d zc_X11_flight 46 [(0, .ref l0), (1, .int l1), (2, .int l2), (3, .int l3), (4, .int l4)] [] M1
 else
 some (some (.int (-2 : Int32)), M1)) else none) else none) else none := by
  have h := R_X11_flight_31 d S I L l0 l1 l2 l3 l4
  simp only [cvN] at h
  exact h
set_option maxRecDepth 20000 in
set_option maxHeartbeats 4000000 in
theorem B_X11_flight_46 (d : Nat) (S : mS) (I : mI) (L : mJ) (l0 : Nat) (l1 : Int32) (l2 : Int32) (l3 : Int32) (l4 : Int32) :
  evk zcod none d zc_X11_flight 46 [(0, .ref l0), (1, .int l1), (2, .int l2), (3, .int l3), (4, .int l4)] [] (S, I, L) =
  if kK S l0 = 11 then
 (if kK S l0 = 11 then
 (if kK S (kR S l0 6) = 8 then
 (if kK S (kR S (kR S l0 6) 1) = 9 then
 (bI (evM zcod d 5 [.ref (kR S (kR S l0 6) 1), .int l2, .int (nI 3)] (S, I, L)) fun x1 M1 =>
 if M1.1.1 = S.1 then
 (if kK M1.1 (kR S l0 10) = 1 then
 (bV (evM zcod d 89 [.ref (kR S l0 10), .int l1, .int l2, .int x1, .int l3] M1) fun M2 =>
 if M2.1.1 = M1.1.1 then
 (if l4 = (nI 0) then evk zcod none d zc_X11_flight 96 [(0, .ref l0)] [] M2 else
 if l4 = (nI 1) then evk zcod none d zc_X11_flight 104 [(0, .ref l0)] [] M2 else
 if l4 = (nI 2) then evk zcod none d zc_X11_flight 112 [(0, .ref l0)] [] M2 else
 evk zcod none d zc_X11_flight 120 [(0, .ref l0)] [] M2) else none) else none) else none) else none) else none) else none) else none :=
  (blk_ok zcod none d zc_X11_flight [(47, .getfield 76, 50, [11, 10, 2, 474, 0], none), (50, .iload_n 1, 51, [], none), (51, .iload_n 2, 52, [], none), (52, .aload_n 0, 53, [], none), (53, .getfield 42, 56, [11, 6, 2, 457, 0], none), (56, .getfield 140, 59, [8, 1, 2, 509, 1], none), (59, .iload_n 2, 60, [], none), (60, .iconst 3, 61, [], none), (61, .invokevirtual 136, 64, [5, 2, 1, 9, 508, 55, 56, 11], none), (64, .iload_n 3, 65, [], none), (65, .invokevirtual 209, 68, [89, 4, 0, 1, 540, 394, 395, 359], none), (68, .iload 4, 70, [], none), (70, .tableswitch 50 0 2 #[26, 34, 42], 96, [120, 96, 104, 112], none)] (46, .aload_n 0, 47, [], some [0, 1, 2, 3, 4]) (by decide +kernel) _ _ _).trans rfl
set_option maxRecDepth 20000 in
set_option maxHeartbeats 4000000 in
theorem B_X11_flight_96 (d : Nat) (S : mS) (I : mI) (L : mJ) (l0 : Nat) :
  evk zcod none d zc_X11_flight 96 [(0, .ref l0)] [] (S, I, L) =
  if kK S l0 = 11 then
 (if kK S (kR S l0 10) = 1 then
 (some (some (.int (I (kR S l0 10) 3)), (S, I, L))) else none) else none :=
  (blk_ok zcod none d zc_X11_flight [(97, .getfield 76, 100, [11, 10, 2, 474, 0], none), (100, .getfield 213, 103, [1, 3, 0, 541, 1], none), (103, .ireturn, 104, [0], none)] (96, .aload_n 0, 97, [], some [0]) (by decide +kernel) _ _ _).trans rfl
set_option maxRecDepth 20000 in
set_option maxHeartbeats 4000000 in
theorem B_X11_flight_104 (d : Nat) (S : mS) (I : mI) (L : mJ) (l0 : Nat) :
  evk zcod none d zc_X11_flight 104 [(0, .ref l0)] [] (S, I, L) =
  if kK S l0 = 11 then
 (if kK S (kR S l0 10) = 1 then
 (some (some (.int (I (kR S l0 10) 4)), (S, I, L))) else none) else none :=
  (blk_ok zcod none d zc_X11_flight [(105, .getfield 76, 108, [11, 10, 2, 474, 0], none), (108, .getfield 216, 111, [1, 4, 0, 542, 1], none), (111, .ireturn, 112, [0], none)] (104, .aload_n 0, 105, [], some [0]) (by decide +kernel) _ _ _).trans rfl
set_option maxRecDepth 20000 in
set_option maxHeartbeats 4000000 in
theorem B_X11_flight_112 (d : Nat) (S : mS) (I : mI) (L : mJ) (l0 : Nat) :
  evk zcod none d zc_X11_flight 112 [(0, .ref l0)] [] (S, I, L) =
  if kK S l0 = 11 then
 (if kK S (kR S l0 10) = 1 then
 (some (some (.int (I (kR S l0 10) 5)), (S, I, L))) else none) else none :=
  (blk_ok zcod none d zc_X11_flight [(113, .getfield 76, 116, [11, 10, 2, 474, 0], none), (116, .getfield 219, 119, [1, 5, 0, 543, 1], none), (119, .ireturn, 120, [0], none)] (112, .aload_n 0, 113, [], some [0]) (by decide +kernel) _ _ _).trans rfl
set_option maxRecDepth 20000 in
set_option maxHeartbeats 4000000 in
theorem B_X11_flight_120 (d : Nat) (S : mS) (I : mI) (L : mJ) (l0 : Nat) :
  evk zcod none d zc_X11_flight 120 [(0, .ref l0)] [] (S, I, L) =
  if kK S l0 = 11 then
 (if kK S (kR S l0 10) = 1 then
 (some (some (.int (I (kR S l0 10) 6)), (S, I, L))) else none) else none :=
  (blk_ok zcod none d zc_X11_flight [(121, .getfield 76, 124, [11, 10, 2, 474, 0], none), (124, .getfield 222, 127, [1, 6, 0, 544, 1], none), (127, .ireturn, 128, [0], none)] (120, .aload_n 0, 121, [], some [0]) (by decide +kernel) _ _ _).trans rfl
theorem E_X11_soon (d : Nat) (M : zM) (l0 : Nat) (l1 : Int32) (l2 : Int32) (l3 : Int32) : evM zcod (d + 1) 128 [.ref l0, .int l1, .int l2, .int l3] M = evk zcod none d zc_X11_soon 0 [(0, .ref l0), (1, .int l1), (2, .int l2), (3, .int l3)] [] M := evM_eq zcod d 128 _ M (Nat.le_of_ble_eq_true rfl)
set_option maxRecDepth 20000 in
set_option maxHeartbeats 4000000 in
theorem B_X11_soon_0 (d : Nat) (S : mS) (I : mI) (L : mJ) (l0 : Nat) (l1 : Int32) (l2 : Int32) (l3 : Int32) :
  evk zcod none d zc_X11_soon 0 [(0, .ref l0), (1, .int l1), (2, .int l2), (3, .int l3)] [] (S, I, L) =
  if kK S l0 = 11 then
 (if kK S (kR S l0 6) = 8 then
 (bI (evM zcod d 27 [.ref (kR S l0 6), .int l1, .int l2] (S, I, L)) fun x1 M1 =>
 if M1.1.1 = S.1 then
 (if x1 = (nI 0) then
 evk zcod none d zc_X11_soon 26 [] [] M1
 else
 if kK M1.1 l0 = 11 then
 (if kK M1.1 (kR M1.1 l0 6) = 8 then
 (if kK M1.1 (kR M1.1 (kR M1.1 l0 6) 2) = 9 then
 (bI (evM zcod d 2 [.ref (kR M1.1 (kR M1.1 l0 6) 2), .int l3] M1) fun x2 M2 =>
 if M2.1.1 = M1.1.1 then
 (if ¬ x2 = (nI 0) then
 evk zcod none d zc_X11_soon 28 [(0, .ref l0), (1, .int l1), (2, .int l2), (3, .int l3)] [] M2
 else
 evk zcod none d zc_X11_soon 26 [] [] M2) else none) else none) else none) else none) else none) else none) else none :=
  (blk_ok zcod none d zc_X11_soon [(1, .getfield 42, 4, [11, 6, 2, 457, 0], none), (4, .iload_n 1, 5, [], none), (5, .iload_n 2, 6, [], none), (6, .invokevirtual 180, 9, [27, 2, 1, 8, 523, 381, 382, 60], none), (9, .ifCond .eq 17, 12, [26], none), (12, .aload_n 0, 13, [], none), (13, .getfield 42, 16, [11, 6, 2, 457, 0], none), (16, .getfield 147, 19, [8, 2, 2, 511, 1], none), (19, .iload_n 3, 20, [], none), (20, .invokevirtual 143, 23, [2, 1, 1, 9, 510, 65, 66, 11], none), (23, .ifCond .ne 5, 26, [28], none)] (0, .aload_n 0, 1, [], none) (by decide +kernel) _ _ _).trans rfl
set_option maxRecDepth 20000 in
set_option maxHeartbeats 4000000 in
theorem R_X11_soon_26 (d : Nat) (S : mS) (I : mI) (L : mJ)  :
  evk zcod none d zc_X11_soon 26 [] [] (S, I, L) =
  some (some (.int (Int32.ofInt (-1))), (S, I, L)) :=
  (blk_ok zcod none d zc_X11_soon [(27, .ireturn, 28, [0], none)] (26, .iconst (-1), 27, [], some []) (by decide +kernel) _ _ _).trans rfl
theorem B_X11_soon_26 (d : Nat) (S : mS) (I : mI) (L : mJ)  :
  evk zcod none d zc_X11_soon 26 [] [] (S, I, L) =
  some (some (.int (-1 : Int32)), (S, I, L)) := by
  have h := R_X11_soon_26 d S I L 
  simp only [cvN] at h
  exact h
set_option maxRecDepth 20000 in
set_option maxHeartbeats 4000000 in
theorem B_X11_soon_28 (d : Nat) (S : mS) (I : mI) (L : mJ) (l0 : Nat) (l1 : Int32) (l2 : Int32) (l3 : Int32) :
  evk zcod none d zc_X11_soon 28 [(0, .ref l0), (1, .int l1), (2, .int l2), (3, .int l3)] [] (S, I, L) =
  if kK S l0 = 11 then
 (if kK S (kR S l0 6) = 8 then
 (if kK S (kR S (kR S l0 6) 1) = 9 then
 (bI (evM zcod d 5 [.ref (kR S (kR S l0 6) 1), .int l2, .int (nI 3)] (S, I, L)) fun x1 M1 =>
 if M1.1.1 = S.1 then
 (evk zcod none d zc_X11_soon 45 [(0, .ref l0), (1, .int l1), (2, .int l2), (3, .int l3), (4, .int x1), (5, .int (nI 0))] [] M1) else none) else none) else none) else none :=
  (blk_ok zcod none d zc_X11_soon [(29, .getfield 42, 32, [11, 6, 2, 457, 0], none), (32, .getfield 140, 35, [8, 1, 2, 509, 1], none), (35, .iload_n 2, 36, [], none), (36, .iconst 3, 37, [], none), (37, .invokevirtual 136, 40, [5, 2, 1, 9, 508, 55, 56, 11], none), (40, .istore 4, 42, [], none), (42, .iconst 0, 43, [], none), (43, .istore 5, 45, [], none)] (28, .aload_n 0, 29, [], some [0, 1, 2, 3]) (by decide +kernel) _ _ _).trans rfl
set_option maxRecDepth 20000 in
set_option maxHeartbeats 4000000 in
theorem B_X11_soon_45 (d : Nat) (S : mS) (I : mI) (L : mJ) (l0 : Nat) (l1 : Int32) (l2 : Int32) (l3 : Int32) (l4 : Int32) (l5 : Int32) :
  evk zcod none d zc_X11_soon 45 [(0, .ref l0), (1, .int l1), (2, .int l2), (3, .int l3), (4, .int l4), (5, .int l5)] [] (S, I, L) =
  if (nI 24) < l5 then
 evk zcod none d zc_X11_soon 85 [] [] (S, I, L)
 else
 if kK S l0 = 11 then
 (if kK S (kR S l0 10) = 1 then
 (bV (evM zcod d 89 [.ref (kR S l0 10), .int l1, .int l2, .int l4, .int l5] (S, I, L)) fun M1 =>
 if M1.1.1 = S.1 then
 (if kK M1.1 l0 = 11 then
 (if kK M1.1 (kR M1.1 l0 10) = 1 then
 (if ¬ (M1.2.1 (kR M1.1 l0 10) 5) = l3 then
 evk zcod none d zc_X11_soon 79 [(0, .ref l0), (1, .int l1), (2, .int l2), (3, .int l3), (4, .int l4), (5, .int l5)] [] M1
 else
 some (some (.int l5), M1)) else none) else none) else none) else none) else none :=
  (blk_ok zcod none d zc_X11_soon [(47, .bipush 24, 49, [], none), (49, .if_icmp .gt 36, 52, [85], none), (52, .aload_n 0, 53, [], none), (53, .getfield 76, 56, [11, 10, 2, 474, 0], none), (56, .iload_n 1, 57, [], none), (57, .iload_n 2, 58, [], none), (58, .iload 4, 60, [], none), (60, .iload 5, 62, [], none), (62, .invokevirtual 209, 65, [89, 4, 0, 1, 540, 394, 395, 359], none), (65, .aload_n 0, 66, [], none), (66, .getfield 76, 69, [11, 10, 2, 474, 0], none), (69, .getfield 219, 72, [1, 5, 0, 543, 1], none), (72, .iload_n 3, 73, [], none), (73, .if_icmp .ne 6, 76, [79], none), (76, .iload 5, 78, [], none), (78, .ireturn, 79, [0], none)] (45, .iload 5, 47, [], some [0, 1, 2, 3, 4, 5]) (by decide +kernel) _ _ _).trans rfl
set_option maxRecDepth 20000 in
set_option maxHeartbeats 4000000 in
theorem B_X11_soon_79 (d : Nat) (S : mS) (I : mI) (L : mJ) (l0 : Nat) (l1 : Int32) (l2 : Int32) (l3 : Int32) (l4 : Int32) (l5 : Int32) :
  evk zcod none d zc_X11_soon 79 [(0, .ref l0), (1, .int l1), (2, .int l2), (3, .int l3), (4, .int l4), (5, .int l5)] [] (S, I, L) =
  evk zcod none d zc_X11_soon 45 [(0, .ref l0), (1, .int l1), (2, .int l2), (3, .int l3), (4, .int l4), (5, .int (l5 + (nI 1)))] [] (S, I, L) :=
  (blk_ok zcod none d zc_X11_soon [(82, .goto (-37), 85, [45], none)] (79, .iinc 5 1, 82, [], some [0, 1, 2, 3, 4, 5]) (by decide +kernel) _ _ _).trans rfl
set_option maxRecDepth 20000 in
set_option maxHeartbeats 4000000 in
theorem R_X11_soon_85 (d : Nat) (S : mS) (I : mI) (L : mJ)  :
  evk zcod none d zc_X11_soon 85 [] [] (S, I, L) =
  some (some (.int ((Int8.ofInt (-2)).toInt32)), (S, I, L)) :=
  (blk_ok zcod none d zc_X11_soon [(87, .ireturn, 88, [0], none)] (85, .bipush (-2), 87, [], some []) (by decide +kernel) _ _ _).trans rfl
theorem B_X11_soon_85 (d : Nat) (S : mS) (I : mI) (L : mJ)  :
  evk zcod none d zc_X11_soon 85 [] [] (S, I, L) =
  some (some (.int (-2 : Int32)), (S, I, L)) := by
  have h := R_X11_soon_85 d S I L 
  simp only [cvN] at h
  exact h
theorem E_X11_patches (d : Nat) (M : zM) (l0 : Nat) (l1 : Int32) (l2 : Int32) (l3 : Int32) : evM zcod (d + 1) 129 [.ref l0, .int l1, .int l2, .int l3] M = evk zcod none d zc_X11_patches 0 [(0, .ref l0), (1, .int l1), (2, .int l2), (3, .int l3)] [] M := evM_eq zcod d 129 _ M (Nat.le_of_ble_eq_true rfl)
set_option maxRecDepth 20000 in
set_option maxHeartbeats 4000000 in
theorem B_X11_patches_0 (d : Nat) (S : mS) (I : mI) (L : mJ) (l0 : Nat) (l1 : Int32) (l2 : Int32) (l3 : Int32) :
  evk zcod none d zc_X11_patches 0 [(0, .ref l0), (1, .int l1), (2, .int l2), (3, .int l3)] [] (S, I, L) =
  if kK S l0 = 11 then
 (if kK S (kR S l0 6) = 8 then
 (bI (evM zcod d 27 [.ref (kR S l0 6), .int l1, .int l2] (S, I, L)) fun x1 M1 =>
 if M1.1.1 = S.1 then
 (if x1 = (nI 0) then
 evk zcod none d zc_X11_patches 26 [] [] M1
 else
 if kK M1.1 l0 = 11 then
 (if kK M1.1 (kR M1.1 l0 6) = 8 then
 (if kK M1.1 (kR M1.1 (kR M1.1 l0 6) 2) = 9 then
 (bI (evM zcod d 2 [.ref (kR M1.1 (kR M1.1 l0 6) 2), .int l3] M1) fun x2 M2 =>
 if M2.1.1 = M1.1.1 then
 (if ¬ x2 = (nI 0) then
 evk zcod none d zc_X11_patches 30 [(0, .ref l0), (1, .int l1), (2, .int l2), (3, .int l3)] [] M2
 else
 evk zcod none d zc_X11_patches 26 [] [] M2) else none) else none) else none) else none) else none) else none) else none :=
  (blk_ok zcod none d zc_X11_patches [(1, .getfield 42, 4, [11, 6, 2, 457, 0], none), (4, .iload_n 1, 5, [], none), (5, .iload_n 2, 6, [], none), (6, .invokevirtual 180, 9, [27, 2, 1, 8, 523, 381, 382, 60], none), (9, .ifCond .eq 17, 12, [26], none), (12, .aload_n 0, 13, [], none), (13, .getfield 42, 16, [11, 6, 2, 457, 0], none), (16, .getfield 147, 19, [8, 2, 2, 511, 1], none), (19, .iload_n 3, 20, [], none), (20, .invokevirtual 143, 23, [2, 1, 1, 9, 510, 65, 66, 11], none), (23, .ifCond .ne 7, 26, [30], none)] (0, .aload_n 0, 1, [], none) (by decide +kernel) _ _ _).trans rfl
set_option maxRecDepth 20000 in
set_option maxHeartbeats 4000000 in
theorem R_X11_patches_26 (d : Nat) (S : mS) (I : mI) (L : mJ)  :
  evk zcod none d zc_X11_patches 26 [] [] (S, I, L) =
  some (some (.int ((Int16.ofInt (-1000)).toInt32)), (S, I, L)) :=
  (blk_ok zcod none d zc_X11_patches [(29, .ireturn, 30, [0], none)] (26, .sipush (-1000), 29, [], some []) (by decide +kernel) _ _ _).trans rfl
theorem B_X11_patches_26 (d : Nat) (S : mS) (I : mI) (L : mJ)  :
  evk zcod none d zc_X11_patches 26 [] [] (S, I, L) =
  some (some (.int (-1000 : Int32)), (S, I, L)) := by
  have h := R_X11_patches_26 d S I L 
  simp only [cvN] at h
  exact h
set_option maxRecDepth 20000 in
set_option maxHeartbeats 4000000 in
theorem B_X11_patches_30 (d : Nat) (S : mS) (I : mI) (L : mJ) (l0 : Nat) (l1 : Int32) (l2 : Int32) (l3 : Int32) :
  evk zcod none d zc_X11_patches 30 [(0, .ref l0), (1, .int l1), (2, .int l2), (3, .int l3)] [] (S, I, L) =
  if kK S l0 = 11 then
 (if kK S (kR S l0 6) = 8 then
 (if kK S (kR S (kR S l0 6) 1) = 9 then
 (bI (evM zcod d 5 [.ref (kR S (kR S l0 6) 1), .int l2, .int (nI 3)] (S, I, L)) fun x1 M1 =>
 if M1.1.1 = S.1 then
 (evk zcod none d zc_X11_patches 47 [(0, .ref l0), (1, .int l1), (2, .int l2), (3, .int l3), (4, .int x1), (5, .int (nI 0))] [] M1) else none) else none) else none) else none :=
  (blk_ok zcod none d zc_X11_patches [(31, .getfield 42, 34, [11, 6, 2, 457, 0], none), (34, .getfield 140, 37, [8, 1, 2, 509, 1], none), (37, .iload_n 2, 38, [], none), (38, .iconst 3, 39, [], none), (39, .invokevirtual 136, 42, [5, 2, 1, 9, 508, 55, 56, 11], none), (42, .istore 4, 44, [], none), (44, .iconst 0, 45, [], none), (45, .istore 5, 47, [], none)] (30, .aload_n 0, 31, [], some [0, 1, 2, 3]) (by decide +kernel) _ _ _).trans rfl
set_option maxRecDepth 20000 in
set_option maxHeartbeats 4000000 in
theorem B_X11_patches_47 (d : Nat) (S : mS) (I : mI) (L : mJ) (l0 : Nat) (l1 : Int32) (l2 : Int32) (l3 : Int32) (l4 : Int32) (l5 : Int32) :
  evk zcod none d zc_X11_patches 47 [(0, .ref l0), (1, .int l1), (2, .int l2), (3, .int l3), (4, .int l4), (5, .int l5)] [] (S, I, L) =
  if (nI 6) < l5 then
 evk zcod none d zc_X11_patches 102 [] [] (S, I, L)
 else
 if kK S l0 = 11 then
 (bI (evM zcod d 149 [.ref l0, .int l1, .int l2, .int (l4 - l5), .int l3] (S, I, L)) fun x1 M1 =>
 if M1.1.1 = S.1 then
 (if x1 = (nI 0) then
 evk zcod none d zc_X11_patches 75 [(0, .ref l0), (1, .int l1), (2, .int l2), (3, .int l3), (4, .int l4), (5, .int l5)] [] M1
 else
 some (some (.int (l4 - l5)), M1)) else none) else none :=
  (blk_ok zcod none d zc_X11_patches [(49, .bipush 6, 51, [], none), (51, .if_icmp .gt 51, 54, [102], none), (54, .aload_n 0, 55, [], none), (55, .iload_n 1, 56, [], none), (56, .iload_n 2, 57, [], none), (57, .iload 4, 59, [], none), (59, .iload 5, 61, [], none), (61, .isub, 62, [], none), (62, .iload_n 3, 63, [], none), (63, .invokevirtual 225, 66, [149, 4, 1, 11, 545, 546, 547, 222], none), (66, .ifCond .eq 9, 69, [75], none), (69, .iload 4, 71, [], none), (71, .iload 5, 73, [], none), (73, .isub, 74, [], none), (74, .ireturn, 75, [0], none)] (47, .iload 5, 49, [], some [0, 1, 2, 3, 4, 5]) (by decide +kernel) _ _ _).trans rfl
set_option maxRecDepth 20000 in
set_option maxHeartbeats 4000000 in
theorem B_X11_patches_75 (d : Nat) (S : mS) (I : mI) (L : mJ) (l0 : Nat) (l1 : Int32) (l2 : Int32) (l3 : Int32) (l4 : Int32) (l5 : Int32) :
  evk zcod none d zc_X11_patches 75 [(0, .ref l0), (1, .int l1), (2, .int l2), (3, .int l3), (4, .int l4), (5, .int l5)] [] (S, I, L) =
  if kK S l0 = 11 then
 (bI (evM zcod d 149 [.ref l0, .int l1, .int l2, .int (l4 + l5), .int l3] (S, I, L)) fun x1 M1 =>
 if M1.1.1 = S.1 then
 (if x1 = (nI 0) then
 evk zcod none d zc_X11_patches 96 [(0, .ref l0), (1, .int l1), (2, .int l2), (3, .int l3), (4, .int l4), (5, .int l5)] [] M1
 else
 some (some (.int (l4 + l5)), M1)) else none) else none :=
  (blk_ok zcod none d zc_X11_patches [(76, .iload_n 1, 77, [], none), (77, .iload_n 2, 78, [], none), (78, .iload 4, 80, [], none), (80, .iload 5, 82, [], none), (82, .iadd, 83, [], none), (83, .iload_n 3, 84, [], none), (84, .invokevirtual 225, 87, [149, 4, 1, 11, 545, 546, 547, 222], none), (87, .ifCond .eq 9, 90, [96], none), (90, .iload 4, 92, [], none), (92, .iload 5, 94, [], none), (94, .iadd, 95, [], none), (95, .ireturn, 96, [0], none)] (75, .aload_n 0, 76, [], some [0, 1, 2, 3, 4, 5]) (by decide +kernel) _ _ _).trans rfl
set_option maxRecDepth 20000 in
set_option maxHeartbeats 4000000 in
theorem B_X11_patches_96 (d : Nat) (S : mS) (I : mI) (L : mJ) (l0 : Nat) (l1 : Int32) (l2 : Int32) (l3 : Int32) (l4 : Int32) (l5 : Int32) :
  evk zcod none d zc_X11_patches 96 [(0, .ref l0), (1, .int l1), (2, .int l2), (3, .int l3), (4, .int l4), (5, .int l5)] [] (S, I, L) =
  evk zcod none d zc_X11_patches 47 [(0, .ref l0), (1, .int l1), (2, .int l2), (3, .int l3), (4, .int l4), (5, .int (l5 + (nI 1)))] [] (S, I, L) :=
  (blk_ok zcod none d zc_X11_patches [(99, .goto (-52), 102, [47], none)] (96, .iinc 5 1, 99, [], some [0, 1, 2, 3, 4, 5]) (by decide +kernel) _ _ _).trans rfl
set_option maxRecDepth 20000 in
set_option maxHeartbeats 4000000 in
theorem R_X11_patches_102 (d : Nat) (S : mS) (I : mI) (L : mJ)  :
  evk zcod none d zc_X11_patches 102 [] [] (S, I, L) =
  some (some (.int ((Int8.ofInt (-100)).toInt32)), (S, I, L)) :=
  (blk_ok zcod none d zc_X11_patches [(104, .ireturn, 105, [0], none)] (102, .bipush (-100), 104, [], some []) (by decide +kernel) _ _ _).trans rfl
theorem B_X11_patches_102 (d : Nat) (S : mS) (I : mI) (L : mJ)  :
  evk zcod none d zc_X11_patches 102 [] [] (S, I, L) =
  some (some (.int (-100 : Int32)), (S, I, L)) := by
  have h := R_X11_patches_102 d S I L 
  simp only [cvN] at h
  exact h
theorem E_X11_near (d : Nat) (M : zM) (l0 : Nat) (l1 : Int32) : evM zcod (d + 1) 130 [.ref l0, .int l1] M = evk zcod none d zc_X11_near 0 [(0, .ref l0), (1, .int l1)] [] M := evM_eq zcod d 130 _ M (Nat.le_of_ble_eq_true rfl)
set_option maxRecDepth 20000 in
set_option maxHeartbeats 4000000 in
theorem B_X11_near_0 (d : Nat) (S : mS) (I : mI) (L : mJ) (l0 : Nat) (l1 : Int32) :
  evk zcod none d zc_X11_near 0 [(0, .ref l0), (1, .int l1)] [] (S, I, L) =
  bI (evM zcod d 145 [.int l1, .int (nI 0), .int (nI 19)] (S, I, L)) fun x1 M1 =>
 if M1.1.1 = S.1 then
 (if x1 = (nI 0) then
 evk zcod none d zc_X11_near 22 [] [] M1
 else
 if kK M1.1 l0 = 11 then
 (if kK M1.1 (kR M1.1 l0 6) = 8 then
 (bI (evM zcod d 30 [.ref (kR M1.1 l0 6), .int l1, .int (nI 0)] M1) fun x2 M2 =>
 if M2.1.1 = M1.1.1 then
 (evk zcod none d zc_X11_near 23 [] [.int x2] M2) else none) else none) else none) else none :=
  (blk_ok zcod none d zc_X11_near [(1, .iconst 0, 2, [], none), (2, .bipush 19, 4, [], none), (4, .invokestatic 109, 7, [145, 3, 1, 0, 491, 221, 222], none), (7, .ifCond .eq 15, 10, [22], none), (10, .aload_n 0, 11, [], none), (11, .getfield 42, 14, [11, 6, 2, 457, 0], none), (14, .iload_n 1, 15, [], none), (15, .iconst 0, 16, [], none), (16, .invokevirtual 229, 19, [30, 2, 1, 8, 548, 336, 337, 60], none), (19, .goto 4, 22, [23], none)] (0, .iload_n 1, 1, [], none) (by decide +kernel) _ _ _).trans rfl
set_option maxRecDepth 20000 in
set_option maxHeartbeats 4000000 in
theorem R_X11_near_22 (d : Nat) (S : mS) (I : mI) (L : mJ)  :
  evk zcod none d zc_X11_near 22 [] [] (S, I, L) =
  evk zcod none d zc_X11_near 23 [] [.int (Int32.ofInt (-1))] (S, I, L) :=
  (blk_ok zcod none d zc_X11_near [] (22, .iconst (-1), 23, [], some []) (by decide +kernel) _ _ _).trans rfl
theorem B_X11_near_22 (d : Nat) (S : mS) (I : mI) (L : mJ)  :
  evk zcod none d zc_X11_near 22 [] [] (S, I, L) =
  evk zcod none d zc_X11_near 23 [] [.int (-1 : Int32)] (S, I, L) := by
  have h := R_X11_near_22 d S I L 
  simp only [cvN] at h
  exact h
set_option maxRecDepth 20000 in
set_option maxHeartbeats 4000000 in
theorem B_X11_near_23 (d : Nat) (S : mS) (I : mI) (L : mJ) (s0 : Int32) :
  evk zcod none d zc_X11_near 23 [] [.int s0] (S, I, L) =
  some (some (.int s0), (S, I, L)) :=
  (blk_ok zcod none d zc_X11_near [] (23, .ireturn, 24, [0], some []) (by decide +kernel) _ _ _).trans rfl
theorem E_X11_lifts (d : Nat) (M : zM) (l0 : Nat) (l1 : Int32) (l2 : Int32) : evM zcod (d + 1) 131 [.ref l0, .int l1, .int l2] M = evk zcod none d zc_X11_lifts 0 [(0, .ref l0), (1, .int l1), (2, .int l2)] [] M := evM_eq zcod d 131 _ M (Nat.le_of_ble_eq_true rfl)
set_option maxRecDepth 20000 in
set_option maxHeartbeats 4000000 in
theorem B_X11_lifts_0 (d : Nat) (S : mS) (I : mI) (L : mJ) (l0 : Nat) (l1 : Int32) (l2 : Int32) :
  evk zcod none d zc_X11_lifts 0 [(0, .ref l0), (1, .int l1), (2, .int l2)] [] (S, I, L) =
  if kK S l0 = 11 then
 (if kK S (kR S l0 6) = 8 then
 (bI (evM zcod d 26 [.ref (kR S l0 6), .int l1] (S, I, L)) fun x1 M1 =>
 if M1.1.1 = S.1 then
 (if x1 = (nI 0) then
 evk zcod none d zc_X11_lifts 21 [] [] M1
 else
 bI (evM zcod d 145 [.int l2, .int (nI 0), .int (nI 19)] M1) fun x2 M2 =>
 if M2.1.1 = M1.1.1 then
 (if ¬ x2 = (nI 0) then
 evk zcod none d zc_X11_lifts 23 [(0, .ref l0), (1, .int l1), (2, .int l2)] [] M2
 else
 evk zcod none d zc_X11_lifts 21 [] [] M2) else none) else none) else none) else none :=
  (blk_ok zcod none d zc_X11_lifts [(1, .getfield 42, 4, [11, 6, 2, 457, 0], none), (4, .iload_n 1, 5, [], none), (5, .invokevirtual 195, 8, [26, 1, 1, 8, 532, 71, 72, 60], none), (8, .ifCond .eq 13, 11, [21], none), (11, .iload_n 2, 12, [], none), (12, .iconst 0, 13, [], none), (13, .bipush 19, 15, [], none), (15, .invokestatic 109, 18, [145, 3, 1, 0, 491, 221, 222], none), (18, .ifCond .ne 5, 21, [23], none)] (0, .aload_n 0, 1, [], none) (by decide +kernel) _ _ _).trans rfl
set_option maxRecDepth 20000 in
set_option maxHeartbeats 4000000 in
theorem R_X11_lifts_21 (d : Nat) (S : mS) (I : mI) (L : mJ)  :
  evk zcod none d zc_X11_lifts 21 [] [] (S, I, L) =
  some (some (.int (Int32.ofInt (-1))), (S, I, L)) :=
  (blk_ok zcod none d zc_X11_lifts [(22, .ireturn, 23, [0], none)] (21, .iconst (-1), 22, [], some []) (by decide +kernel) _ _ _).trans rfl
theorem B_X11_lifts_21 (d : Nat) (S : mS) (I : mI) (L : mJ)  :
  evk zcod none d zc_X11_lifts 21 [] [] (S, I, L) =
  some (some (.int (-1 : Int32)), (S, I, L)) := by
  have h := R_X11_lifts_21 d S I L 
  simp only [cvN] at h
  exact h
set_option maxRecDepth 20000 in
set_option maxHeartbeats 4000000 in
theorem B_X11_lifts_23 (d : Nat) (S : mS) (I : mI) (L : mJ) (l0 : Nat) (l1 : Int32) (l2 : Int32) :
  evk zcod none d zc_X11_lifts 23 [(0, .ref l0), (1, .int l1), (2, .int l2)] [] (S, I, L) =
  if kK S l0 = 11 then
 (if kK S (kR S l0 6) = 8 then
 (if kK S (kR S (kR S l0 6) 1) = 9 then
 (bI (evM zcod d 5 [.ref (kR S (kR S l0 6) 1), .int l1, .int (nI 0)] (S, I, L)) fun x1 M1 =>
 if M1.1.1 = S.1 then
 (if kK M1.1 l0 = 11 then
 (if kK M1.1 (kR M1.1 l0 6) = 8 then
 (if kK M1.1 (kR M1.1 (kR M1.1 l0 6) 1) = 9 then
 (bI (evM zcod d 5 [.ref (kR M1.1 (kR M1.1 l0 6) 1), .int l1, .int (nI 3)] M1) fun x2 M2 =>
 if M2.1.1 = M1.1.1 then
 (evk zcod none d zc_X11_lifts 54 [(0, .ref l0), (2, .int l2), (3, .int x1), (4, .int x2), (5, .int (nI 9))] [] M2) else none) else none) else none) else none) else none) else none) else none) else none :=
  (blk_ok zcod none d zc_X11_lifts [(24, .getfield 42, 27, [11, 6, 2, 457, 0], none), (27, .getfield 140, 30, [8, 1, 2, 509, 1], none), (30, .iload_n 1, 31, [], none), (31, .iconst 0, 32, [], none), (32, .invokevirtual 136, 35, [5, 2, 1, 9, 508, 55, 56, 11], none), (35, .istore_n 3, 36, [], none), (36, .aload_n 0, 37, [], none), (37, .getfield 42, 40, [11, 6, 2, 457, 0], none), (40, .getfield 140, 43, [8, 1, 2, 509, 1], none), (43, .iload_n 1, 44, [], none), (44, .iconst 3, 45, [], none), (45, .invokevirtual 136, 48, [5, 2, 1, 9, 508, 55, 56, 11], none), (48, .istore 4, 50, [], none), (50, .bipush 9, 52, [], none), (52, .istore 5, 54, [], none)] (23, .aload_n 0, 24, [], some [0, 1, 2]) (by decide +kernel) _ _ _).trans rfl
set_option maxRecDepth 20000 in
set_option maxHeartbeats 4000000 in
theorem B_X11_lifts_54 (d : Nat) (S : mS) (I : mI) (L : mJ) (l0 : Nat) (l2 : Int32) (l3 : Int32) (l4 : Int32) (l5 : Int32) :
  evk zcod none d zc_X11_lifts 54 [(0, .ref l0), (2, .int l2), (3, .int l3), (4, .int l4), (5, .int l5)] [] (S, I, L) =
  if l5 ≤ (nI 0) then
 evk zcod none d zc_X11_lifts 100 [] [] (S, I, L)
 else
 if kK S l0 = 11 then
 (if kK S l0 = 11 then
 (if kK S (kR S l0 6) = 8 then
 (if kK S (kR S l0 10) = 1 then
 (bV (evM zcod d 90 [.ref (kR S l0 10), .int l3, .int l5, .int l4, .int l2, .int (I (kR S l0 6) 3), .int (nI 48)] (S, I, L)) fun M1 =>
 if M1.1.1 = S.1 then
 (if kK M1.1 l0 = 11 then
 (if kK M1.1 (kR M1.1 l0 10) = 1 then
 (bI (evM zcod d 88 [.ref (kR M1.1 l0 10)] M1) fun x2 M2 =>
 if M2.1.1 = M1.1.1 then
 (if x2 = (nI 0) then
 evk zcod none d zc_X11_lifts 94 [(0, .ref l0), (2, .int l2), (3, .int l3), (4, .int l4), (5, .int l5)] [] M2
 else
 some (some (.int l5), M2)) else none) else none) else none) else none) else none) else none) else none) else none :=
  (blk_ok zcod none d zc_X11_lifts [(56, .ifCond .le 44, 59, [100], none), (59, .aload_n 0, 60, [], none), (60, .getfield 76, 63, [11, 10, 2, 474, 0], none), (63, .iload_n 3, 64, [], none), (64, .iload 5, 66, [], none), (66, .iload 4, 68, [], none), (68, .iload_n 2, 69, [], none), (69, .aload_n 0, 70, [], none), (70, .getfield 42, 73, [11, 6, 2, 457, 0], none), (73, .getfield 150, 76, [8, 3, 0, 512, 1], none), (76, .bipush 48, 78, [], none), (78, .invokevirtual 232, 81, [90, 6, 0, 1, 549, 357, 358, 359], none), (81, .aload_n 0, 82, [], none), (82, .getfield 76, 85, [11, 10, 2, 474, 0], none), (85, .invokevirtual 236, 88, [88, 0, 1, 1, 550, 418, 419, 359], none), (88, .ifCond .eq 6, 91, [94], none), (91, .iload 5, 93, [], none), (93, .ireturn, 94, [0], none)] (54, .iload 5, 56, [], some [0, 2, 3, 4, 5]) (by decide +kernel) _ _ _).trans rfl
set_option maxRecDepth 20000 in
set_option maxHeartbeats 4000000 in
theorem R_X11_lifts_94 (d : Nat) (S : mS) (I : mI) (L : mJ) (l0 : Nat) (l2 : Int32) (l3 : Int32) (l4 : Int32) (l5 : Int32) :
  evk zcod none d zc_X11_lifts 94 [(0, .ref l0), (2, .int l2), (3, .int l3), (4, .int l4), (5, .int l5)] [] (S, I, L) =
  evk zcod none d zc_X11_lifts 54 [(0, .ref l0), (2, .int l2), (3, .int l3), (4, .int l4), (5, .int (l5 + (Int32.ofInt (-1))))] [] (S, I, L) :=
  (blk_ok zcod none d zc_X11_lifts [(97, .goto (-43), 100, [54], none)] (94, .iinc 5 (-1), 97, [], some [0, 2, 3, 4, 5]) (by decide +kernel) _ _ _).trans rfl
theorem B_X11_lifts_94 (d : Nat) (S : mS) (I : mI) (L : mJ) (l0 : Nat) (l2 : Int32) (l3 : Int32) (l4 : Int32) (l5 : Int32) :
  evk zcod none d zc_X11_lifts 94 [(0, .ref l0), (2, .int l2), (3, .int l3), (4, .int l4), (5, .int l5)] [] (S, I, L) =
  evk zcod none d zc_X11_lifts 54 [(0, .ref l0), (2, .int l2), (3, .int l3), (4, .int l4), (5, .int (l5 + (-1 : Int32)))] [] (S, I, L) := by
  have h := R_X11_lifts_94 d S I L l0 l2 l3 l4 l5
  simp only [cvN] at h
  exact h
set_option maxRecDepth 20000 in
set_option maxHeartbeats 4000000 in
theorem R_X11_lifts_100 (d : Nat) (S : mS) (I : mI) (L : mJ)  :
  evk zcod none d zc_X11_lifts 100 [] [] (S, I, L) =
  some (some (.int ((Int8.ofInt (-2)).toInt32)), (S, I, L)) :=
  (blk_ok zcod none d zc_X11_lifts [(102, .ireturn, 103, [0], none)] (100, .bipush (-2), 102, [], some []) (by decide +kernel) _ _ _).trans rfl
theorem B_X11_lifts_100 (d : Nat) (S : mS) (I : mI) (L : mJ)  :
  evk zcod none d zc_X11_lifts 100 [] [] (S, I, L) =
  some (some (.int (-2 : Int32)), (S, I, L)) := by
  have h := R_X11_lifts_100 d S I L 
  simp only [cvN] at h
  exact h
theorem E_X11_fill (d : Nat) (M : zM) (l0 : Nat) (l1 : Int32) : evM zcod (d + 1) 132 [.ref l0, .int l1] M = evk zcod none d zc_X11_fill 0 [(0, .ref l0), (1, .int l1)] [] M := evM_eq zcod d 132 _ M (Nat.le_of_ble_eq_true rfl)
set_option maxRecDepth 20000 in
set_option maxHeartbeats 4000000 in
theorem R_X11_fill_0 (d : Nat) (S : mS) (I : mI) (L : mJ) (l0 : Nat) (l1 : Int32) :
  evk zcod none d zc_X11_fill 0 [(0, .ref l0), (1, .int l1)] [] (S, I, L) =
  if l1 = (Int32.ofInt (-1)) then
 evk zcod none d zc_X11_fill 22 [(0, .ref l0), (1, .int l1)] [] (S, I, L)
 else
 if kK S l0 = 11 then
 (if kK S (kR S l0 6) = 8 then
 (if kK S (kR S (kR S l0 6) 0) = 9 then
 (bI (evM zcod d 2 [.ref (kR S (kR S l0 6) 0), .int l1] (S, I, L)) fun x1 M1 =>
 if M1.1.1 = S.1 then
 (if ¬ x1 = (nI 0) then
 evk zcod none d zc_X11_fill 22 [(0, .ref l0), (1, .int l1)] [] M1
 else
 some (some (.int (Int32.ofNat 4294867296)), M1)) else none) else none) else none) else none :=
  (blk_ok zcod none d zc_X11_fill [(1, .iconst (-1), 2, [], none), (2, .if_icmp .eq 20, 5, [22], none), (5, .aload_n 0, 6, [], none), (6, .getfield 42, 9, [11, 6, 2, 457, 0], none), (9, .getfield 133, 12, [8, 0, 2, 507, 1], none), (12, .iload_n 1, 13, [], none), (13, .invokevirtual 143, 16, [2, 1, 1, 9, 510, 65, 66, 11], none), (16, .ifCond .ne 6, 19, [22], none), (19, .ldc 240, 21, [0, 4294867296, 551], none), (21, .ireturn, 22, [0], none)] (0, .iload_n 1, 1, [], none) (by decide +kernel) _ _ _).trans rfl
theorem B_X11_fill_0 (d : Nat) (S : mS) (I : mI) (L : mJ) (l0 : Nat) (l1 : Int32) :
  evk zcod none d zc_X11_fill 0 [(0, .ref l0), (1, .int l1)] [] (S, I, L) =
  if l1 = (-1 : Int32) then
 evk zcod none d zc_X11_fill 22 [(0, .ref l0), (1, .int l1)] [] (S, I, L)
 else
 if kK S l0 = 11 then
 (if kK S (kR S l0 6) = 8 then
 (if kK S (kR S (kR S l0 6) 0) = 9 then
 (bI (evM zcod d 2 [.ref (kR S (kR S l0 6) 0), .int l1] (S, I, L)) fun x1 M1 =>
 if M1.1.1 = S.1 then
 (if ¬ x1 = (nI 0) then
 evk zcod none d zc_X11_fill 22 [(0, .ref l0), (1, .int l1)] [] M1
 else
 some (some (.int (Int32.ofNat 4294867296)), M1)) else none) else none) else none) else none := by
  have h := R_X11_fill_0 d S I L l0 l1
  simp only [cvN] at h
  exact h
set_option maxRecDepth 20000 in
set_option maxHeartbeats 4000000 in
theorem R_X11_fill_22 (d : Nat) (S : mS) (I : mI) (L : mJ) (l0 : Nat) (l1 : Int32) :
  evk zcod none d zc_X11_fill 22 [(0, .ref l0), (1, .int l1)] [] (S, I, L) =
  if kK S l0 = 11 then
 (if kK S (kR S l0 11) = 2 then
 (bV (evM zcod d 93 [.ref (kR S l0 11)] (S, I, L)) fun M1 =>
 if M1.1.1 = S.1 then
 (if ¬ l1 = (Int32.ofInt (-1)) then
 evk zcod none d zc_X11_fill 44 [(0, .ref l0), (1, .int l1)] [] M1
 else
 if kK M1.1 l0 = 11 then
 (if kK M1.1 (kR M1.1 l0 11) = 2 then
 (bI (evM zcod d 97 [.ref (kR M1.1 l0 11)] M1) fun x2 M2 =>
 if M2.1.1 = M1.1.1 then
 (evk zcod none d zc_X11_fill 52 [] [.int x2] M2) else none) else none) else none) else none) else none) else none :=
  (blk_ok zcod none d zc_X11_fill [(23, .getfield 85, 26, [11, 11, 2, 479, 0], none), (26, .invokevirtual 241, 29, [93, 0, 0, 2, 552, 553, 554, 386], none), (29, .iload_n 1, 30, [], none), (30, .iconst (-1), 31, [], none), (31, .if_icmp .ne 13, 34, [44], none), (34, .aload_n 0, 35, [], none), (35, .getfield 85, 38, [11, 11, 2, 479, 0], none), (38, .invokevirtual 244, 41, [97, 0, 1, 2, 555, 556, 557, 386], none), (41, .goto 11, 44, [52], none)] (22, .aload_n 0, 23, [], some [0, 1]) (by decide +kernel) _ _ _).trans rfl
theorem B_X11_fill_22 (d : Nat) (S : mS) (I : mI) (L : mJ) (l0 : Nat) (l1 : Int32) :
  evk zcod none d zc_X11_fill 22 [(0, .ref l0), (1, .int l1)] [] (S, I, L) =
  if kK S l0 = 11 then
 (if kK S (kR S l0 11) = 2 then
 (bV (evM zcod d 93 [.ref (kR S l0 11)] (S, I, L)) fun M1 =>
 if M1.1.1 = S.1 then
 (if ¬ l1 = (-1 : Int32) then
 evk zcod none d zc_X11_fill 44 [(0, .ref l0), (1, .int l1)] [] M1
 else
 if kK M1.1 l0 = 11 then
 (if kK M1.1 (kR M1.1 l0 11) = 2 then
 (bI (evM zcod d 97 [.ref (kR M1.1 l0 11)] M1) fun x2 M2 =>
 if M2.1.1 = M1.1.1 then
 (evk zcod none d zc_X11_fill 52 [] [.int x2] M2) else none) else none) else none) else none) else none) else none := by
  have h := R_X11_fill_22 d S I L l0 l1
  simp only [cvN] at h
  exact h
set_option maxRecDepth 20000 in
set_option maxHeartbeats 4000000 in
theorem B_X11_fill_44 (d : Nat) (S : mS) (I : mI) (L : mJ) (l0 : Nat) (l1 : Int32) :
  evk zcod none d zc_X11_fill 44 [(0, .ref l0), (1, .int l1)] [] (S, I, L) =
  if kK S l0 = 11 then
 (if kK S (kR S l0 11) = 2 then
 (bI (evM zcod d 98 [.ref (kR S l0 11), .int l1] (S, I, L)) fun x1 M1 =>
 if M1.1.1 = S.1 then
 (evk zcod none d zc_X11_fill 52 [] [.int x1] M1) else none) else none) else none :=
  (blk_ok zcod none d zc_X11_fill [(45, .getfield 85, 48, [11, 11, 2, 479, 0], none), (48, .iload_n 1, 49, [], none), (49, .invokevirtual 247, 52, [98, 1, 1, 2, 558, 559, 560, 386], none)] (44, .aload_n 0, 45, [], some [0, 1]) (by decide +kernel) _ _ _).trans rfl
set_option maxRecDepth 20000 in
set_option maxHeartbeats 4000000 in
theorem B_X11_fill_52 (d : Nat) (S : mS) (I : mI) (L : mJ) (s0 : Int32) :
  evk zcod none d zc_X11_fill 52 [] [.int s0] (S, I, L) =
  some (some (.int s0), (S, I, L)) :=
  (blk_ok zcod none d zc_X11_fill [] (52, .ireturn, 53, [0], some []) (by decide +kernel) _ _ _).trans rfl
theorem E_X11_fewest (d : Nat) (M : zM) (l0 : Nat) : evM zcod (d + 1) 133 [.ref l0] M = evk zcod none d zc_X11_fewest 0 [(0, .ref l0)] [] M := evM_eq zcod d 133 _ M (Nat.le_of_ble_eq_true rfl)
set_option maxRecDepth 20000 in
set_option maxHeartbeats 4000000 in
theorem B_X11_fewest_0 (d : Nat) (S : mS) (I : mI) (L : mJ) (l0 : Nat) :
  evk zcod none d zc_X11_fewest 0 [(0, .ref l0)] [] (S, I, L) =
  if kK S l0 = 11 then
 (if kK S (kR S l0 6) = 8 then
 (if kK S (kR S (kR S l0 6) 2) = 9 then
 (bI (evM zcod d 1 [.ref (kR S (kR S l0 6) 2)] (S, I, L)) fun x1 M1 =>
 if M1.1.1 = S.1 then
 (if kK M1.1 l0 = 11 then
 (if kK M1.1 (kR M1.1 l0 11) = 2 then
 (bV (evM zcod d 100 [.ref (kR M1.1 l0 11)] M1) fun M2 =>
 if M2.1.1 = M1.1.1 then
 (evk zcod none d zc_X11_fewest 28 [(0, .ref l0), (1, .int ((nI 1) <<< (x1 &&& nI 31))), (2, .int (nI 0)), (3, .int (nI 6)), (4, .int (nI 0))] [] M2) else none) else none) else none) else none) else none) else none) else none :=
  (blk_ok zcod none d zc_X11_fewest [(1, .aload_n 0, 2, [], none), (2, .getfield 42, 5, [11, 6, 2, 457, 0], none), (5, .getfield 147, 8, [8, 2, 2, 511, 1], none), (8, .invokevirtual 251, 11, [1, 0, 1, 9, 561, 52, 53, 11], none), (11, .ishl, 12, [], none), (12, .istore_n 1, 13, [], none), (13, .aload_n 0, 14, [], none), (14, .getfield 85, 17, [11, 11, 2, 479, 0], none), (17, .invokevirtual 254, 20, [100, 0, 0, 2, 562, 563, 564, 386], none), (20, .iconst 0, 21, [], none), (21, .istore_n 2, 22, [], none), (22, .bipush 6, 24, [], none), (24, .istore_n 3, 25, [], none), (25, .iconst 0, 26, [], none), (26, .istore 4, 28, [], none)] (0, .iconst 1, 1, [], none) (by decide +kernel) _ _ _).trans rfl
set_option maxRecDepth 20000 in
set_option maxHeartbeats 4000000 in
theorem B_X11_fewest_28 (d : Nat) (S : mS) (I : mI) (L : mJ) (l0 : Nat) (l1 : Int32) (l2 : Int32) (l3 : Int32) (l4 : Int32) :
  evk zcod none d zc_X11_fewest 28 [(0, .ref l0), (1, .int l1), (2, .int l2), (3, .int l3), (4, .int l4)] [] (S, I, L) =
  if l1 ≤ l4 then
 evk zcod none d zc_X11_fewest 71 [(2, .int l2)] [] (S, I, L)
 else
 bI (evM zcod d 277 [.int l4] (S, I, L)) fun x1 M1 =>
 if M1.1.1 = S.1 then
 (if l3 ≤ x1 then
 evk zcod none d zc_X11_fewest 65 [(0, .ref l0), (1, .int l1), (2, .int l2), (3, .int l3), (4, .int l4)] [] M1
 else
 if kK M1.1 l0 = 11 then
 (if kK M1.1 (kR M1.1 l0 11) = 2 then
 (bI (evM zcod d 102 [.ref (kR M1.1 l0 11), .int l4] M1) fun x2 M2 =>
 if M2.1.1 = M1.1.1 then
 (if x2 = (nI 0) then
 evk zcod none d zc_X11_fewest 65 [(0, .ref l0), (1, .int l1), (2, .int l2), (3, .int l3), (4, .int l4)] [] M2
 else
 evk zcod none d zc_X11_fewest 65 [(0, .ref l0), (1, .int l1), (2, .int l4), (3, .int x1), (4, .int l4)] [] M2) else none) else none) else none) else none :=
  (blk_ok zcod none d zc_X11_fewest [(30, .iload_n 1, 31, [], none), (31, .if_icmp .ge 40, 34, [71], none), (34, .iload 4, 36, [], none), (36, .invokestatic 257, 39, [277, 1, 1, 0, 565, 62, 63], none), (39, .istore 5, 41, [], none), (41, .iload 5, 43, [], none), (43, .iload_n 3, 44, [], none), (44, .if_icmp .ge 21, 47, [65], none), (47, .aload_n 0, 48, [], none), (48, .getfield 85, 51, [11, 11, 2, 479, 0], none), (51, .iload 4, 53, [], none), (53, .invokevirtual 262, 56, [102, 1, 1, 2, 566, 567, 568, 386], none), (56, .ifCond .eq 9, 59, [65], none), (59, .iload 4, 61, [], none), (61, .istore_n 2, 62, [], none), (62, .iload 5, 64, [], none), (64, .istore_n 3, 65, [], none)] (28, .iload 4, 30, [], some [0, 1, 2, 3, 4]) (by decide +kernel) _ _ _).trans rfl
set_option maxRecDepth 20000 in
set_option maxHeartbeats 4000000 in
theorem B_X11_fewest_65 (d : Nat) (S : mS) (I : mI) (L : mJ) (l0 : Nat) (l1 : Int32) (l2 : Int32) (l3 : Int32) (l4 : Int32) :
  evk zcod none d zc_X11_fewest 65 [(0, .ref l0), (1, .int l1), (2, .int l2), (3, .int l3), (4, .int l4)] [] (S, I, L) =
  evk zcod none d zc_X11_fewest 28 [(0, .ref l0), (1, .int l1), (2, .int l2), (3, .int l3), (4, .int (l4 + (nI 1)))] [] (S, I, L) :=
  (blk_ok zcod none d zc_X11_fewest [(68, .goto (-40), 71, [28], none)] (65, .iinc 4 1, 68, [], some [0, 1, 2, 3, 4]) (by decide +kernel) _ _ _).trans rfl
set_option maxRecDepth 20000 in
set_option maxHeartbeats 4000000 in
theorem B_X11_fewest_71 (d : Nat) (S : mS) (I : mI) (L : mJ) (l2 : Int32) :
  evk zcod none d zc_X11_fewest 71 [(2, .int l2)] [] (S, I, L) =
  some (some (.int l2), (S, I, L)) :=
  (blk_ok zcod none d zc_X11_fewest [(72, .ireturn, 73, [0], none)] (71, .iload_n 2, 72, [], some [2]) (by decide +kernel) _ _ _).trans rfl
theorem E_X11_waits (d : Nat) (M : zM) (l0 : Nat) (l1 : Int32) (l2 : Int32) (l3 : Int32) : evM zcod (d + 1) 134 [.ref l0, .int l1, .int l2, .int l3] M = evk zcod none d zc_X11_waits 0 [(0, .ref l0), (1, .int l1), (2, .int l2), (3, .int l3)] [] M := evM_eq zcod d 134 _ M (Nat.le_of_ble_eq_true rfl)
set_option maxRecDepth 20000 in
set_option maxHeartbeats 4000000 in
theorem B_X11_waits_0 (d : Nat) (S : mS) (I : mI) (L : mJ) (l0 : Nat) (l1 : Int32) (l2 : Int32) (l3 : Int32) :
  evk zcod none d zc_X11_waits 0 [(0, .ref l0), (1, .int l1), (2, .int l2), (3, .int l3)] [] (S, I, L) =
  if kK S l0 = 11 then
 (if kK S (kR S l0 6) = 8 then
 (bI (evM zcod d 27 [.ref (kR S l0 6), .int l1, .int l2] (S, I, L)) fun x1 M1 =>
 if M1.1.1 = S.1 then
 (if x1 = (nI 0) then
 evk zcod none d zc_X11_waits 21 [] [] M1
 else
 bI (evM zcod d 145 [.int l3, .int (nI 0), .int (nI 1)] M1) fun x2 M2 =>
 if M2.1.1 = M1.1.1 then
 (if ¬ x2 = (nI 0) then
 evk zcod none d zc_X11_waits 24 [(0, .ref l0), (1, .int l1), (2, .int l2), (3, .int l3)] [] M2
 else
 evk zcod none d zc_X11_waits 21 [] [] M2) else none) else none) else none) else none :=
  (blk_ok zcod none d zc_X11_waits [(1, .getfield 42, 4, [11, 6, 2, 457, 0], none), (4, .iload_n 1, 5, [], none), (5, .iload_n 2, 6, [], none), (6, .invokevirtual 180, 9, [27, 2, 1, 8, 523, 381, 382, 60], none), (9, .ifCond .eq 12, 12, [21], none), (12, .iload_n 3, 13, [], none), (13, .iconst 0, 14, [], none), (14, .iconst 1, 15, [], none), (15, .invokestatic 109, 18, [145, 3, 1, 0, 491, 221, 222], none), (18, .ifCond .ne 6, 21, [24], none)] (0, .aload_n 0, 1, [], none) (by decide +kernel) _ _ _).trans rfl
set_option maxRecDepth 20000 in
set_option maxHeartbeats 4000000 in
theorem B_X11_waits_21 (d : Nat) (S : mS) (I : mI) (L : mJ)  :
  evk zcod none d zc_X11_waits 21 [] [] (S, I, L) =
  some (some (.int (Int32.ofNat 4294867296)), (S, I, L)) :=
  (blk_ok zcod none d zc_X11_waits [(23, .ireturn, 24, [0], none)] (21, .ldc 240, 23, [0, 4294867296, 551], some []) (by decide +kernel) _ _ _).trans rfl
set_option maxRecDepth 20000 in
set_option maxHeartbeats 4000000 in
theorem B_X11_waits_24 (d : Nat) (S : mS) (I : mI) (L : mJ) (l0 : Nat) (l1 : Int32) (l2 : Int32) (l3 : Int32) :
  evk zcod none d zc_X11_waits 24 [(0, .ref l0), (1, .int l1), (2, .int l2), (3, .int l3)] [] (S, I, L) =
  if kK S l0 = 11 then
 (bI (evM zcod d 150 [.ref l0, .int l1, .int l2, .int (nI 0)] (S, I, L)) fun x1 M1 =>
 if M1.1.1 = S.1 then
 (evk zcod none d zc_X11_waits 39 [(0, .ref l0), (1, .int l1), (2, .int l2), (3, .int l3), (4, .int (nI 0)), (5, .int x1), (6, .int (nI 1))] [] M1) else none) else none :=
  (blk_ok zcod none d zc_X11_waits [(25, .istore 4, 27, [], none), (27, .aload_n 0, 28, [], none), (28, .iload_n 1, 29, [], none), (29, .iload_n 2, 30, [], none), (30, .iconst 0, 31, [], none), (31, .invokevirtual 265, 34, [150, 3, 1, 11, 569, 570, 571, 222], none), (34, .istore 5, 36, [], none), (36, .iconst 1, 37, [], none), (37, .istore 6, 39, [], none)] (24, .iconst 0, 25, [], some [0, 1, 2, 3]) (by decide +kernel) _ _ _).trans rfl
set_option maxRecDepth 20000 in
set_option maxHeartbeats 4000000 in
theorem B_X11_waits_39 (d : Nat) (S : mS) (I : mI) (L : mJ) (l0 : Nat) (l1 : Int32) (l2 : Int32) (l3 : Int32) (l4 : Int32) (l5 : Int32) (l6 : Int32) :
  evk zcod none d zc_X11_waits 39 [(0, .ref l0), (1, .int l1), (2, .int l2), (3, .int l3), (4, .int l4), (5, .int l5), (6, .int l6)] [] (S, I, L) =
  if (nI 24) < l6 then
 evk zcod none d zc_X11_waits 77 [(3, .int l3), (4, .int l4), (5, .int l5)] [] (S, I, L)
 else
 if kK S l0 = 11 then
 (bI (evM zcod d 150 [.ref l0, .int l1, .int l2, .int l6] (S, I, L)) fun x1 M1 =>
 if M1.1.1 = S.1 then
 (if x1 ≤ l5 then
 evk zcod none d zc_X11_waits 71 [(0, .ref l0), (1, .int l1), (2, .int l2), (3, .int l3), (4, .int l4), (5, .int l5), (6, .int l6)] [] M1
 else
 evk zcod none d zc_X11_waits 71 [(0, .ref l0), (1, .int l1), (2, .int l2), (3, .int l3), (4, .int l6), (5, .int x1), (6, .int l6)] [] M1) else none) else none :=
  (blk_ok zcod none d zc_X11_waits [(41, .bipush 24, 43, [], none), (43, .if_icmp .gt 34, 46, [77], none), (46, .aload_n 0, 47, [], none), (47, .iload_n 1, 48, [], none), (48, .iload_n 2, 49, [], none), (49, .iload 6, 51, [], none), (51, .invokevirtual 265, 54, [150, 3, 1, 11, 569, 570, 571, 222], none), (54, .istore 7, 56, [], none), (56, .iload 7, 58, [], none), (58, .iload 5, 60, [], none), (60, .if_icmp .le 11, 63, [71], none), (63, .iload 6, 65, [], none), (65, .istore 4, 67, [], none), (67, .iload 7, 69, [], none), (69, .istore 5, 71, [], none)] (39, .iload 6, 41, [], some [0, 1, 2, 3, 4, 5, 6]) (by decide +kernel) _ _ _).trans rfl
set_option maxRecDepth 20000 in
set_option maxHeartbeats 4000000 in
theorem B_X11_waits_71 (d : Nat) (S : mS) (I : mI) (L : mJ) (l0 : Nat) (l1 : Int32) (l2 : Int32) (l3 : Int32) (l4 : Int32) (l5 : Int32) (l6 : Int32) :
  evk zcod none d zc_X11_waits 71 [(0, .ref l0), (1, .int l1), (2, .int l2), (3, .int l3), (4, .int l4), (5, .int l5), (6, .int l6)] [] (S, I, L) =
  evk zcod none d zc_X11_waits 39 [(0, .ref l0), (1, .int l1), (2, .int l2), (3, .int l3), (4, .int l4), (5, .int l5), (6, .int (l6 + (nI 1)))] [] (S, I, L) :=
  (blk_ok zcod none d zc_X11_waits [(74, .goto (-35), 77, [39], none)] (71, .iinc 6 1, 74, [], some [0, 1, 2, 3, 4, 5, 6]) (by decide +kernel) _ _ _).trans rfl
set_option maxRecDepth 20000 in
set_option maxHeartbeats 4000000 in
theorem B_X11_waits_77 (d : Nat) (S : mS) (I : mI) (L : mJ) (l3 : Int32) (l4 : Int32) (l5 : Int32) :
  evk zcod none d zc_X11_waits 77 [(3, .int l3), (4, .int l4), (5, .int l5)] [] (S, I, L) =
  if ¬ l3 = (nI 0) then
 evk zcod none d zc_X11_waits 86 [(5, .int l5)] [] (S, I, L)
 else
 evk zcod none d zc_X11_waits 88 [] [.int l4] (S, I, L) :=
  (blk_ok zcod none d zc_X11_waits [(78, .ifCond .ne 8, 81, [86], none), (81, .iload 4, 83, [], none), (83, .goto 5, 86, [88], none)] (77, .iload_n 3, 78, [], some [3, 4, 5]) (by decide +kernel) _ _ _).trans rfl
set_option maxRecDepth 20000 in
set_option maxHeartbeats 4000000 in
theorem B_X11_waits_86 (d : Nat) (S : mS) (I : mI) (L : mJ) (l5 : Int32) :
  evk zcod none d zc_X11_waits 86 [(5, .int l5)] [] (S, I, L) =
  evk zcod none d zc_X11_waits 88 [] [.int l5] (S, I, L) :=
  (blk_ok zcod none d zc_X11_waits [] (86, .iload 5, 88, [], some [5]) (by decide +kernel) _ _ _).trans rfl
set_option maxRecDepth 20000 in
set_option maxHeartbeats 4000000 in
theorem B_X11_waits_88 (d : Nat) (S : mS) (I : mI) (L : mJ) (s0 : Int32) :
  evk zcod none d zc_X11_waits 88 [] [.int s0] (S, I, L) =
  some (some (.int s0), (S, I, L)) :=
  (blk_ok zcod none d zc_X11_waits [] (88, .ireturn, 89, [0], some []) (by decide +kernel) _ _ _).trans rfl
theorem E_X11_then (d : Nat) (M : zM) (l0 : Nat) (l1 : Int32) (l2 : Int32) (l3 : Int32) : evM zcod (d + 1) 135 [.ref l0, .int l1, .int l2, .int l3] M = evk zcod none d zc_X11_then 0 [(0, .ref l0), (1, .int l1), (2, .int l2), (3, .int l3)] [] M := evM_eq zcod d 135 _ M (Nat.le_of_ble_eq_true rfl)
set_option maxRecDepth 20000 in
set_option maxHeartbeats 4000000 in
theorem B_X11_then_0 (d : Nat) (S : mS) (I : mI) (L : mJ) (l0 : Nat) (l1 : Int32) (l2 : Int32) (l3 : Int32) :
  evk zcod none d zc_X11_then 0 [(0, .ref l0), (1, .int l1), (2, .int l2), (3, .int l3)] [] (S, I, L) =
  if kK S l0 = 11 then
 (if kK S (kR S l0 6) = 8 then
 (if kK S (kR S (kR S l0 6) 0) = 9 then
 (bI (evM zcod d 2 [.ref (kR S (kR S l0 6) 0), .int l1] (S, I, L)) fun x1 M1 =>
 if M1.1.1 = S.1 then
 (if x1 = (nI 0) then
 evk zcod none d zc_X11_then 33 [] [] M1
 else
 bI (evM zcod d 145 [.int l2, .int (nI 0), .int (nI 72)] M1) fun x2 M2 =>
 if M2.1.1 = M1.1.1 then
 (if x2 = (nI 0) then
 evk zcod none d zc_X11_then 33 [] [] M2
 else
 bI (evM zcod d 145 [.int l3, .int (nI 0), .int (nI 2)] M2) fun x3 M3 =>
 if M3.1.1 = M2.1.1 then
 (if ¬ x3 = (nI 0) then
 evk zcod none d zc_X11_then 35 [(0, .ref l0), (1, .int l1), (2, .int l2), (3, .int l3)] [] M3
 else
 evk zcod none d zc_X11_then 33 [] [] M3) else none) else none) else none) else none) else none) else none :=
  (blk_ok zcod none d zc_X11_then [(1, .getfield 42, 4, [11, 6, 2, 457, 0], none), (4, .getfield 133, 7, [8, 0, 2, 507, 1], none), (7, .iload_n 1, 8, [], none), (8, .invokevirtual 143, 11, [2, 1, 1, 9, 510, 65, 66, 11], none), (11, .ifCond .eq 22, 14, [33], none), (14, .iload_n 2, 15, [], none), (15, .iconst 0, 16, [], none), (16, .bipush 72, 18, [], none), (18, .invokestatic 109, 21, [145, 3, 1, 0, 491, 221, 222], none), (21, .ifCond .eq 12, 24, [33], none), (24, .iload_n 3, 25, [], none), (25, .iconst 0, 26, [], none), (26, .iconst 2, 27, [], none), (27, .invokestatic 109, 30, [145, 3, 1, 0, 491, 221, 222], none), (30, .ifCond .ne 5, 33, [35], none)] (0, .aload_n 0, 1, [], none) (by decide +kernel) _ _ _).trans rfl
set_option maxRecDepth 20000 in
set_option maxHeartbeats 4000000 in
theorem R_X11_then_33 (d : Nat) (S : mS) (I : mI) (L : mJ)  :
  evk zcod none d zc_X11_then 33 [] [] (S, I, L) =
  some (some (.int (Int32.ofInt (-1))), (S, I, L)) :=
  (blk_ok zcod none d zc_X11_then [(34, .ireturn, 35, [0], none)] (33, .iconst (-1), 34, [], some []) (by decide +kernel) _ _ _).trans rfl
theorem B_X11_then_33 (d : Nat) (S : mS) (I : mI) (L : mJ)  :
  evk zcod none d zc_X11_then 33 [] [] (S, I, L) =
  some (some (.int (-1 : Int32)), (S, I, L)) := by
  have h := R_X11_then_33 d S I L 
  simp only [cvN] at h
  exact h
set_option maxRecDepth 20000 in
set_option maxHeartbeats 4000000 in
theorem B_X11_then_35 (d : Nat) (S : mS) (I : mI) (L : mJ) (l0 : Nat) (l1 : Int32) (l2 : Int32) (l3 : Int32) :
  evk zcod none d zc_X11_then 35 [(0, .ref l0), (1, .int l1), (2, .int l2), (3, .int l3)] [] (S, I, L) =
  if kK S l0 = 11 then
 (if kK S (kR S l0 3) = 5 then
 (if kK S l0 = 11 then
 (bV (evM zcod d 151 [.ref l0, .int l2, .int (I (kR S l0 3) 4)] (S, I, L)) fun M1 =>
 if M1.1.1 = S.1 then
 (if ¬ l3 = (nI 0) then
 evk zcod none d zc_X11_then 64 [(0, .ref l0), (1, .int l1), (3, .int l3)] [] M1
 else
 if kK M1.1 l0 = 11 then
 (if kK M1.1 (kR M1.1 l0 7) = 8 then
 (if kK M1.1 (kR M1.1 (kR M1.1 l0 7) 0) = 9 then
 (bI (evM zcod d 5 [.ref (kR M1.1 (kR M1.1 l0 7) 0), .int l1, .int (nI 3)] M1) fun x2 M2 =>
 if M2.1.1 = M1.1.1 then
 (some (some (.int x2), M2)) else none) else none) else none) else none) else none) else none) else none) else none :=
  (blk_ok zcod none d zc_X11_then [(36, .iload_n 2, 37, [], none), (37, .aload_n 0, 38, [], none), (38, .getfield 23, 41, [11, 3, 2, 448, 0], none), (41, .getfield 198, 44, [5, 4, 0, 533, 1], none), (44, .invokevirtual 269, 47, [151, 2, 0, 11, 572, 573, 574, 222], none), (47, .iload_n 3, 48, [], none), (48, .ifCond .ne 16, 51, [64], none), (51, .aload_n 0, 52, [], none), (52, .getfield 46, 55, [11, 7, 2, 458, 0], none), (55, .getfield 133, 58, [8, 0, 2, 507, 1], none), (58, .iload_n 1, 59, [], none), (59, .iconst 3, 60, [], none), (60, .invokevirtual 136, 63, [5, 2, 1, 9, 508, 55, 56, 11], none), (63, .ireturn, 64, [0], none)] (35, .aload_n 0, 36, [], some [0, 1, 2, 3]) (by decide +kernel) _ _ _).trans rfl
set_option maxRecDepth 20000 in
set_option maxHeartbeats 4000000 in
theorem B_X11_then_64 (d : Nat) (S : mS) (I : mI) (L : mJ) (l0 : Nat) (l1 : Int32) (l3 : Int32) :
  evk zcod none d zc_X11_then 64 [(0, .ref l0), (1, .int l1), (3, .int l3)] [] (S, I, L) =
  if kK S l0 = 11 then
 (if kK S (kR S l0 7) = 8 then
 (if ¬ l3 = (nI 1) then
 evk zcod none d zc_X11_then 81 [] [.int l1, .ref (kR S (kR S l0 7) 0)] (S, I, L)
 else
 evk zcod none d zc_X11_then 82 [] [.int (nI 0), .int l1, .ref (kR S (kR S l0 7) 0)] (S, I, L)) else none) else none :=
  (blk_ok zcod none d zc_X11_then [(65, .getfield 46, 68, [11, 7, 2, 458, 0], none), (68, .getfield 133, 71, [8, 0, 2, 507, 1], none), (71, .iload_n 1, 72, [], none), (72, .iload_n 3, 73, [], none), (73, .iconst 1, 74, [], none), (74, .if_icmp .ne 7, 77, [81], none), (77, .iconst 0, 78, [], none), (78, .goto 4, 81, [82], none)] (64, .aload_n 0, 65, [], some [0, 1, 3]) (by decide +kernel) _ _ _).trans rfl
set_option maxRecDepth 20000 in
set_option maxHeartbeats 4000000 in
theorem B_X11_then_81 (d : Nat) (S : mS) (I : mI) (L : mJ) (s0 : Nat) (s1 : Int32) :
  evk zcod none d zc_X11_then 81 [] [.int s1, .ref s0] (S, I, L) =
  evk zcod none d zc_X11_then 82 [] [.int (nI 4), .int s1, .ref s0] (S, I, L) :=
  (blk_ok zcod none d zc_X11_then [] (81, .iconst 4, 82, [], some []) (by decide +kernel) _ _ _).trans rfl
set_option maxRecDepth 20000 in
set_option maxHeartbeats 4000000 in
theorem B_X11_then_82 (d : Nat) (S : mS) (I : mI) (L : mJ) (s0 : Nat) (s1 : Int32) (s2 : Int32) :
  evk zcod none d zc_X11_then 82 [] [.int s2, .int s1, .ref s0] (S, I, L) =
  if kK S s0 = 9 then
 (bI (evM zcod d 5 [.ref s0, .int s1, .int s2] (S, I, L)) fun x1 M1 =>
 if M1.1.1 = S.1 then
 (some (some (.int x1), M1)) else none) else none :=
  (blk_ok zcod none d zc_X11_then [(85, .ireturn, 86, [0], none)] (82, .invokevirtual 136, 85, [5, 2, 1, 9, 508, 55, 56, 11], some []) (by decide +kernel) _ _ _).trans rfl
theorem E_X11_earns (d : Nat) (M : zM) (l0 : Nat) (l1 : Int32) : evM zcod (d + 1) 136 [.ref l0, .int l1] M = evk zcod none d zc_X11_earns 0 [(0, .ref l0), (1, .int l1)] [] M := evM_eq zcod d 136 _ M (Nat.le_of_ble_eq_true rfl)
set_option maxRecDepth 20000 in
set_option maxHeartbeats 4000000 in
theorem R_X11_earns_0 (d : Nat) (S : mS) (I : mI) (L : mJ) (l0 : Nat) (l1 : Int32) :
  evk zcod none d zc_X11_earns 0 [(0, .ref l0), (1, .int l1)] [] (S, I, L) =
  bI (evM zcod d 145 [.int l1, .int (nI 0), .int (nI 72)] (S, I, L)) fun x1 M1 =>
 if M1.1.1 = S.1 then
 (if ¬ x1 = (nI 0) then
 evk zcod none d zc_X11_earns 12 [(0, .ref l0), (1, .int l1)] [] M1
 else
 some (some (.int (Int32.ofInt (-1))), M1)) else none :=
  (blk_ok zcod none d zc_X11_earns [(1, .iconst 0, 2, [], none), (2, .bipush 72, 4, [], none), (4, .invokestatic 109, 7, [145, 3, 1, 0, 491, 221, 222], none), (7, .ifCond .ne 5, 10, [12], none), (10, .iconst (-1), 11, [], none), (11, .ireturn, 12, [0], none)] (0, .iload_n 1, 1, [], none) (by decide +kernel) _ _ _).trans rfl
theorem B_X11_earns_0 (d : Nat) (S : mS) (I : mI) (L : mJ) (l0 : Nat) (l1 : Int32) :
  evk zcod none d zc_X11_earns 0 [(0, .ref l0), (1, .int l1)] [] (S, I, L) =
  bI (evM zcod d 145 [.int l1, .int (nI 0), .int (nI 72)] (S, I, L)) fun x1 M1 =>
 if M1.1.1 = S.1 then
 (if ¬ x1 = (nI 0) then
 evk zcod none d zc_X11_earns 12 [(0, .ref l0), (1, .int l1)] [] M1
 else
 some (some (.int (-1 : Int32)), M1)) else none := by
  have h := R_X11_earns_0 d S I L l0 l1
  simp only [cvN] at h
  exact h
set_option maxRecDepth 20000 in
set_option maxHeartbeats 4000000 in
theorem B_X11_earns_12 (d : Nat) (S : mS) (I : mI) (L : mJ) (l0 : Nat) (l1 : Int32) :
  evk zcod none d zc_X11_earns 12 [(0, .ref l0), (1, .int l1)] [] (S, I, L) =
  if kK S l0 = 11 then
 (if kK S (kR S l0 3) = 5 then
 (if kK S l0 = 11 then
 (bV (evM zcod d 151 [.ref l0, .int l1, .int (I (kR S l0 3) 4)] (S, I, L)) fun M1 =>
 if M1.1.1 = S.1 then
 (if kK M1.1 l0 = 11 then
 (if kK M1.1 (kR M1.1 l0 7) = 8 then
 (if kK M1.1 l0 = 11 then
 (if kK M1.1 (kR M1.1 l0 6) = 8 then
 (some (some (.int ((M1.2.1 (kR M1.1 l0 7) 4) - (M1.2.1 (kR M1.1 l0 6) 4))), M1)) else none) else none) else none) else none) else none) else none) else none) else none :=
  (blk_ok zcod none d zc_X11_earns [(13, .iload_n 1, 14, [], none), (14, .aload_n 0, 15, [], none), (15, .getfield 23, 18, [11, 3, 2, 448, 0], none), (18, .getfield 198, 21, [5, 4, 0, 533, 1], none), (21, .invokevirtual 269, 24, [151, 2, 0, 11, 572, 573, 574, 222], none), (24, .aload_n 0, 25, [], none), (25, .getfield 46, 28, [11, 7, 2, 458, 0], none), (28, .getfield 272, 31, [8, 4, 0, 575, 1], none), (31, .aload_n 0, 32, [], none), (32, .getfield 42, 35, [11, 6, 2, 457, 0], none), (35, .getfield 272, 38, [8, 4, 0, 575, 1], none), (38, .isub, 39, [], none), (39, .ireturn, 40, [0], none)] (12, .aload_n 0, 13, [], some [0, 1]) (by decide +kernel) _ _ _).trans rfl
theorem E_X11_year (d : Nat) (M : zM) (l0 : Nat) (l1 : Int32) (l2 : Int32) (l3 : Int32) : evM zcod (d + 1) 137 [.ref l0, .int l1, .int l2, .int l3] M = evk zcod none d zc_X11_year 0 [(0, .ref l0), (1, .int l1), (2, .int l2), (3, .int l3)] [] M := evM_eq zcod d 137 _ M (Nat.le_of_ble_eq_true rfl)
set_option maxRecDepth 20000 in
set_option maxHeartbeats 4000000 in
theorem B_X11_year_0 (d : Nat) (S : mS) (I : mI) (L : mJ) (l0 : Nat) (l1 : Int32) (l2 : Int32) (l3 : Int32) :
  evk zcod none d zc_X11_year 0 [(0, .ref l0), (1, .int l1), (2, .int l2), (3, .int l3)] [] (S, I, L) =
  if kK S l0 = 11 then
 (if kK S (kR S l0 6) = 8 then
 (if kK S (kR S (kR S l0 6) 0) = 9 then
 (bI (evM zcod d 2 [.ref (kR S (kR S l0 6) 0), .int l1] (S, I, L)) fun x1 M1 =>
 if M1.1.1 = S.1 then
 (if x1 = (nI 0) then
 evk zcod none d zc_X11_year 34 [] [] M1
 else
 bI (evM zcod d 145 [.int l2, .int (nI 0), .int (nI 72)] M1) fun x2 M2 =>
 if M2.1.1 = M1.1.1 then
 (if x2 = (nI 0) then
 evk zcod none d zc_X11_year 34 [] [] M2
 else
 bI (evM zcod d 145 [.int l3, .int (nI 1), .int (nI 20)] M2) fun x3 M3 =>
 if M3.1.1 = M2.1.1 then
 (if ¬ x3 = (nI 0) then
 evk zcod none d zc_X11_year 36 [(0, .ref l0), (1, .int l1), (2, .int l2), (3, .int l3)] [] M3
 else
 evk zcod none d zc_X11_year 34 [] [] M3) else none) else none) else none) else none) else none) else none :=
  (blk_ok zcod none d zc_X11_year [(1, .getfield 42, 4, [11, 6, 2, 457, 0], none), (4, .getfield 133, 7, [8, 0, 2, 507, 1], none), (7, .iload_n 1, 8, [], none), (8, .invokevirtual 143, 11, [2, 1, 1, 9, 510, 65, 66, 11], none), (11, .ifCond .eq 23, 14, [34], none), (14, .iload_n 2, 15, [], none), (15, .iconst 0, 16, [], none), (16, .bipush 72, 18, [], none), (18, .invokestatic 109, 21, [145, 3, 1, 0, 491, 221, 222], none), (21, .ifCond .eq 13, 24, [34], none), (24, .iload_n 3, 25, [], none), (25, .iconst 1, 26, [], none), (26, .bipush 20, 28, [], none), (28, .invokestatic 109, 31, [145, 3, 1, 0, 491, 221, 222], none), (31, .ifCond .ne 5, 34, [36], none)] (0, .aload_n 0, 1, [], none) (by decide +kernel) _ _ _).trans rfl
set_option maxRecDepth 20000 in
set_option maxHeartbeats 4000000 in
theorem R_X11_year_34 (d : Nat) (S : mS) (I : mI) (L : mJ)  :
  evk zcod none d zc_X11_year 34 [] [] (S, I, L) =
  some (some (.int (Int32.ofInt (-1))), (S, I, L)) :=
  (blk_ok zcod none d zc_X11_year [(35, .ireturn, 36, [0], none)] (34, .iconst (-1), 35, [], some []) (by decide +kernel) _ _ _).trans rfl
theorem B_X11_year_34 (d : Nat) (S : mS) (I : mI) (L : mJ)  :
  evk zcod none d zc_X11_year 34 [] [] (S, I, L) =
  some (some (.int (-1 : Int32)), (S, I, L)) := by
  have h := R_X11_year_34 d S I L 
  simp only [cvN] at h
  exact h
set_option maxRecDepth 20000 in
set_option maxHeartbeats 4000000 in
theorem B_X11_year_36 (d : Nat) (S : mS) (I : mI) (L : mJ) (l0 : Nat) (l1 : Int32) (l2 : Int32) (l3 : Int32) :
  evk zcod none d zc_X11_year 36 [(0, .ref l0), (1, .int l1), (2, .int l2), (3, .int l3)] [] (S, I, L) =
  evk zcod none d zc_X11_year 42 [(0, .ref l0), (1, .int l1), (2, .int l2), (3, .int l3), (4, .int (nI 0)), (5, .int (nI 0))] [] (S, I, L) :=
  (blk_ok zcod none d zc_X11_year [(37, .istore 4, 39, [], none), (39, .iconst 0, 40, [], none), (40, .istore 5, 42, [], none)] (36, .iconst 0, 37, [], some [0, 1, 2, 3]) (by decide +kernel) _ _ _).trans rfl
set_option maxRecDepth 20000 in
set_option maxHeartbeats 4000000 in
theorem B_X11_year_42 (d : Nat) (S : mS) (I : mI) (L : mJ) (l0 : Nat) (l1 : Int32) (l2 : Int32) (l3 : Int32) (l4 : Int32) (l5 : Int32) :
  evk zcod none d zc_X11_year 42 [(0, .ref l0), (1, .int l1), (2, .int l2), (3, .int l3), (4, .int l4), (5, .int l5)] [] (S, I, L) =
  if l3 ≤ l5 then
 evk zcod none d zc_X11_year 88 [(4, .int l4)] [] (S, I, L)
 else
 if kK S l0 = 11 then
 (if kK S (kR S l0 3) = 5 then
 (if kK S l0 = 11 then
 (bV (evM zcod d 151 [.ref l0, .int l2, .int ((I (kR S l0 3) 4) + l5)] (S, I, L)) fun M1 =>
 if M1.1.1 = S.1 then
 (if kK M1.1 l0 = 11 then
 (if kK M1.1 (kR M1.1 l0 7) = 8 then
 (if kK M1.1 (kR M1.1 (kR M1.1 l0 7) 0) = 9 then
 (bI (evM zcod d 5 [.ref (kR M1.1 (kR M1.1 l0 7) 0), .int l1, .int (nI 3)] M1) fun x2 M2 =>
 if M2.1.1 = M1.1.1 then
 (if ¬ x2 = (nI 2) then
 evk zcod none d zc_X11_year 82 [(0, .ref l0), (1, .int l1), (2, .int l2), (3, .int l3), (4, .int l4), (5, .int l5)] [] M2
 else
 evk zcod none d zc_X11_year 82 [(0, .ref l0), (1, .int l1), (2, .int l2), (3, .int l3), (4, .int (l4 + (nI 1))), (5, .int l5)] [] M2) else none) else none) else none) else none) else none) else none) else none) else none :=
  (blk_ok zcod none d zc_X11_year [(44, .iload_n 3, 45, [], none), (45, .if_icmp .ge 43, 48, [88], none), (48, .aload_n 0, 49, [], none), (49, .iload_n 2, 50, [], none), (50, .aload_n 0, 51, [], none), (51, .getfield 23, 54, [11, 3, 2, 448, 0], none), (54, .getfield 198, 57, [5, 4, 0, 533, 1], none), (57, .iload 5, 59, [], none), (59, .iadd, 60, [], none), (60, .invokevirtual 269, 63, [151, 2, 0, 11, 572, 573, 574, 222], none), (63, .aload_n 0, 64, [], none), (64, .getfield 46, 67, [11, 7, 2, 458, 0], none), (67, .getfield 133, 70, [8, 0, 2, 507, 1], none), (70, .iload_n 1, 71, [], none), (71, .iconst 3, 72, [], none), (72, .invokevirtual 136, 75, [5, 2, 1, 9, 508, 55, 56, 11], none), (75, .iconst 2, 76, [], none), (76, .if_icmp .ne 6, 79, [82], none), (79, .iinc 4 1, 82, [], none)] (42, .iload 5, 44, [], some [0, 1, 2, 3, 4, 5]) (by decide +kernel) _ _ _).trans rfl
set_option maxRecDepth 20000 in
set_option maxHeartbeats 4000000 in
theorem B_X11_year_82 (d : Nat) (S : mS) (I : mI) (L : mJ) (l0 : Nat) (l1 : Int32) (l2 : Int32) (l3 : Int32) (l4 : Int32) (l5 : Int32) :
  evk zcod none d zc_X11_year 82 [(0, .ref l0), (1, .int l1), (2, .int l2), (3, .int l3), (4, .int l4), (5, .int l5)] [] (S, I, L) =
  evk zcod none d zc_X11_year 42 [(0, .ref l0), (1, .int l1), (2, .int l2), (3, .int l3), (4, .int l4), (5, .int (l5 + (nI 1)))] [] (S, I, L) :=
  (blk_ok zcod none d zc_X11_year [(85, .goto (-43), 88, [42], none)] (82, .iinc 5 1, 85, [], some [0, 1, 2, 3, 4, 5]) (by decide +kernel) _ _ _).trans rfl
set_option maxRecDepth 20000 in
set_option maxHeartbeats 4000000 in
theorem B_X11_year_88 (d : Nat) (S : mS) (I : mI) (L : mJ) (l4 : Int32) :
  evk zcod none d zc_X11_year 88 [(4, .int l4)] [] (S, I, L) =
  some (some (.int l4), (S, I, L)) :=
  (blk_ok zcod none d zc_X11_year [(90, .ireturn, 91, [0], none)] (88, .iload 4, 90, [], some [4]) (by decide +kernel) _ _ _).trans rfl
theorem E_X11_tell (d : Nat) (M : zM) (l0 : Nat) (l1 : Int32) (l2 : Int32) (l3 : Int32) (l4 : Int32) (l5 : Int32) : evM zcod (d + 1) 138 [.ref l0, .int l1, .int l2, .int l3, .int l4, .int l5] M = evk zcod none d zc_X11_tell 0 [(0, .ref l0), (1, .int l1), (2, .int l2), (3, .int l3), (4, .int l4), (5, .int l5)] [] M := evM_eq zcod d 138 _ M (Nat.le_of_ble_eq_true rfl)
set_option maxRecDepth 20000 in
set_option maxHeartbeats 4000000 in
theorem B_X11_tell_0 (d : Nat) (S : mS) (I : mI) (L : mJ) (l0 : Nat) (l1 : Int32) (l2 : Int32) (l3 : Int32) (l4 : Int32) (l5 : Int32) :
  evk zcod none d zc_X11_tell 0 [(0, .ref l0), (1, .int l1), (2, .int l2), (3, .int l3), (4, .int l4), (5, .int l5)] [] (S, I, L) =
  bI (evM zcod d 145 [.int l1, .int (nI 1), .int (nI 9)] (S, I, L)) fun x1 M1 =>
 if M1.1.1 = S.1 then
 (if x1 = (nI 0) then
 evk zcod none d zc_X11_tell 56 [(0, .ref l0), (1, .int l1), (2, .int l2), (3, .int l3), (4, .int l4), (5, .int l5)] [] M1
 else
 bI (evM zcod d 145 [.int l2, .int (nI 1), .int (nI 9)] M1) fun x2 M2 =>
 if M2.1.1 = M1.1.1 then
 (if x2 = (nI 0) then
 evk zcod none d zc_X11_tell 56 [(0, .ref l0), (1, .int l1), (2, .int l2), (3, .int l3), (4, .int l4), (5, .int l5)] [] M2
 else
 bI (evM zcod d 145 [.int l3, .int (nI 0), .int (nI 19)] M2) fun x3 M3 =>
 if M3.1.1 = M2.1.1 then
 (if x3 = (nI 0) then
 evk zcod none d zc_X11_tell 56 [(0, .ref l0), (1, .int l1), (2, .int l2), (3, .int l3), (4, .int l4), (5, .int l5)] [] M3
 else
 bI (evM zcod d 145 [.int l4, .int (nI 1), .int (nI 9)] M3) fun x4 M4 =>
 if M4.1.1 = M3.1.1 then
 (if x4 = (nI 0) then
 evk zcod none d zc_X11_tell 56 [(0, .ref l0), (1, .int l1), (2, .int l2), (3, .int l3), (4, .int l4), (5, .int l5)] [] M4
 else
 evk zcod none d zc_X11_tell 41 [(0, .ref l0), (1, .int l1), (2, .int l2), (3, .int l3), (4, .int l4), (5, .int l5)] [] M4) else none) else none) else none) else none :=
  (blk_ok zcod none d zc_X11_tell [(1, .iconst 1, 2, [], none), (2, .bipush 9, 4, [], none), (4, .invokestatic 109, 7, [145, 3, 1, 0, 491, 221, 222], none), (7, .ifCond .eq 49, 10, [56], none), (10, .iload_n 2, 11, [], none), (11, .iconst 1, 12, [], none), (12, .bipush 9, 14, [], none), (14, .invokestatic 109, 17, [145, 3, 1, 0, 491, 221, 222], none), (17, .ifCond .eq 39, 20, [56], none), (20, .iload_n 3, 21, [], none), (21, .iconst 0, 22, [], none), (22, .bipush 19, 24, [], none), (24, .invokestatic 109, 27, [145, 3, 1, 0, 491, 221, 222], none), (27, .ifCond .eq 29, 30, [56], none), (30, .iload 4, 32, [], none), (32, .iconst 1, 33, [], none), (33, .bipush 9, 35, [], none), (35, .invokestatic 109, 38, [145, 3, 1, 0, 491, 221, 222], none), (38, .ifCond .eq 18, 41, [56], none)] (0, .iload_n 1, 1, [], none) (by decide +kernel) _ _ _).trans rfl
set_option maxRecDepth 20000 in
set_option maxHeartbeats 4000000 in
theorem B_X11_tell_41 (d : Nat) (S : mS) (I : mI) (L : mJ) (l0 : Nat) (l1 : Int32) (l2 : Int32) (l3 : Int32) (l4 : Int32) (l5 : Int32) :
  evk zcod none d zc_X11_tell 41 [(0, .ref l0), (1, .int l1), (2, .int l2), (3, .int l3), (4, .int l4), (5, .int l5)] [] (S, I, L) =
  bI (evM zcod d 145 [.int l5, .int (nI 0), .int (nI 19)] (S, I, L)) fun x1 M1 =>
 if M1.1.1 = S.1 then
 (if x1 = (nI 0) then
 evk zcod none d zc_X11_tell 56 [(0, .ref l0), (1, .int l1), (2, .int l2), (3, .int l3), (4, .int l4), (5, .int l5)] [] M1
 else
 evk zcod none d zc_X11_tell 57 [(0, .ref l0), (1, .int l1), (2, .int l2), (3, .int l3), (4, .int l4), (5, .int l5)] [.int (nI 1)] M1) else none :=
  (blk_ok zcod none d zc_X11_tell [(43, .iconst 0, 44, [], none), (44, .bipush 19, 46, [], none), (46, .invokestatic 109, 49, [145, 3, 1, 0, 491, 221, 222], none), (49, .ifCond .eq 7, 52, [56], none), (52, .iconst 1, 53, [], none), (53, .goto 4, 56, [57], none)] (41, .iload 5, 43, [], some [0, 1, 2, 3, 4, 5]) (by decide +kernel) _ _ _).trans rfl
set_option maxRecDepth 20000 in
set_option maxHeartbeats 4000000 in
theorem B_X11_tell_56 (d : Nat) (S : mS) (I : mI) (L : mJ) (l0 : Nat) (l1 : Int32) (l2 : Int32) (l3 : Int32) (l4 : Int32) (l5 : Int32) :
  evk zcod none d zc_X11_tell 56 [(0, .ref l0), (1, .int l1), (2, .int l2), (3, .int l3), (4, .int l4), (5, .int l5)] [] (S, I, L) =
  evk zcod none d zc_X11_tell 57 [(0, .ref l0), (1, .int l1), (2, .int l2), (3, .int l3), (4, .int l4), (5, .int l5)] [.int (nI 0)] (S, I, L) :=
  (blk_ok zcod none d zc_X11_tell [] (56, .iconst 0, 57, [], some [0, 1, 2, 3, 4, 5]) (by decide +kernel) _ _ _).trans rfl
set_option maxRecDepth 20000 in
set_option maxHeartbeats 4000000 in
theorem B_X11_tell_57 (d : Nat) (S : mS) (I : mI) (L : mJ) (l0 : Nat) (l1 : Int32) (l2 : Int32) (l3 : Int32) (l4 : Int32) (l5 : Int32) (s0 : Int32) :
  evk zcod none d zc_X11_tell 57 [(0, .ref l0), (1, .int l1), (2, .int l2), (3, .int l3), (4, .int l4), (5, .int l5)] [.int s0] (S, I, L) =
  if s0 = (nI 0) then
 evk zcod none d zc_X11_tell 74 [] [] (S, I, L)
 else
 if kK S l0 = 11 then
 (if kK S (kR S l0 13) = 9 then
 (bI (evM zcod d 3 [.ref (kR S l0 13)] (S, I, L)) fun x1 M1 =>
 if M1.1.1 = S.1 then
 (if x1 = (nI 0) then
 evk zcod none d zc_X11_tell 76 [(0, .ref l0), (1, .int l1), (2, .int l2), (3, .int l3), (4, .int l4), (5, .int l5)] [] M1
 else
 evk zcod none d zc_X11_tell 74 [] [] M1) else none) else none) else none :=
  (blk_ok zcod none d zc_X11_tell [(59, .iload 6, 61, [], none), (61, .ifCond .eq 13, 64, [74], none), (64, .aload_n 0, 65, [], none), (65, .getfield 101, 68, [11, 13, 2, 487, 0], none), (68, .invokevirtual 275, 71, [3, 0, 1, 9, 576, 9, 10, 11], none), (71, .ifCond .eq 5, 74, [76], none)] (57, .istore 6, 59, [], some [0, 1, 2, 3, 4, 5]) (by decide +kernel) _ _ _).trans rfl
set_option maxRecDepth 20000 in
set_option maxHeartbeats 4000000 in
theorem R_X11_tell_74 (d : Nat) (S : mS) (I : mI) (L : mJ)  :
  evk zcod none d zc_X11_tell 74 [] [] (S, I, L) =
  some (some (.int (Int32.ofInt (-1))), (S, I, L)) :=
  (blk_ok zcod none d zc_X11_tell [(75, .ireturn, 76, [0], none)] (74, .iconst (-1), 75, [], some []) (by decide +kernel) _ _ _).trans rfl
theorem B_X11_tell_74 (d : Nat) (S : mS) (I : mI) (L : mJ)  :
  evk zcod none d zc_X11_tell 74 [] [] (S, I, L) =
  some (some (.int (-1 : Int32)), (S, I, L)) := by
  have h := R_X11_tell_74 d S I L 
  simp only [cvN] at h
  exact h
set_option maxRecDepth 20000 in
set_option maxHeartbeats 4000000 in
theorem B_X11_tell_76 (d : Nat) (S : mS) (I : mI) (L : mJ) (l0 : Nat) (l1 : Int32) (l2 : Int32) (l3 : Int32) (l4 : Int32) (l5 : Int32) :
  evk zcod none d zc_X11_tell 76 [(0, .ref l0), (1, .int l1), (2, .int l2), (3, .int l3), (4, .int l4), (5, .int l5)] [] (S, I, L) =
  if kK S l0 = 11 then
 (if kK S (kR S l0 13) = 9 then
 (bI (evM zcod d 7 [.ref (kR S l0 13)] (S, I, L)) fun x1 M1 =>
 if M1.1.1 = S.1 then
 (if kK M1.1 l0 = 11 then
 (if kK M1.1 (kR M1.1 l0 13) = 9 then
 (bV (evM zcod d 6 [.ref (kR M1.1 l0 13), .int x1, .int (nI 0), .int l1] M1) fun M2 =>
 if M2.1.1 = M1.1.1 then
 (if kK M2.1 l0 = 11 then
 (if kK M2.1 (kR M2.1 l0 13) = 9 then
 (bV (evM zcod d 6 [.ref (kR M2.1 l0 13), .int x1, .int (nI 1), .int l2] M2) fun M3 =>
 if M3.1.1 = M2.1.1 then
 (if kK M3.1 l0 = 11 then
 (if kK M3.1 (kR M3.1 l0 13) = 9 then
 (bV (evM zcod d 6 [.ref (kR M3.1 l0 13), .int x1, .int (nI 2), .int l3] M3) fun M4 =>
 if M4.1.1 = M3.1.1 then
 (evk zcod none d zc_X11_tell 118 [(0, .ref l0), (4, .int l4), (5, .int l5), (7, .int x1)] [] M4) else none) else none) else none) else none) else none) else none) else none) else none) else none) else none) else none) else none :=
  (blk_ok zcod none d zc_X11_tell [(77, .getfield 101, 80, [11, 13, 2, 487, 0], none), (80, .invokevirtual 278, 83, [7, 0, 1, 9, 577, 212, 213, 11], none), (83, .istore 7, 85, [], none), (85, .aload_n 0, 86, [], none), (86, .getfield 101, 89, [11, 13, 2, 487, 0], none), (89, .iload 7, 91, [], none), (91, .iconst 0, 92, [], none), (92, .iload_n 1, 93, [], none), (93, .invokevirtual 192, 96, [6, 3, 0, 9, 531, 13, 14, 11], none), (96, .aload_n 0, 97, [], none), (97, .getfield 101, 100, [11, 13, 2, 487, 0], none), (100, .iload 7, 102, [], none), (102, .iconst 1, 103, [], none), (103, .iload_n 2, 104, [], none), (104, .invokevirtual 192, 107, [6, 3, 0, 9, 531, 13, 14, 11], none), (107, .aload_n 0, 108, [], none), (108, .getfield 101, 111, [11, 13, 2, 487, 0], none), (111, .iload 7, 113, [], none), (113, .iconst 2, 114, [], none), (114, .iload_n 3, 115, [], none), (115, .invokevirtual 192, 118, [6, 3, 0, 9, 531, 13, 14, 11], none)] (76, .aload_n 0, 77, [], some [0, 1, 2, 3, 4, 5]) (by decide +kernel) _ _ _).trans rfl
set_option maxRecDepth 20000 in
set_option maxHeartbeats 4000000 in
theorem B_X11_tell_118 (d : Nat) (S : mS) (I : mI) (L : mJ) (l0 : Nat) (l4 : Int32) (l5 : Int32) (l7 : Int32) :
  evk zcod none d zc_X11_tell 118 [(0, .ref l0), (4, .int l4), (5, .int l5), (7, .int l7)] [] (S, I, L) =
  if kK S l0 = 11 then
 (if kK S (kR S l0 13) = 9 then
 (bV (evM zcod d 6 [.ref (kR S l0 13), .int l7, .int (nI 3), .int l4] (S, I, L)) fun M1 =>
 if M1.1.1 = S.1 then
 (if kK M1.1 l0 = 11 then
 (if kK M1.1 (kR M1.1 l0 13) = 9 then
 (bV (evM zcod d 6 [.ref (kR M1.1 l0 13), .int l7, .int (nI 4), .int l5] M1) fun M2 =>
 if M2.1.1 = M1.1.1 then
 (some (some (.int l7), M2)) else none) else none) else none) else none) else none) else none :=
  (blk_ok zcod none d zc_X11_tell [(119, .getfield 101, 122, [11, 13, 2, 487, 0], none), (122, .iload 7, 124, [], none), (124, .iconst 3, 125, [], none), (125, .iload 4, 127, [], none), (127, .invokevirtual 192, 130, [6, 3, 0, 9, 531, 13, 14, 11], none), (130, .aload_n 0, 131, [], none), (131, .getfield 101, 134, [11, 13, 2, 487, 0], none), (134, .iload 7, 136, [], none), (136, .iconst 4, 137, [], none), (137, .iload 5, 139, [], none), (139, .invokevirtual 192, 142, [6, 3, 0, 9, 531, 13, 14, 11], none), (142, .iload 7, 144, [], none), (144, .ireturn, 145, [0], none)] (118, .aload_n 0, 119, [], some [0, 4, 5, 7]) (by decide +kernel) _ _ _).trans rfl
theorem E_X11_forget (d : Nat) (M : zM) (l0 : Nat) : evM zcod (d + 1) 139 [.ref l0] M = evk zcod none d zc_X11_forget 0 [(0, .ref l0)] [] M := evM_eq zcod d 139 _ M (Nat.le_of_ble_eq_true rfl)
set_option maxRecDepth 20000 in
set_option maxHeartbeats 4000000 in
theorem B_X11_forget_0 (d : Nat) (S : mS) (I : mI) (L : mJ) (l0 : Nat) :
  evk zcod none d zc_X11_forget 0 [(0, .ref l0)] [] (S, I, L) =
  if kK S l0 = 11 then
 (if kK S (kR S l0 13) = 9 then
 (bI (evM zcod d 1 [.ref (kR S l0 13)] (S, I, L)) fun x1 M1 =>
 if M1.1.1 = S.1 then
 (if kK M1.1 l0 = 11 then
 (if kK M1.1 (kR M1.1 l0 13) = 9 then
 (bV (evM zcod d 4 [.ref (kR M1.1 l0 13)] M1) fun M2 =>
 if M2.1.1 = M1.1.1 then
 (some (some (.int x1), M2)) else none) else none) else none) else none) else none) else none :=
  (blk_ok zcod none d zc_X11_forget [(1, .getfield 101, 4, [11, 13, 2, 487, 0], none), (4, .invokevirtual 251, 7, [1, 0, 1, 9, 561, 52, 53, 11], none), (7, .istore_n 1, 8, [], none), (8, .aload_n 0, 9, [], none), (9, .getfield 101, 12, [11, 13, 2, 487, 0], none), (12, .invokevirtual 132, 15, [4, 0, 0, 9, 506, 46, 47, 11], none), (15, .iload_n 1, 16, [], none), (16, .ireturn, 17, [0], none)] (0, .aload_n 0, 1, [], none) (by decide +kernel) _ _ _).trans rfl
theorem E_X11_pulls (d : Nat) (M : zM) (l0 : Nat) (l1 : Int32) (l2 : Int32) : evM zcod (d + 1) 140 [.ref l0, .int l1, .int l2] M = evk zcod none d zc_X11_pulls 0 [(0, .ref l0), (1, .int l1), (2, .int l2)] [] M := evM_eq zcod d 140 _ M (Nat.le_of_ble_eq_true rfl)
set_option maxRecDepth 20000 in
set_option maxHeartbeats 4000000 in
theorem B_X11_pulls_0 (d : Nat) (S : mS) (I : mI) (L : mJ) (l0 : Nat) (l1 : Int32) (l2 : Int32) :
  evk zcod none d zc_X11_pulls 0 [(0, .ref l0), (1, .int l1), (2, .int l2)] [] (S, I, L) =
  if kK S l0 = 11 then
 (if kK S (kR S l0 13) = 9 then
 (bI (evM zcod d 1 [.ref (kR S l0 13)] (S, I, L)) fun x1 M1 =>
 if M1.1.1 = S.1 then
 (bI (evM zcod d 145 [.int l1, .int (nI 0), .int x1] M1) fun x2 M2 =>
 if M2.1.1 = M1.1.1 then
 (if x2 = (nI 0) then
 evk zcod none d zc_X11_pulls 24 [] [] M2
 else
 bI (evM zcod d 145 [.int l2, .int (nI 0), .int (nI 1)] M2) fun x3 M3 =>
 if M3.1.1 = M2.1.1 then
 (if ¬ x3 = (nI 0) then
 evk zcod none d zc_X11_pulls 26 [(0, .ref l0), (1, .int l1), (2, .int l2)] [] M3
 else
 evk zcod none d zc_X11_pulls 24 [] [] M3) else none) else none) else none) else none) else none :=
  (blk_ok zcod none d zc_X11_pulls [(1, .iconst 0, 2, [], none), (2, .aload_n 0, 3, [], none), (3, .getfield 101, 6, [11, 13, 2, 487, 0], none), (6, .invokevirtual 251, 9, [1, 0, 1, 9, 561, 52, 53, 11], none), (9, .invokestatic 109, 12, [145, 3, 1, 0, 491, 221, 222], none), (12, .ifCond .eq 12, 15, [24], none), (15, .iload_n 2, 16, [], none), (16, .iconst 0, 17, [], none), (17, .iconst 1, 18, [], none), (18, .invokestatic 109, 21, [145, 3, 1, 0, 491, 221, 222], none), (21, .ifCond .ne 5, 24, [26], none)] (0, .iload_n 1, 1, [], none) (by decide +kernel) _ _ _).trans rfl
set_option maxRecDepth 20000 in
set_option maxHeartbeats 4000000 in
theorem R_X11_pulls_24 (d : Nat) (S : mS) (I : mI) (L : mJ)  :
  evk zcod none d zc_X11_pulls 24 [] [] (S, I, L) =
  some (some (.int (Int32.ofInt (-1))), (S, I, L)) :=
  (blk_ok zcod none d zc_X11_pulls [(25, .ireturn, 26, [0], none)] (24, .iconst (-1), 25, [], some []) (by decide +kernel) _ _ _).trans rfl
theorem B_X11_pulls_24 (d : Nat) (S : mS) (I : mI) (L : mJ)  :
  evk zcod none d zc_X11_pulls 24 [] [] (S, I, L) =
  some (some (.int (-1 : Int32)), (S, I, L)) := by
  have h := R_X11_pulls_24 d S I L 
  simp only [cvN] at h
  exact h
set_option maxRecDepth 20000 in
set_option maxHeartbeats 4000000 in
theorem B_X11_pulls_26 (d : Nat) (S : mS) (I : mI) (L : mJ) (l0 : Nat) (l1 : Int32) (l2 : Int32) :
  evk zcod none d zc_X11_pulls 26 [(0, .ref l0), (1, .int l1), (2, .int l2)] [] (S, I, L) =
  if kK S l0 = 11 then
 (bI (evM zcod d 153 [.ref l0, .int l1] (S, I, L)) fun x1 M1 =>
 if M1.1.1 = S.1 then
 (if ¬ l2 = (nI 0) then
 evk zcod none d zc_X11_pulls 43 [(3, .int x1)] [] M1
 else
 bI (evM zcod d 277 [.int x1] M1) fun x2 M2 =>
 if M2.1.1 = M1.1.1 then
 (evk zcod none d zc_X11_pulls 44 [] [.int x2] M2) else none) else none) else none :=
  (blk_ok zcod none d zc_X11_pulls [(27, .iload_n 1, 28, [], none), (28, .invokevirtual 281, 31, [153, 1, 1, 11, 578, 579, 580, 222], none), (31, .istore_n 3, 32, [], none), (32, .iload_n 2, 33, [], none), (33, .ifCond .ne 10, 36, [43], none), (36, .iload_n 3, 37, [], none), (37, .invokestatic 257, 40, [277, 1, 1, 0, 565, 62, 63], none), (40, .goto 4, 43, [44], none)] (26, .aload_n 0, 27, [], some [0, 1, 2]) (by decide +kernel) _ _ _).trans rfl
set_option maxRecDepth 20000 in
set_option maxHeartbeats 4000000 in
theorem B_X11_pulls_43 (d : Nat) (S : mS) (I : mI) (L : mJ) (l3 : Int32) :
  evk zcod none d zc_X11_pulls 43 [(3, .int l3)] [] (S, I, L) =
  evk zcod none d zc_X11_pulls 44 [] [.int l3] (S, I, L) :=
  (blk_ok zcod none d zc_X11_pulls [] (43, .iload_n 3, 44, [], some [3]) (by decide +kernel) _ _ _).trans rfl
set_option maxRecDepth 20000 in
set_option maxHeartbeats 4000000 in
theorem B_X11_pulls_44 (d : Nat) (S : mS) (I : mI) (L : mJ) (s0 : Int32) :
  evk zcod none d zc_X11_pulls 44 [] [.int s0] (S, I, L) =
  some (some (.int s0), (S, I, L)) :=
  (blk_ok zcod none d zc_X11_pulls [] (44, .ireturn, 45, [0], some []) (by decide +kernel) _ _ _).trans rfl
theorem E_X11_sure (d : Nat) (M : zM) (l0 : Nat) (l1 : Int32) : evM zcod (d + 1) 141 [.ref l0, .int l1] M = evk zcod none d zc_X11_sure 0 [(0, .ref l0), (1, .int l1)] [] M := evM_eq zcod d 141 _ M (Nat.le_of_ble_eq_true rfl)
set_option maxRecDepth 20000 in
set_option maxHeartbeats 4000000 in
theorem R_X11_sure_0 (d : Nat) (S : mS) (I : mI) (L : mJ) (l0 : Nat) (l1 : Int32) :
  evk zcod none d zc_X11_sure 0 [(0, .ref l0), (1, .int l1)] [] (S, I, L) =
  if kK S l0 = 11 then
 (if kK S (kR S l0 13) = 9 then
 (bI (evM zcod d 1 [.ref (kR S l0 13)] (S, I, L)) fun x1 M1 =>
 if M1.1.1 = S.1 then
 (bI (evM zcod d 145 [.int l1, .int (nI 0), .int x1] M1) fun x2 M2 =>
 if M2.1.1 = M1.1.1 then
 (if ¬ x2 = (nI 0) then
 evk zcod none d zc_X11_sure 19 [(0, .ref l0), (1, .int l1)] [] M2
 else
 some (some (.int ((Int16.ofInt (-1000)).toInt32)), M2)) else none) else none) else none) else none :=
  (blk_ok zcod none d zc_X11_sure [(1, .iconst 0, 2, [], none), (2, .aload_n 0, 3, [], none), (3, .getfield 101, 6, [11, 13, 2, 487, 0], none), (6, .invokevirtual 251, 9, [1, 0, 1, 9, 561, 52, 53, 11], none), (9, .invokestatic 109, 12, [145, 3, 1, 0, 491, 221, 222], none), (12, .ifCond .ne 7, 15, [19], none), (15, .sipush (-1000), 18, [], none), (18, .ireturn, 19, [0], none)] (0, .iload_n 1, 1, [], none) (by decide +kernel) _ _ _).trans rfl
theorem B_X11_sure_0 (d : Nat) (S : mS) (I : mI) (L : mJ) (l0 : Nat) (l1 : Int32) :
  evk zcod none d zc_X11_sure 0 [(0, .ref l0), (1, .int l1)] [] (S, I, L) =
  if kK S l0 = 11 then
 (if kK S (kR S l0 13) = 9 then
 (bI (evM zcod d 1 [.ref (kR S l0 13)] (S, I, L)) fun x1 M1 =>
 if M1.1.1 = S.1 then
 (bI (evM zcod d 145 [.int l1, .int (nI 0), .int x1] M1) fun x2 M2 =>
 if M2.1.1 = M1.1.1 then
 (if ¬ x2 = (nI 0) then
 evk zcod none d zc_X11_sure 19 [(0, .ref l0), (1, .int l1)] [] M2
 else
 some (some (.int (-1000 : Int32)), M2)) else none) else none) else none) else none := by
  have h := R_X11_sure_0 d S I L l0 l1
  simp only [cvN] at h
  exact h
set_option maxRecDepth 20000 in
set_option maxHeartbeats 4000000 in
theorem R_X11_sure_19 (d : Nat) (S : mS) (I : mI) (L : mJ) (l0 : Nat) (l1 : Int32) :
  evk zcod none d zc_X11_sure 19 [(0, .ref l0), (1, .int l1)] [] (S, I, L) =
  if kK S l0 = 11 then
 (bI (evM zcod d 153 [.ref l0, .int l1] (S, I, L)) fun x1 M1 =>
 if M1.1.1 = S.1 then
 (evk zcod none d zc_X11_sure 28 [(2, .int x1), (3, .int ((Int8.ofInt (-3)).toInt32))] [] M1) else none) else none :=
  (blk_ok zcod none d zc_X11_sure [(20, .iload_n 1, 21, [], none), (21, .invokevirtual 281, 24, [153, 1, 1, 11, 578, 579, 580, 222], none), (24, .istore_n 2, 25, [], none), (25, .bipush (-3), 27, [], none), (27, .istore_n 3, 28, [], none)] (19, .aload_n 0, 20, [], some [0, 1]) (by decide +kernel) _ _ _).trans rfl
theorem B_X11_sure_19 (d : Nat) (S : mS) (I : mI) (L : mJ) (l0 : Nat) (l1 : Int32) :
  evk zcod none d zc_X11_sure 19 [(0, .ref l0), (1, .int l1)] [] (S, I, L) =
  if kK S l0 = 11 then
 (bI (evM zcod d 153 [.ref l0, .int l1] (S, I, L)) fun x1 M1 =>
 if M1.1.1 = S.1 then
 (evk zcod none d zc_X11_sure 28 [(2, .int x1), (3, .int (-3 : Int32))] [] M1) else none) else none := by
  have h := R_X11_sure_19 d S I L l0 l1
  simp only [cvN] at h
  exact h
set_option maxRecDepth 20000 in
set_option maxHeartbeats 4000000 in
theorem B_X11_sure_28 (d : Nat) (S : mS) (I : mI) (L : mJ) (l2 : Int32) (l3 : Int32) :
  evk zcod none d zc_X11_sure 28 [(2, .int l2), (3, .int l3)] [] (S, I, L) =
  if (nI 3) < l3 then
 evk zcod none d zc_X11_sure 49 [] [] (S, I, L)
 else
 bI (evM zcod d 152 [.int l3] (S, I, L)) fun x1 M1 =>
 if M1.1.1 = S.1 then
 (if ¬ l2 = x1 then
 evk zcod none d zc_X11_sure 43 [(2, .int l2), (3, .int l3)] [] M1
 else
 some (some (.int l3), M1)) else none :=
  (blk_ok zcod none d zc_X11_sure [(29, .iconst 3, 30, [], none), (30, .if_icmp .gt 19, 33, [49], none), (33, .iload_n 2, 34, [], none), (34, .iload_n 3, 35, [], none), (35, .invokestatic 284, 38, [152, 1, 1, 0, 581, 582, 222], none), (38, .if_icmp .ne 5, 41, [43], none), (41, .iload_n 3, 42, [], none), (42, .ireturn, 43, [0], none)] (28, .iload_n 3, 29, [], some [2, 3]) (by decide +kernel) _ _ _).trans rfl
set_option maxRecDepth 20000 in
set_option maxHeartbeats 4000000 in
theorem B_X11_sure_43 (d : Nat) (S : mS) (I : mI) (L : mJ) (l2 : Int32) (l3 : Int32) :
  evk zcod none d zc_X11_sure 43 [(2, .int l2), (3, .int l3)] [] (S, I, L) =
  evk zcod none d zc_X11_sure 28 [(2, .int l2), (3, .int (l3 + (nI 1)))] [] (S, I, L) :=
  (blk_ok zcod none d zc_X11_sure [(46, .goto (-18), 49, [28], none)] (43, .iinc 3 1, 46, [], some [2, 3]) (by decide +kernel) _ _ _).trans rfl
set_option maxRecDepth 20000 in
set_option maxHeartbeats 4000000 in
theorem R_X11_sure_49 (d : Nat) (S : mS) (I : mI) (L : mJ)  :
  evk zcod none d zc_X11_sure 49 [] [] (S, I, L) =
  some (some (.int ((Int8.ofInt (-100)).toInt32)), (S, I, L)) :=
  (blk_ok zcod none d zc_X11_sure [(51, .ireturn, 52, [0], none)] (49, .bipush (-100), 51, [], some []) (by decide +kernel) _ _ _).trans rfl
theorem B_X11_sure_49 (d : Nat) (S : mS) (I : mI) (L : mJ)  :
  evk zcod none d zc_X11_sure 49 [] [] (S, I, L) =
  some (some (.int (-100 : Int32)), (S, I, L)) := by
  have h := R_X11_sure_49 d S I L 
  simp only [cvN] at h
  exact h
theorem E_X11_hold (d : Nat) (M : zM) (l0 : Nat) (l1 : Int32) : evM zcod (d + 1) 142 [.ref l0, .int l1] M = evk zcod none d zc_X11_hold 0 [(0, .ref l0), (1, .int l1)] [] M := evM_eq zcod d 142 _ M (Nat.le_of_ble_eq_true rfl)
set_option maxRecDepth 20000 in
set_option maxHeartbeats 4000000 in
theorem B_X11_hold_0 (d : Nat) (S : mS) (I : mI) (L : mJ) (l0 : Nat) (l1 : Int32) :
  evk zcod none d zc_X11_hold 0 [(0, .ref l0), (1, .int l1)] [] (S, I, L) =
  if kK S l0 = 11 then
 (if kK S l0 = 11 then
 (if kK S (kR S l0 12) = 4 then
 (bI (evM zcod d 110 [.ref (kR S l0 12), .int l1, .ref (kR S l0 6)] (S, I, L)) fun x1 M1 =>
 if M1.1.1 = S.1 then
 (if x1 = nI 0 ∨ x1 = nI 1 then some (some (.int x1), M1) else none) else none) else none) else none) else none :=
  (blk_ok zcod none d zc_X11_hold [(1, .getfield 92, 4, [11, 12, 2, 484, 0], none), (4, .iload_n 1, 5, [], none), (5, .aload_n 0, 6, [], none), (6, .getfield 42, 9, [11, 6, 2, 457, 0], none), (9, .invokevirtual 287, 12, [110, 2, 1, 4, 583, 584, 585, 439], none), (12, .ireturn, 13, [1], none)] (0, .aload_n 0, 1, [], none) (by decide +kernel) _ _ _).trans rfl
theorem E_X11_restore (d : Nat) (M : zM) (l0 : Nat) (l1 : Int32) : evM zcod (d + 1) 143 [.ref l0, .int l1] M = evk zcod none d zc_X11_restore 0 [(0, .ref l0), (1, .int l1)] [] M := evM_eq zcod d 143 _ M (Nat.le_of_ble_eq_true rfl)
set_option maxRecDepth 20000 in
set_option maxHeartbeats 4000000 in
theorem B_X11_restore_0 (d : Nat) (S : mS) (I : mI) (L : mJ) (l0 : Nat) (l1 : Int32) :
  evk zcod none d zc_X11_restore 0 [(0, .ref l0), (1, .int l1)] [] (S, I, L) =
  if kK S l0 = 11 then
 (if kK S l0 = 11 then
 (if kK S (kR S l0 12) = 4 then
 (bI (evM zcod d 111 [.ref (kR S l0 12), .int l1, .ref (kR S l0 6)] (S, I, L)) fun x1 M1 =>
 if M1.1.1 = S.1 then
 (if x1 = nI 0 ∨ x1 = nI 1 then some (some (.int x1), M1) else none) else none) else none) else none) else none :=
  (blk_ok zcod none d zc_X11_restore [(1, .getfield 92, 4, [11, 12, 2, 484, 0], none), (4, .iload_n 1, 5, [], none), (5, .aload_n 0, 6, [], none), (6, .getfield 42, 9, [11, 6, 2, 457, 0], none), (9, .invokevirtual 291, 12, [111, 2, 1, 4, 586, 587, 588, 439], none), (12, .ireturn, 13, [1], none)] (0, .aload_n 0, 1, [], none) (by decide +kernel) _ _ _).trans rfl
theorem E_X11_count (d : Nat) (M : zM) (l0 : Nat) (l1 : Int32) : evM zcod (d + 1) 144 [.ref l0, .int l1] M = evk zcod none d zc_X11_count 0 [(0, .ref l0), (1, .int l1)] [] M := evM_eq zcod d 144 _ M (Nat.le_of_ble_eq_true rfl)
set_option maxRecDepth 20000 in
set_option maxHeartbeats 4000000 in
theorem B_X11_count_0 (d : Nat) (S : mS) (I : mI) (L : mJ) (l0 : Nat) (l1 : Int32) :
  evk zcod none d zc_X11_count 0 [(0, .ref l0), (1, .int l1)] [] (S, I, L) =
  if l1 = (nI 0) then evk zcod none d zc_X11_count 80 [(0, .ref l0)] [] (S, I, L) else
 if l1 = (nI 1) then evk zcod none d zc_X11_count 91 [(0, .ref l0)] [] (S, I, L) else
 if l1 = (nI 2) then evk zcod none d zc_X11_count 102 [(0, .ref l0)] [] (S, I, L) else
 if l1 = (nI 3) then evk zcod none d zc_X11_count 113 [(0, .ref l0)] [] (S, I, L) else
 if l1 = (nI 4) then evk zcod none d zc_X11_count 121 [(0, .ref l0)] [] (S, I, L) else
 if l1 = (nI 5) then evk zcod none d zc_X11_count 130 [(0, .ref l0)] [] (S, I, L) else
 if l1 = (nI 6) then evk zcod none d zc_X11_count 139 [(0, .ref l0)] [] (S, I, L) else
 if l1 = (nI 7) then evk zcod none d zc_X11_count 148 [(0, .ref l0)] [] (S, I, L) else
 if l1 = (nI 8) then evk zcod none d zc_X11_count 157 [(0, .ref l0)] [] (S, I, L) else
 if l1 = (nI 9) then evk zcod none d zc_X11_count 165 [(0, .ref l0)] [] (S, I, L) else
 if l1 = (nI 10) then evk zcod none d zc_X11_count 173 [(0, .ref l0)] [] (S, I, L) else
 if l1 = (nI 11) then evk zcod none d zc_X11_count 178 [(0, .ref l0)] [] (S, I, L) else
 if l1 = (nI 12) then evk zcod none d zc_X11_count 186 [(0, .ref l0)] [] (S, I, L) else
 if l1 = (nI 13) then evk zcod none d zc_X11_count 194 [(0, .ref l0)] [] (S, I, L) else
 if l1 = (nI 14) then evk zcod none d zc_X11_count 202 [(0, .ref l0)] [] (S, I, L) else
 if l1 = (nI 15) then evk zcod none d zc_X11_count 232 [(0, .ref l0)] [] (S, I, L) else
 evk zcod none d zc_X11_count 240 [] [] (S, I, L) :=
  (blk_ok zcod none d zc_X11_count [(1, .tableswitch 239 0 15 #[79, 90, 101, 112, 120, 129, 138, 147, 156, 164, 172, 177, 185, 193, 201, 231], 80, [240, 80, 91, 102, 113, 121, 130, 139, 148, 157, 165, 173, 178, 186, 194, 202, 232], none)] (0, .iload_n 1, 1, [], none) (by decide +kernel) _ _ _).trans rfl
set_option maxRecDepth 20000 in
set_option maxHeartbeats 4000000 in
theorem B_X11_count_80 (d : Nat) (S : mS) (I : mI) (L : mJ) (l0 : Nat) :
  evk zcod none d zc_X11_count 80 [(0, .ref l0)] [] (S, I, L) =
  if kK S l0 = 11 then
 (if kK S (kR S l0 6) = 8 then
 (if kK S (kR S (kR S l0 6) 0) = 9 then
 (bI (evM zcod d 1 [.ref (kR S (kR S l0 6) 0)] (S, I, L)) fun x1 M1 =>
 if M1.1.1 = S.1 then
 (some (some (.int x1), M1)) else none) else none) else none) else none :=
  (blk_ok zcod none d zc_X11_count [(81, .getfield 42, 84, [11, 6, 2, 457, 0], none), (84, .getfield 133, 87, [8, 0, 2, 507, 1], none), (87, .invokevirtual 251, 90, [1, 0, 1, 9, 561, 52, 53, 11], none), (90, .ireturn, 91, [0], none)] (80, .aload_n 0, 81, [], some [0]) (by decide +kernel) _ _ _).trans rfl
set_option maxRecDepth 20000 in
set_option maxHeartbeats 4000000 in
theorem B_X11_count_91 (d : Nat) (S : mS) (I : mI) (L : mJ) (l0 : Nat) :
  evk zcod none d zc_X11_count 91 [(0, .ref l0)] [] (S, I, L) =
  if kK S l0 = 11 then
 (if kK S (kR S l0 6) = 8 then
 (if kK S (kR S (kR S l0 6) 1) = 9 then
 (bI (evM zcod d 1 [.ref (kR S (kR S l0 6) 1)] (S, I, L)) fun x1 M1 =>
 if M1.1.1 = S.1 then
 (some (some (.int x1), M1)) else none) else none) else none) else none :=
  (blk_ok zcod none d zc_X11_count [(92, .getfield 42, 95, [11, 6, 2, 457, 0], none), (95, .getfield 140, 98, [8, 1, 2, 509, 1], none), (98, .invokevirtual 251, 101, [1, 0, 1, 9, 561, 52, 53, 11], none), (101, .ireturn, 102, [0], none)] (91, .aload_n 0, 92, [], some [0]) (by decide +kernel) _ _ _).trans rfl
set_option maxRecDepth 20000 in
set_option maxHeartbeats 4000000 in
theorem B_X11_count_102 (d : Nat) (S : mS) (I : mI) (L : mJ) (l0 : Nat) :
  evk zcod none d zc_X11_count 102 [(0, .ref l0)] [] (S, I, L) =
  if kK S l0 = 11 then
 (if kK S (kR S l0 6) = 8 then
 (if kK S (kR S (kR S l0 6) 2) = 9 then
 (bI (evM zcod d 1 [.ref (kR S (kR S l0 6) 2)] (S, I, L)) fun x1 M1 =>
 if M1.1.1 = S.1 then
 (some (some (.int x1), M1)) else none) else none) else none) else none :=
  (blk_ok zcod none d zc_X11_count [(103, .getfield 42, 106, [11, 6, 2, 457, 0], none), (106, .getfield 147, 109, [8, 2, 2, 511, 1], none), (109, .invokevirtual 251, 112, [1, 0, 1, 9, 561, 52, 53, 11], none), (112, .ireturn, 113, [0], none)] (102, .aload_n 0, 103, [], some [0]) (by decide +kernel) _ _ _).trans rfl
set_option maxRecDepth 20000 in
set_option maxHeartbeats 4000000 in
theorem B_X11_count_113 (d : Nat) (S : mS) (I : mI) (L : mJ) (l0 : Nat) :
  evk zcod none d zc_X11_count 113 [(0, .ref l0)] [] (S, I, L) =
  if kK S l0 = 11 then
 (if kK S (kR S l0 6) = 8 then
 (some (some (.int (I (kR S l0 6) 3)), (S, I, L))) else none) else none :=
  (blk_ok zcod none d zc_X11_count [(114, .getfield 42, 117, [11, 6, 2, 457, 0], none), (117, .getfield 150, 120, [8, 3, 0, 512, 1], none), (120, .ireturn, 121, [0], none)] (113, .aload_n 0, 114, [], some [0]) (by decide +kernel) _ _ _).trans rfl
set_option maxRecDepth 20000 in
set_option maxHeartbeats 4000000 in
theorem B_X11_count_121 (d : Nat) (S : mS) (I : mI) (L : mJ) (l0 : Nat) :
  evk zcod none d zc_X11_count 121 [(0, .ref l0)] [] (S, I, L) =
  if kK S l0 = 11 then
 (if kK S (kR S l0 6) = 8 then
 (bI (evM zcod d 22 [.ref (kR S l0 6), .int (nI 0)] (S, I, L)) fun x1 M1 =>
 if M1.1.1 = S.1 then
 (some (some (.int x1), M1)) else none) else none) else none :=
  (blk_ok zcod none d zc_X11_count [(122, .getfield 42, 125, [11, 6, 2, 457, 0], none), (125, .iconst 0, 126, [], none), (126, .invokevirtual 294, 129, [22, 1, 1, 8, 589, 58, 59, 60], none), (129, .ireturn, 130, [0], none)] (121, .aload_n 0, 122, [], some [0]) (by decide +kernel) _ _ _).trans rfl
set_option maxRecDepth 20000 in
set_option maxHeartbeats 4000000 in
theorem B_X11_count_130 (d : Nat) (S : mS) (I : mI) (L : mJ) (l0 : Nat) :
  evk zcod none d zc_X11_count 130 [(0, .ref l0)] [] (S, I, L) =
  if kK S l0 = 11 then
 (if kK S (kR S l0 6) = 8 then
 (bI (evM zcod d 22 [.ref (kR S l0 6), .int (nI 1)] (S, I, L)) fun x1 M1 =>
 if M1.1.1 = S.1 then
 (some (some (.int x1), M1)) else none) else none) else none :=
  (blk_ok zcod none d zc_X11_count [(131, .getfield 42, 134, [11, 6, 2, 457, 0], none), (134, .iconst 1, 135, [], none), (135, .invokevirtual 294, 138, [22, 1, 1, 8, 589, 58, 59, 60], none), (138, .ireturn, 139, [0], none)] (130, .aload_n 0, 131, [], some [0]) (by decide +kernel) _ _ _).trans rfl
set_option maxRecDepth 20000 in
set_option maxHeartbeats 4000000 in
theorem B_X11_count_139 (d : Nat) (S : mS) (I : mI) (L : mJ) (l0 : Nat) :
  evk zcod none d zc_X11_count 139 [(0, .ref l0)] [] (S, I, L) =
  if kK S l0 = 11 then
 (if kK S (kR S l0 6) = 8 then
 (bI (evM zcod d 22 [.ref (kR S l0 6), .int (nI 2)] (S, I, L)) fun x1 M1 =>
 if M1.1.1 = S.1 then
 (some (some (.int x1), M1)) else none) else none) else none :=
  (blk_ok zcod none d zc_X11_count [(140, .getfield 42, 143, [11, 6, 2, 457, 0], none), (143, .iconst 2, 144, [], none), (144, .invokevirtual 294, 147, [22, 1, 1, 8, 589, 58, 59, 60], none), (147, .ireturn, 148, [0], none)] (139, .aload_n 0, 140, [], some [0]) (by decide +kernel) _ _ _).trans rfl
set_option maxRecDepth 20000 in
set_option maxHeartbeats 4000000 in
theorem B_X11_count_148 (d : Nat) (S : mS) (I : mI) (L : mJ) (l0 : Nat) :
  evk zcod none d zc_X11_count 148 [(0, .ref l0)] [] (S, I, L) =
  if kK S l0 = 11 then
 (if kK S (kR S l0 6) = 8 then
 (bI (evM zcod d 22 [.ref (kR S l0 6), .int (nI 3)] (S, I, L)) fun x1 M1 =>
 if M1.1.1 = S.1 then
 (some (some (.int x1), M1)) else none) else none) else none :=
  (blk_ok zcod none d zc_X11_count [(149, .getfield 42, 152, [11, 6, 2, 457, 0], none), (152, .iconst 3, 153, [], none), (153, .invokevirtual 294, 156, [22, 1, 1, 8, 589, 58, 59, 60], none), (156, .ireturn, 157, [0], none)] (148, .aload_n 0, 149, [], some [0]) (by decide +kernel) _ _ _).trans rfl
set_option maxRecDepth 20000 in
set_option maxHeartbeats 4000000 in
theorem B_X11_count_157 (d : Nat) (S : mS) (I : mI) (L : mJ) (l0 : Nat) :
  evk zcod none d zc_X11_count 157 [(0, .ref l0)] [] (S, I, L) =
  if kK S l0 = 11 then
 (if kK S (kR S l0 6) = 8 then
 (some (some (.int (I (kR S l0 6) 4)), (S, I, L))) else none) else none :=
  (blk_ok zcod none d zc_X11_count [(158, .getfield 42, 161, [11, 6, 2, 457, 0], none), (161, .getfield 272, 164, [8, 4, 0, 575, 1], none), (164, .ireturn, 165, [0], none)] (157, .aload_n 0, 158, [], some [0]) (by decide +kernel) _ _ _).trans rfl
set_option maxRecDepth 20000 in
set_option maxHeartbeats 4000000 in
theorem B_X11_count_165 (d : Nat) (S : mS) (I : mI) (L : mJ) (l0 : Nat) :
  evk zcod none d zc_X11_count 165 [(0, .ref l0)] [] (S, I, L) =
  if kK S l0 = 11 then
 (if kK S (kR S l0 6) = 8 then
 (some (some (.int (I (kR S l0 6) 5)), (S, I, L))) else none) else none :=
  (blk_ok zcod none d zc_X11_count [(166, .getfield 42, 169, [11, 6, 2, 457, 0], none), (169, .getfield 189, 172, [8, 5, 0, 530, 1], none), (172, .ireturn, 173, [0], none)] (165, .aload_n 0, 166, [], some [0]) (by decide +kernel) _ _ _).trans rfl
set_option maxRecDepth 20000 in
set_option maxHeartbeats 4000000 in
theorem B_X11_count_173 (d : Nat) (S : mS) (I : mI) (L : mJ) (l0 : Nat) :
  evk zcod none d zc_X11_count 173 [(0, .ref l0)] [] (S, I, L) =
  if kK S l0 = 11 then
 (some (some (.int (I l0 1)), (S, I, L))) else none :=
  (blk_ok zcod none d zc_X11_count [(174, .getfield 13, 177, [11, 1, 0, 442, 0], none), (177, .ireturn, 178, [0], none)] (173, .aload_n 0, 174, [], some [0]) (by decide +kernel) _ _ _).trans rfl
set_option maxRecDepth 20000 in
set_option maxHeartbeats 4000000 in
theorem B_X11_count_178 (d : Nat) (S : mS) (I : mI) (L : mJ) (l0 : Nat) :
  evk zcod none d zc_X11_count 178 [(0, .ref l0)] [] (S, I, L) =
  if kK S l0 = 11 then
 (if kK S (kR S l0 12) = 4 then
 (bI (evM zcod d 105 [.ref (kR S l0 12)] (S, I, L)) fun x1 M1 =>
 if M1.1.1 = S.1 then
 (some (some (.int x1), M1)) else none) else none) else none :=
  (blk_ok zcod none d zc_X11_count [(179, .getfield 92, 182, [11, 12, 2, 484, 0], none), (182, .invokevirtual 297, 185, [105, 0, 1, 4, 590, 591, 592, 439], none), (185, .ireturn, 186, [0], none)] (178, .aload_n 0, 179, [], some [0]) (by decide +kernel) _ _ _).trans rfl
set_option maxRecDepth 20000 in
set_option maxHeartbeats 4000000 in
theorem B_X11_count_186 (d : Nat) (S : mS) (I : mI) (L : mJ) (l0 : Nat) :
  evk zcod none d zc_X11_count 186 [(0, .ref l0)] [] (S, I, L) =
  if kK S l0 = 11 then
 (if kK S (kR S l0 13) = 9 then
 (bI (evM zcod d 1 [.ref (kR S l0 13)] (S, I, L)) fun x1 M1 =>
 if M1.1.1 = S.1 then
 (some (some (.int x1), M1)) else none) else none) else none :=
  (blk_ok zcod none d zc_X11_count [(187, .getfield 101, 190, [11, 13, 2, 487, 0], none), (190, .invokevirtual 251, 193, [1, 0, 1, 9, 561, 52, 53, 11], none), (193, .ireturn, 194, [0], none)] (186, .aload_n 0, 187, [], some [0]) (by decide +kernel) _ _ _).trans rfl
set_option maxRecDepth 20000 in
set_option maxHeartbeats 4000000 in
theorem B_X11_count_194 (d : Nat) (S : mS) (I : mI) (L : mJ) (l0 : Nat) :
  evk zcod none d zc_X11_count 194 [(0, .ref l0)] [] (S, I, L) =
  if kK S l0 = 11 then
 (if kK S (kR S l0 12) = 4 then
 (bI (evM zcod d 106 [.ref (kR S l0 12)] (S, I, L)) fun x1 M1 =>
 if M1.1.1 = S.1 then
 (some (some (.int x1), M1)) else none) else none) else none :=
  (blk_ok zcod none d zc_X11_count [(195, .getfield 92, 198, [11, 12, 2, 484, 0], none), (198, .invokevirtual 300, 201, [106, 0, 1, 4, 593, 594, 595, 439], none), (201, .ireturn, 202, [0], none)] (194, .aload_n 0, 195, [], some [0]) (by decide +kernel) _ _ _).trans rfl
set_option maxRecDepth 20000 in
set_option maxHeartbeats 4000000 in
theorem B_X11_count_202 (d : Nat) (S : mS) (I : mI) (L : mJ) (l0 : Nat) :
  evk zcod none d zc_X11_count 202 [(0, .ref l0)] [] (S, I, L) =
  if kK S l0 = 11 then
 (if kK S l0 = 11 then
 (if kK S (kR S l0 6) = 8 then
 (if kK S l0 = 11 then
 (if kK S (kR S l0 3) = 5 then
 (if kK S (kR S l0 9) = 0 then
 (bI (evM zcod d 80 [.ref (kR S l0 9), .int (I (kR S l0 6) 3), .int (I (kR S l0 3) 4)] (S, I, L)) fun x1 M1 =>
 if M1.1.1 = S.1 then
 (if x1 = (nI 0) then
 evk zcod none d zc_X11_count 230 [] [] M1
 else
 evk zcod none d zc_X11_count 231 [] [.int (nI 1)] M1) else none) else none) else none) else none) else none) else none) else none :=
  (blk_ok zcod none d zc_X11_count [(203, .getfield 67, 206, [11, 9, 2, 469, 0], none), (206, .aload_n 0, 207, [], none), (207, .getfield 42, 210, [11, 6, 2, 457, 0], none), (210, .getfield 150, 213, [8, 3, 0, 512, 1], none), (213, .aload_n 0, 214, [], none), (214, .getfield 23, 217, [11, 3, 2, 448, 0], none), (217, .getfield 198, 220, [5, 4, 0, 533, 1], none), (220, .invokevirtual 303, 223, [80, 2, 1, 0, 596, 298, 299, 290], none), (223, .ifCond .eq 7, 226, [230], none), (226, .iconst 1, 227, [], none), (227, .goto 4, 230, [231], none)] (202, .aload_n 0, 203, [], some [0]) (by decide +kernel) _ _ _).trans rfl
set_option maxRecDepth 20000 in
set_option maxHeartbeats 4000000 in
theorem B_X11_count_230 (d : Nat) (S : mS) (I : mI) (L : mJ)  :
  evk zcod none d zc_X11_count 230 [] [] (S, I, L) =
  evk zcod none d zc_X11_count 231 [] [.int (nI 0)] (S, I, L) :=
  (blk_ok zcod none d zc_X11_count [] (230, .iconst 0, 231, [], some []) (by decide +kernel) _ _ _).trans rfl
set_option maxRecDepth 20000 in
set_option maxHeartbeats 4000000 in
theorem B_X11_count_231 (d : Nat) (S : mS) (I : mI) (L : mJ) (s0 : Int32) :
  evk zcod none d zc_X11_count 231 [] [.int s0] (S, I, L) =
  some (some (.int s0), (S, I, L)) :=
  (blk_ok zcod none d zc_X11_count [] (231, .ireturn, 232, [0], some []) (by decide +kernel) _ _ _).trans rfl
set_option maxRecDepth 20000 in
set_option maxHeartbeats 4000000 in
theorem B_X11_count_232 (d : Nat) (S : mS) (I : mI) (L : mJ) (l0 : Nat) :
  evk zcod none d zc_X11_count 232 [(0, .ref l0)] [] (S, I, L) =
  if kK S l0 = 11 then
 (if kK S (kR S l0 3) = 5 then
 (some (some (.int (I (kR S l0 3) 2)), (S, I, L))) else none) else none :=
  (blk_ok zcod none d zc_X11_count [(233, .getfield 23, 236, [11, 3, 2, 448, 0], none), (236, .getfield 306, 239, [5, 2, 0, 597, 1], none), (239, .ireturn, 240, [0], none)] (232, .aload_n 0, 233, [], some [0]) (by decide +kernel) _ _ _).trans rfl
set_option maxRecDepth 20000 in
set_option maxHeartbeats 4000000 in
theorem R_X11_count_240 (d : Nat) (S : mS) (I : mI) (L : mJ)  :
  evk zcod none d zc_X11_count 240 [] [] (S, I, L) =
  some (some (.int (Int32.ofInt (-1))), (S, I, L)) :=
  (blk_ok zcod none d zc_X11_count [(241, .ireturn, 242, [0], none)] (240, .iconst (-1), 241, [], some []) (by decide +kernel) _ _ _).trans rfl
theorem B_X11_count_240 (d : Nat) (S : mS) (I : mI) (L : mJ)  :
  evk zcod none d zc_X11_count 240 [] [] (S, I, L) =
  some (some (.int (-1 : Int32)), (S, I, L)) := by
  have h := R_X11_count_240 d S I L 
  simp only [cvN] at h
  exact h
theorem E_X11_isWithin (d : Nat) (M : zM) (l0 : Int32) (l1 : Int32) (l2 : Int32) : evM zcod (d + 1) 145 [.int l0, .int l1, .int l2] M = evk zcod none d zc_X11_isWithin 0 [(0, .int l0), (1, .int l1), (2, .int l2)] [] M := evM_eq zcod d 145 _ M (Nat.le_of_ble_eq_true rfl)
set_option maxRecDepth 20000 in
set_option maxHeartbeats 4000000 in
theorem B_X11_isWithin_0 (d : Nat) (S : mS) (I : mI) (L : mJ) (l0 : Int32) (l1 : Int32) (l2 : Int32) :
  evk zcod none d zc_X11_isWithin 0 [(0, .int l0), (1, .int l1), (2, .int l2)] [] (S, I, L) =
  if l0 < l1 then
 evk zcod none d zc_X11_isWithin 14 [] [] (S, I, L)
 else
 if l2 < l0 then
 evk zcod none d zc_X11_isWithin 14 [] [] (S, I, L)
 else
 evk zcod none d zc_X11_isWithin 15 [] [.int (nI 1)] (S, I, L) :=
  (blk_ok zcod none d zc_X11_isWithin [(1, .iload_n 1, 2, [], none), (2, .if_icmp .lt 12, 5, [14], none), (5, .iload_n 0, 6, [], none), (6, .iload_n 2, 7, [], none), (7, .if_icmp .gt 7, 10, [14], none), (10, .iconst 1, 11, [], none), (11, .goto 4, 14, [15], none)] (0, .iload_n 0, 1, [], none) (by decide +kernel) _ _ _).trans rfl
set_option maxRecDepth 20000 in
set_option maxHeartbeats 4000000 in
theorem B_X11_isWithin_14 (d : Nat) (S : mS) (I : mI) (L : mJ)  :
  evk zcod none d zc_X11_isWithin 14 [] [] (S, I, L) =
  evk zcod none d zc_X11_isWithin 15 [] [.int (nI 0)] (S, I, L) :=
  (blk_ok zcod none d zc_X11_isWithin [] (14, .iconst 0, 15, [], some []) (by decide +kernel) _ _ _).trans rfl
set_option maxRecDepth 20000 in
set_option maxHeartbeats 4000000 in
theorem B_X11_isWithin_15 (d : Nat) (S : mS) (I : mI) (L : mJ) (s0 : Int32) :
  evk zcod none d zc_X11_isWithin 15 [] [.int s0] (S, I, L) =
  if s0 = nI 0 ∨ s0 = nI 1 then some (some (.int s0), (S, I, L)) else none :=
  (blk_ok zcod none d zc_X11_isWithin [] (15, .ireturn, 16, [1], some []) (by decide +kernel) _ _ _).trans rfl
theorem E_X11_keptWithin (d : Nat) (M : zM) (l0 : Int32) (l1 : Int32) (l2 : Int32) : evM zcod (d + 1) 146 [.int l0, .int l1, .int l2] M = evk zcod none d zc_X11_keptWithin 0 [(0, .int l0), (1, .int l1), (2, .int l2)] [] M := evM_eq zcod d 146 _ M (Nat.le_of_ble_eq_true rfl)
set_option maxRecDepth 20000 in
set_option maxHeartbeats 4000000 in
theorem B_X11_keptWithin_0 (d : Nat) (S : mS) (I : mI) (L : mJ) (l0 : Int32) (l1 : Int32) (l2 : Int32) :
  evk zcod none d zc_X11_keptWithin 0 [(0, .int l0), (1, .int l1), (2, .int l2)] [] (S, I, L) =
  bI (evM zcod d 275 [.int l2, .int l0] (S, I, L)) fun x1 M1 =>
 if M1.1.1 = S.1 then
 (bI (evM zcod d 274 [.int l1, .int x1] M1) fun x2 M2 =>
 if M2.1.1 = M1.1.1 then
 (some (some (.int x2), M2)) else none) else none :=
  (blk_ok zcod none d zc_X11_keptWithin [(1, .iload_n 2, 2, [], none), (2, .iload_n 0, 3, [], none), (3, .invokestatic 309, 6, [275, 2, 1, 0, 598, 16, 17], none), (6, .invokestatic 314, 9, [274, 2, 1, 0, 599, 410, 17], none), (9, .ireturn, 10, [0], none)] (0, .iload_n 1, 1, [], none) (by decide +kernel) _ _ _).trans rfl
theorem E_X11_appendBytes (d : Nat) (M : zM) (l0 : Nat) (l1 : Int32) : evM zcod (d + 1) 147 [.ref l0, .int l1] M = evk zcod none d zc_X11_appendBytes 0 [(0, .ref l0), (1, .int l1)] [] M := evM_eq zcod d 147 _ M (Nat.le_of_ble_eq_true rfl)
set_option maxRecDepth 20000 in
set_option maxHeartbeats 4000000 in
theorem B_X11_appendBytes_0 (d : Nat) (S : mS) (I : mI) (L : mJ) (l0 : Nat) (l1 : Int32) :
  evk zcod none d zc_X11_appendBytes 0 [(0, .ref l0), (1, .int l1)] [] (S, I, L) =
  evk zcod none d zc_X11_appendBytes 3 [(0, .ref l0), (1, .int l1), (2, .int (nI 24))] [] (S, I, L) :=
  (blk_ok zcod none d zc_X11_appendBytes [(2, .istore_n 2, 3, [], none)] (0, .bipush 24, 2, [], none) (by decide +kernel) _ _ _).trans rfl
set_option maxRecDepth 20000 in
set_option maxHeartbeats 4000000 in
theorem B_X11_appendBytes_3 (d : Nat) (S : mS) (I : mI) (L : mJ) (l0 : Nat) (l1 : Int32) (l2 : Int32) :
  evk zcod none d zc_X11_appendBytes 3 [(0, .ref l0), (1, .int l1), (2, .int l2)] [] (S, I, L) =
  if l2 < (nI 0) then
 evk zcod none d zc_X11_appendBytes 48 [] [] (S, I, L)
 else
 if kK S l0 = 11 then
 (if kK S l0 = 11 then
 (if kK S (kR S l0 0) = 21 then
 (if (nI (kN S (kR S l0 0))) ≤ (I l0 1) then
 evk zcod none d zc_X11_appendBytes 42 [(0, .ref l0), (1, .int l1), (2, .int l2)] [] (S, I, L)
 else
 if kK S l0 = 11 then
 (if kK S l0 = 11 then
 (if kK S (kR S l0 0) = 21 ∧ zin (I l0 1) (kN S (kR S l0 0)) then
 (if kK S l0 = 11 then
 (if kK S l0 = 11 then
 (evk zcod none d zc_X11_appendBytes 42 [(0, .ref l0), (1, .int l1), (2, .int l2)] [] (S, (uI (uI I (kR S l0 0) (zix (I l0 1)) ((((l1.toUInt32 >>> (l2.toUInt32 &&& 31)).toInt32).toInt8.toInt32).toInt8.toInt32)) l0 1 (((uI I (kR S l0 0) (zix (I l0 1)) ((((l1.toUInt32 >>> (l2.toUInt32 &&& 31)).toInt32).toInt8.toInt32).toInt8.toInt32)) l0 1) + (nI 1))), L)) else none) else none) else none) else none) else none) else none) else none) else none :=
  (blk_ok zcod none d zc_X11_appendBytes [(4, .ifCond .lt 44, 7, [48], none), (7, .aload_n 0, 8, [], none), (8, .getfield 13, 11, [11, 1, 0, 442, 0], none), (11, .aload_n 0, 12, [], none), (12, .getfield 9, 15, [11, 0, 2, 441, 0], none), (15, .arraylength, 16, [21], none), (16, .if_icmp .ge 26, 19, [42], none), (19, .aload_n 0, 20, [], none), (20, .getfield 9, 23, [11, 0, 2, 441, 0], none), (23, .aload_n 0, 24, [], none), (24, .getfield 13, 27, [11, 1, 0, 442, 0], none), (27, .iload_n 1, 28, [], none), (28, .iload_n 2, 29, [], none), (29, .iushr, 30, [], none), (30, .i2b, 31, [], none), (31, .bastore, 32, [21], none), (32, .aload_n 0, 33, [], none), (33, .dup, 34, [], none), (34, .getfield 13, 37, [11, 1, 0, 442, 0], none), (37, .iconst 1, 38, [], none), (38, .iadd, 39, [], none), (39, .putfield 13, 42, [11, 1, 0, 442, 0, 0], none)] (3, .iload_n 2, 4, [], some [0, 1, 2]) (by decide +kernel) _ _ _).trans rfl
set_option maxRecDepth 20000 in
set_option maxHeartbeats 4000000 in
theorem R_X11_appendBytes_42 (d : Nat) (S : mS) (I : mI) (L : mJ) (l0 : Nat) (l1 : Int32) (l2 : Int32) :
  evk zcod none d zc_X11_appendBytes 42 [(0, .ref l0), (1, .int l1), (2, .int l2)] [] (S, I, L) =
  evk zcod none d zc_X11_appendBytes 3 [(0, .ref l0), (1, .int l1), (2, .int (l2 + (Int32.ofInt (-8))))] [] (S, I, L) :=
  (blk_ok zcod none d zc_X11_appendBytes [(45, .goto (-42), 48, [3], none)] (42, .iinc 2 (-8), 45, [], some [0, 1, 2]) (by decide +kernel) _ _ _).trans rfl
theorem B_X11_appendBytes_42 (d : Nat) (S : mS) (I : mI) (L : mJ) (l0 : Nat) (l1 : Int32) (l2 : Int32) :
  evk zcod none d zc_X11_appendBytes 42 [(0, .ref l0), (1, .int l1), (2, .int l2)] [] (S, I, L) =
  evk zcod none d zc_X11_appendBytes 3 [(0, .ref l0), (1, .int l1), (2, .int (l2 + (-8 : Int32)))] [] (S, I, L) := by
  have h := R_X11_appendBytes_42 d S I L l0 l1 l2
  simp only [cvN] at h
  exact h
set_option maxRecDepth 20000 in
set_option maxHeartbeats 4000000 in
theorem B_X11_appendBytes_48 (d : Nat) (S : mS) (I : mI) (L : mJ)  :
  evk zcod none d zc_X11_appendBytes 48 [] [] (S, I, L) =
  some (none, (S, I, L)) :=
  (blk_ok zcod none d zc_X11_appendBytes [] (48, .return_, 49, [], some []) (by decide +kernel) _ _ _).trans rfl
theorem E_X11_isPair (d : Nat) (M : zM) (l0 : Nat) (l1 : Int32) (l2 : Int32) : evM zcod (d + 1) 148 [.ref l0, .int l1, .int l2] M = evk zcod none d zc_X11_isPair 0 [(0, .ref l0), (1, .int l1), (2, .int l2)] [] M := evM_eq zcod d 148 _ M (Nat.le_of_ble_eq_true rfl)
set_option maxRecDepth 20000 in
set_option maxHeartbeats 4000000 in
theorem B_X11_isPair_0 (d : Nat) (S : mS) (I : mI) (L : mJ) (l0 : Nat) (l1 : Int32) (l2 : Int32) :
  evk zcod none d zc_X11_isPair 0 [(0, .ref l0), (1, .int l1), (2, .int l2)] [] (S, I, L) =
  if kK S l0 = 11 then
 (if kK S (kR S l0 6) = 8 then
 (if kK S (kR S (kR S l0 6) 0) = 9 then
 (bI (evM zcod d 2 [.ref (kR S (kR S l0 6) 0), .int l1] (S, I, L)) fun x1 M1 =>
 if M1.1.1 = S.1 then
 (if x1 = (nI 0) then
 evk zcod none d zc_X11_isPair 32 [] [] M1
 else
 if kK M1.1 l0 = 11 then
 (if kK M1.1 (kR M1.1 l0 6) = 8 then
 (if kK M1.1 (kR M1.1 (kR M1.1 l0 6) 1) = 9 then
 (bI (evM zcod d 2 [.ref (kR M1.1 (kR M1.1 l0 6) 1), .int l2] M1) fun x2 M2 =>
 if M2.1.1 = M1.1.1 then
 (if x2 = (nI 0) then
 evk zcod none d zc_X11_isPair 32 [] [] M2
 else
 evk zcod none d zc_X11_isPair 33 [] [.int (nI 1)] M2) else none) else none) else none) else none) else none) else none) else none) else none :=
  (blk_ok zcod none d zc_X11_isPair [(1, .getfield 42, 4, [11, 6, 2, 457, 0], none), (4, .getfield 133, 7, [8, 0, 2, 507, 1], none), (7, .iload_n 1, 8, [], none), (8, .invokevirtual 143, 11, [2, 1, 1, 9, 510, 65, 66, 11], none), (11, .ifCond .eq 21, 14, [32], none), (14, .aload_n 0, 15, [], none), (15, .getfield 42, 18, [11, 6, 2, 457, 0], none), (18, .getfield 140, 21, [8, 1, 2, 509, 1], none), (21, .iload_n 2, 22, [], none), (22, .invokevirtual 143, 25, [2, 1, 1, 9, 510, 65, 66, 11], none), (25, .ifCond .eq 7, 28, [32], none), (28, .iconst 1, 29, [], none), (29, .goto 4, 32, [33], none)] (0, .aload_n 0, 1, [], none) (by decide +kernel) _ _ _).trans rfl
set_option maxRecDepth 20000 in
set_option maxHeartbeats 4000000 in
theorem B_X11_isPair_32 (d : Nat) (S : mS) (I : mI) (L : mJ)  :
  evk zcod none d zc_X11_isPair 32 [] [] (S, I, L) =
  evk zcod none d zc_X11_isPair 33 [] [.int (nI 0)] (S, I, L) :=
  (blk_ok zcod none d zc_X11_isPair [] (32, .iconst 0, 33, [], some []) (by decide +kernel) _ _ _).trans rfl
set_option maxRecDepth 20000 in
set_option maxHeartbeats 4000000 in
theorem B_X11_isPair_33 (d : Nat) (S : mS) (I : mI) (L : mJ) (s0 : Int32) :
  evk zcod none d zc_X11_isPair 33 [] [.int s0] (S, I, L) =
  if s0 = nI 0 ∨ s0 = nI 1 then some (some (.int s0), (S, I, L)) else none :=
  (blk_ok zcod none d zc_X11_isPair [] (33, .ireturn, 34, [1], some []) (by decide +kernel) _ _ _).trans rfl
theorem E_X11_comesTo (d : Nat) (M : zM) (l0 : Nat) (l1 : Int32) (l2 : Int32) (l3 : Int32) (l4 : Int32) : evM zcod (d + 1) 149 [.ref l0, .int l1, .int l2, .int l3, .int l4] M = evk zcod none d zc_X11_comesTo 0 [(0, .ref l0), (1, .int l1), (2, .int l2), (3, .int l3), (4, .int l4)] [] M := evM_eq zcod d 149 _ M (Nat.le_of_ble_eq_true rfl)
set_option maxRecDepth 20000 in
set_option maxHeartbeats 4000000 in
theorem R_X11_comesTo_0 (d : Nat) (S : mS) (I : mI) (L : mJ) (l0 : Nat) (l1 : Int32) (l2 : Int32) (l3 : Int32) (l4 : Int32) :
  evk zcod none d zc_X11_comesTo 0 [(0, .ref l0), (1, .int l1), (2, .int l2), (3, .int l3), (4, .int l4)] [] (S, I, L) =
  bI (evM zcod d 145 [.int l3, .int ((Int8.ofInt (-3)).toInt32), .int (nI 3)] (S, I, L)) fun x1 M1 =>
 if M1.1.1 = S.1 then
 (if ¬ x1 = (nI 0) then
 evk zcod none d zc_X11_comesTo 12 [(0, .ref l0), (1, .int l1), (2, .int l2), (3, .int l3), (4, .int l4)] [] M1
 else
 some (some (.int (nI 0)), M1)) else none :=
  (blk_ok zcod none d zc_X11_comesTo [(1, .bipush (-3), 3, [], none), (3, .iconst 3, 4, [], none), (4, .invokestatic 109, 7, [145, 3, 1, 0, 491, 221, 222], none), (7, .ifCond .ne 5, 10, [12], none), (10, .iconst 0, 11, [], none), (11, .ireturn, 12, [1], none)] (0, .iload_n 3, 1, [], none) (by decide +kernel) _ _ _).trans rfl
theorem B_X11_comesTo_0 (d : Nat) (S : mS) (I : mI) (L : mJ) (l0 : Nat) (l1 : Int32) (l2 : Int32) (l3 : Int32) (l4 : Int32) :
  evk zcod none d zc_X11_comesTo 0 [(0, .ref l0), (1, .int l1), (2, .int l2), (3, .int l3), (4, .int l4)] [] (S, I, L) =
  bI (evM zcod d 145 [.int l3, .int (-3 : Int32), .int (nI 3)] (S, I, L)) fun x1 M1 =>
 if M1.1.1 = S.1 then
 (if ¬ x1 = (nI 0) then
 evk zcod none d zc_X11_comesTo 12 [(0, .ref l0), (1, .int l1), (2, .int l2), (3, .int l3), (4, .int l4)] [] M1
 else
 some (some (.int (nI 0)), M1)) else none := by
  have h := R_X11_comesTo_0 d S I L l0 l1 l2 l3 l4
  simp only [cvN] at h
  exact h
set_option maxRecDepth 20000 in
set_option maxHeartbeats 4000000 in
theorem B_X11_comesTo_12 (d : Nat) (S : mS) (I : mI) (L : mJ) (l0 : Nat) (l1 : Int32) (l2 : Int32) (l3 : Int32) (l4 : Int32) :
  evk zcod none d zc_X11_comesTo 12 [(0, .ref l0), (1, .int l1), (2, .int l2), (3, .int l3), (4, .int l4)] [] (S, I, L) =
  if kK S l0 = 11 then
 (if kK S (kR S l0 10) = 1 then
 (bV (evM zcod d 89 [.ref (kR S l0 10), .int l1, .int l2, .int l3, .int (nI 0)] (S, I, L)) fun M1 =>
 if M1.1.1 = S.1 then
 (if kK M1.1 l0 = 11 then
 (if kK M1.1 (kR M1.1 l0 10) = 1 then
 (if ¬ (M1.2.1 (kR M1.1 l0 10) 5) = l4 then
 evk zcod none d zc_X11_comesTo 39 [] [] M1
 else
 evk zcod none d zc_X11_comesTo 40 [] [.int (nI 1)] M1) else none) else none) else none) else none) else none :=
  (blk_ok zcod none d zc_X11_comesTo [(13, .getfield 76, 16, [11, 10, 2, 474, 0], none), (16, .iload_n 1, 17, [], none), (17, .iload_n 2, 18, [], none), (18, .iload_n 3, 19, [], none), (19, .iconst 0, 20, [], none), (20, .invokevirtual 209, 23, [89, 4, 0, 1, 540, 394, 395, 359], none), (23, .aload_n 0, 24, [], none), (24, .getfield 76, 27, [11, 10, 2, 474, 0], none), (27, .getfield 219, 30, [1, 5, 0, 543, 1], none), (30, .iload 4, 32, [], none), (32, .if_icmp .ne 7, 35, [39], none), (35, .iconst 1, 36, [], none), (36, .goto 4, 39, [40], none)] (12, .aload_n 0, 13, [], some [0, 1, 2, 3, 4]) (by decide +kernel) _ _ _).trans rfl
set_option maxRecDepth 20000 in
set_option maxHeartbeats 4000000 in
theorem B_X11_comesTo_39 (d : Nat) (S : mS) (I : mI) (L : mJ)  :
  evk zcod none d zc_X11_comesTo 39 [] [] (S, I, L) =
  evk zcod none d zc_X11_comesTo 40 [] [.int (nI 0)] (S, I, L) :=
  (blk_ok zcod none d zc_X11_comesTo [] (39, .iconst 0, 40, [], some []) (by decide +kernel) _ _ _).trans rfl
set_option maxRecDepth 20000 in
set_option maxHeartbeats 4000000 in
theorem B_X11_comesTo_40 (d : Nat) (S : mS) (I : mI) (L : mJ) (s0 : Int32) :
  evk zcod none d zc_X11_comesTo 40 [] [.int s0] (S, I, L) =
  if s0 = nI 0 ∨ s0 = nI 1 then some (some (.int s0), (S, I, L)) else none :=
  (blk_ok zcod none d zc_X11_comesTo [] (40, .ireturn, 41, [1], some []) (by decide +kernel) _ _ _).trans rfl
theorem E_X11_gainBehind (d : Nat) (M : zM) (l0 : Nat) (l1 : Int32) (l2 : Int32) (l3 : Int32) : evM zcod (d + 1) 150 [.ref l0, .int l1, .int l2, .int l3] M = evk zcod none d zc_X11_gainBehind 0 [(0, .ref l0), (1, .int l1), (2, .int l2), (3, .int l3)] [] M := evM_eq zcod d 150 _ M (Nat.le_of_ble_eq_true rfl)
set_option maxRecDepth 20000 in
set_option maxHeartbeats 4000000 in
theorem B_X11_gainBehind_0 (d : Nat) (S : mS) (I : mI) (L : mJ) (l0 : Nat) (l1 : Int32) (l2 : Int32) (l3 : Int32) :
  evk zcod none d zc_X11_gainBehind 0 [(0, .ref l0), (1, .int l1), (2, .int l2), (3, .int l3)] [] (S, I, L) =
  if kK S l0 = 11 then
 (if kK S l0 = 11 then
 (if kK S (kR S l0 6) = 8 then
 (if kK S (kR S (kR S l0 6) 1) = 9 then
 (bI (evM zcod d 5 [.ref (kR S (kR S l0 6) 1), .int l2, .int (nI 3)] (S, I, L)) fun x1 M1 =>
 if M1.1.1 = S.1 then
 (if kK M1.1 (kR S l0 10) = 1 then
 (bV (evM zcod d 89 [.ref (kR S l0 10), .int l1, .int l2, .int x1, .int l3] M1) fun M2 =>
 if M2.1.1 = M1.1.1 then
 (if kK M2.1 l0 = 11 then
 (if kK M2.1 l0 = 11 then
 (if kK M2.1 (kR M2.1 l0 6) = 8 then
 (if kK M2.1 l0 = 11 then
 (if kK M2.1 (kR M2.1 l0 6) = 8 then
 (bI (evM zcod d 24 [.ref (kR M2.1 l0 6)] M2) fun x3 M3 =>
 if M3.1.1 = M2.1.1 then
 (if kK M3.1 (kR M2.1 l0 8) = 7 then
 (bV (evM zcod d 69 [.ref (kR M2.1 l0 8), .int ((M2.2.1 (kR M2.1 l0 6) 3) + l3), .int (nI 0), .int x3] M3) fun M4 =>
 if M4.1.1 = M3.1.1 then
 (evk zcod none d zc_X11_gainBehind 46 [(0, .ref l0), (1, .int l1), (2, .int l2), (3, .int l3)] [] M4) else none) else none) else none) else none) else none) else none) else none) else none) else none) else none) else none) else none) else none) else none) else none :=
  (blk_ok zcod none d zc_X11_gainBehind [(1, .getfield 76, 4, [11, 10, 2, 474, 0], none), (4, .iload_n 1, 5, [], none), (5, .iload_n 2, 6, [], none), (6, .aload_n 0, 7, [], none), (7, .getfield 42, 10, [11, 6, 2, 457, 0], none), (10, .getfield 140, 13, [8, 1, 2, 509, 1], none), (13, .iload_n 2, 14, [], none), (14, .iconst 3, 15, [], none), (15, .invokevirtual 136, 18, [5, 2, 1, 9, 508, 55, 56, 11], none), (18, .iload_n 3, 19, [], none), (19, .invokevirtual 209, 22, [89, 4, 0, 1, 540, 394, 395, 359], none), (22, .aload_n 0, 23, [], none), (23, .getfield 58, 26, [11, 8, 2, 464, 0], none), (26, .aload_n 0, 27, [], none), (27, .getfield 42, 30, [11, 6, 2, 457, 0], none), (30, .getfield 150, 33, [8, 3, 0, 512, 1], none), (33, .iload_n 3, 34, [], none), (34, .iadd, 35, [], none), (35, .iconst 0, 36, [], none), (36, .aload_n 0, 37, [], none), (37, .getfield 42, 40, [11, 6, 2, 457, 0], none), (40, .invokevirtual 156, 43, [24, 0, 1, 8, 514, 305, 306, 60], none), (43, .invokevirtual 159, 46, [69, 3, 0, 7, 515, 308, 309, 261], none)] (0, .aload_n 0, 1, [], none) (by decide +kernel) _ _ _).trans rfl
set_option maxRecDepth 20000 in
set_option maxHeartbeats 4000000 in
theorem B_X11_gainBehind_46 (d : Nat) (S : mS) (I : mI) (L : mJ) (l0 : Nat) (l1 : Int32) (l2 : Int32) (l3 : Int32) :
  evk zcod none d zc_X11_gainBehind 46 [(0, .ref l0), (1, .int l1), (2, .int l2), (3, .int l3)] [] (S, I, L) =
  if kK S l0 = 11 then
 (if kK S l0 = 11 then
 (if kK S (kR S l0 6) = 8 then
 (if kK S (kR S (kR S l0 6) 1) = 9 then
 (bI (evM zcod d 5 [.ref (kR S (kR S l0 6) 1), .int l2, .int (nI 0)] (S, I, L)) fun x1 M1 =>
 if M1.1.1 = S.1 then
 (if kK M1.1 l0 = 11 then
 (if kK M1.1 (kR M1.1 l0 6) = 8 then
 (if kK M1.1 (kR M1.1 (kR M1.1 l0 6) 0) = 9 then
 (bI (evM zcod d 5 [.ref (kR M1.1 (kR M1.1 l0 6) 0), .int l1, .int (nI 1)] M1) fun x2 M2 =>
 if M2.1.1 = M1.1.1 then
 (if kK M2.1 (kR S l0 8) = 7 then
 (bI (evM zcod d 72 [.ref (kR S l0 8), .int x1, .int x2] M2) fun x3 M3 =>
 if M3.1.1 = M2.1.1 then
 (if kK M3.1 l0 = 11 then
 (if kK M3.1 (kR M3.1 l0 10) = 1 then
 (some (some (.int (((M3.2.1 (kR M3.1 l0 10) 7) - x3) - l3)), M3)) else none) else none) else none) else none) else none) else none) else none) else none) else none) else none) else none) else none) else none :=
  (blk_ok zcod none d zc_X11_gainBehind [(47, .getfield 58, 50, [11, 8, 2, 464, 0], none), (50, .aload_n 0, 51, [], none), (51, .getfield 42, 54, [11, 6, 2, 457, 0], none), (54, .getfield 140, 57, [8, 1, 2, 509, 1], none), (57, .iload_n 2, 58, [], none), (58, .iconst 0, 59, [], none), (59, .invokevirtual 136, 62, [5, 2, 1, 9, 508, 55, 56, 11], none), (62, .aload_n 0, 63, [], none), (63, .getfield 42, 66, [11, 6, 2, 457, 0], none), (66, .getfield 133, 69, [8, 0, 2, 507, 1], none), (69, .iload_n 1, 70, [], none), (70, .iconst 1, 71, [], none), (71, .invokevirtual 136, 74, [5, 2, 1, 9, 508, 55, 56, 11], none), (74, .invokevirtual 170, 77, [72, 2, 1, 7, 518, 404, 405, 261], none), (77, .istore 4, 79, [], none), (79, .aload_n 0, 80, [], none), (80, .getfield 76, 83, [11, 10, 2, 474, 0], none), (83, .getfield 317, 86, [1, 7, 0, 600, 1], none), (86, .iload 4, 88, [], none), (88, .isub, 89, [], none), (89, .iload_n 3, 90, [], none), (90, .isub, 91, [], none), (91, .ireturn, 92, [0], none)] (46, .aload_n 0, 47, [], some [0, 1, 2, 3]) (by decide +kernel) _ _ _).trans rfl
theorem E_X11_tryHours (d : Nat) (M : zM) (l0 : Nat) (l1 : Int32) (l2 : Int32) : evM zcod (d + 1) 151 [.ref l0, .int l1, .int l2] M = evk zcod none d zc_X11_tryHours 0 [(0, .ref l0), (1, .int l1), (2, .int l2)] [] M := evM_eq zcod d 151 _ M (Nat.le_of_ble_eq_true rfl)
set_option maxRecDepth 20000 in
set_option maxHeartbeats 4000000 in
theorem B_X11_tryHours_0 (d : Nat) (S : mS) (I : mI) (L : mJ) (l0 : Nat) (l1 : Int32) (l2 : Int32) :
  evk zcod none d zc_X11_tryHours 0 [(0, .ref l0), (1, .int l1), (2, .int l2)] [] (S, I, L) =
  if kK S l0 = 11 then
 (if kK S l0 = 11 then
 (if kK S (kR S l0 7) = 8 then
 (bV (evM zcod d 21 [.ref (kR S l0 7), .ref (kR S l0 6)] (S, I, L)) fun M1 =>
 if M1.1.1 = S.1 then
 (if kK M1.1 l0 = 11 then
 (if kK M1.1 l0 = 11 then
 (if kK M1.1 (kR M1.1 l0 9) = 0 then
 (bV (evM zcod d 82 [.ref (kR M1.1 l0 9), .ref (kR M1.1 l0 7), .int l1, .int l2] M1) fun M2 =>
 if M2.1.1 = M1.1.1 then
 (some (none, M2)) else none) else none) else none) else none) else none) else none) else none) else none :=
  (blk_ok zcod none d zc_X11_tryHours [(1, .getfield 46, 4, [11, 7, 2, 458, 0], none), (4, .aload_n 0, 5, [], none), (5, .getfield 42, 8, [11, 6, 2, 457, 0], none), (8, .invokevirtual 126, 11, [21, 1, 0, 8, 502, 101, 102, 60], none), (11, .aload_n 0, 12, [], none), (12, .getfield 67, 15, [11, 9, 2, 469, 0], none), (15, .aload_n 0, 16, [], none), (16, .getfield 46, 19, [11, 7, 2, 458, 0], none), (19, .iload_n 1, 20, [], none), (20, .iload_n 2, 21, [], none), (21, .invokevirtual 201, 24, [82, 3, 0, 0, 534, 535, 536, 290], none), (24, .return_, 25, [], none)] (0, .aload_n 0, 1, [], none) (by decide +kernel) _ _ _).trans rfl
theorem E_X11_bitOf (d : Nat) (M : zM) (l0 : Int32) : evM zcod (d + 1) 152 [.int l0] M = evk zcod none d zc_X11_bitOf 0 [(0, .int l0)] [] M := evM_eq zcod d 152 _ M (Nat.le_of_ble_eq_true rfl)
set_option maxRecDepth 20000 in
set_option maxHeartbeats 4000000 in
theorem B_X11_bitOf_0 (d : Nat) (S : mS) (I : mI) (L : mJ) (l0 : Int32) :
  evk zcod none d zc_X11_bitOf 0 [(0, .int l0)] [] (S, I, L) =
  some (some (.int ((nI 1) <<< ((l0 + (nI 3)) &&& nI 31))), (S, I, L)) :=
  (blk_ok zcod none d zc_X11_bitOf [(1, .iload_n 0, 2, [], none), (2, .iconst 3, 3, [], none), (3, .iadd, 4, [], none), (4, .ishl, 5, [], none), (5, .ireturn, 6, [0], none)] (0, .iconst 1, 1, [], none) (by decide +kernel) _ _ _).trans rfl
theorem E_X11_pullsKnownBy (d : Nat) (M : zM) (l0 : Nat) (l1 : Int32) : evM zcod (d + 1) 153 [.ref l0, .int l1] M = evk zcod none d zc_X11_pullsKnownBy 0 [(0, .ref l0), (1, .int l1)] [] M := evM_eq zcod d 153 _ M (Nat.le_of_ble_eq_true rfl)
set_option maxRecDepth 20000 in
set_option maxHeartbeats 4000000 in
theorem R_X11_pullsKnownBy_0 (d : Nat) (S : mS) (I : mI) (L : mJ) (l0 : Nat) (l1 : Int32) :
  evk zcod none d zc_X11_pullsKnownBy 0 [(0, .ref l0), (1, .int l1)] [] (S, I, L) =
  evk zcod none d zc_X11_pullsKnownBy 5 [(0, .ref l0), (1, .int l1), (2, .int (nI 0)), (3, .int ((Int8.ofInt (-3)).toInt32))] [] (S, I, L) :=
  (blk_ok zcod none d zc_X11_pullsKnownBy [(1, .istore_n 2, 2, [], none), (2, .bipush (-3), 4, [], none), (4, .istore_n 3, 5, [], none)] (0, .iconst 0, 1, [], none) (by decide +kernel) _ _ _).trans rfl
theorem B_X11_pullsKnownBy_0 (d : Nat) (S : mS) (I : mI) (L : mJ) (l0 : Nat) (l1 : Int32) :
  evk zcod none d zc_X11_pullsKnownBy 0 [(0, .ref l0), (1, .int l1)] [] (S, I, L) =
  evk zcod none d zc_X11_pullsKnownBy 5 [(0, .ref l0), (1, .int l1), (2, .int (nI 0)), (3, .int (-3 : Int32))] [] (S, I, L) := by
  have h := R_X11_pullsKnownBy_0 d S I L l0 l1
  simp only [cvN] at h
  exact h
set_option maxRecDepth 20000 in
set_option maxHeartbeats 4000000 in
theorem B_X11_pullsKnownBy_5 (d : Nat) (S : mS) (I : mI) (L : mJ) (l0 : Nat) (l1 : Int32) (l2 : Int32) (l3 : Int32) :
  evk zcod none d zc_X11_pullsKnownBy 5 [(0, .ref l0), (1, .int l1), (2, .int l2), (3, .int l3)] [] (S, I, L) =
  if (nI 3) < l3 then
 evk zcod none d zc_X11_pullsKnownBy 32 [(2, .int l2)] [] (S, I, L)
 else
 if kK S l0 = 11 then
 (bI (evM zcod d 154 [.ref l0, .int l1, .int l3] (S, I, L)) fun x1 M1 =>
 if M1.1.1 = S.1 then
 (if x1 = (nI 0) then
 evk zcod none d zc_X11_pullsKnownBy 26 [(0, .ref l0), (1, .int l1), (2, .int l2), (3, .int l3)] [] M1
 else
 bI (evM zcod d 152 [.int l3] M1) fun x2 M2 =>
 if M2.1.1 = M1.1.1 then
 (evk zcod none d zc_X11_pullsKnownBy 26 [(0, .ref l0), (1, .int l1), (2, .int (l2 ||| x2)), (3, .int l3)] [] M2) else none) else none) else none :=
  (blk_ok zcod none d zc_X11_pullsKnownBy [(6, .iconst 3, 7, [], none), (7, .if_icmp .gt 25, 10, [32], none), (10, .aload_n 0, 11, [], none), (11, .iload_n 1, 12, [], none), (12, .iload_n 3, 13, [], none), (13, .invokevirtual 318, 16, [154, 2, 1, 11, 601, 602, 603, 222], none), (16, .ifCond .eq 10, 19, [26], none), (19, .iload_n 2, 20, [], none), (20, .iload_n 3, 21, [], none), (21, .invokestatic 284, 24, [152, 1, 1, 0, 581, 582, 222], none), (24, .ior, 25, [], none), (25, .istore_n 2, 26, [], none)] (5, .iload_n 3, 6, [], some [0, 1, 2, 3]) (by decide +kernel) _ _ _).trans rfl
set_option maxRecDepth 20000 in
set_option maxHeartbeats 4000000 in
theorem B_X11_pullsKnownBy_26 (d : Nat) (S : mS) (I : mI) (L : mJ) (l0 : Nat) (l1 : Int32) (l2 : Int32) (l3 : Int32) :
  evk zcod none d zc_X11_pullsKnownBy 26 [(0, .ref l0), (1, .int l1), (2, .int l2), (3, .int l3)] [] (S, I, L) =
  evk zcod none d zc_X11_pullsKnownBy 5 [(0, .ref l0), (1, .int l1), (2, .int l2), (3, .int (l3 + (nI 1)))] [] (S, I, L) :=
  (blk_ok zcod none d zc_X11_pullsKnownBy [(29, .goto (-24), 32, [5], none)] (26, .iinc 3 1, 29, [], some [0, 1, 2, 3]) (by decide +kernel) _ _ _).trans rfl
set_option maxRecDepth 20000 in
set_option maxHeartbeats 4000000 in
theorem B_X11_pullsKnownBy_32 (d : Nat) (S : mS) (I : mI) (L : mJ) (l2 : Int32) :
  evk zcod none d zc_X11_pullsKnownBy 32 [(2, .int l2)] [] (S, I, L) =
  some (some (.int l2), (S, I, L)) :=
  (blk_ok zcod none d zc_X11_pullsKnownBy [(33, .ireturn, 34, [0], none)] (32, .iload_n 2, 33, [], some [2]) (by decide +kernel) _ _ _).trans rfl
theorem E_X11_fitsKnown (d : Nat) (M : zM) (l0 : Nat) (l1 : Int32) (l2 : Int32) : evM zcod (d + 1) 154 [.ref l0, .int l1, .int l2] M = evk zcod none d zc_X11_fitsKnown 0 [(0, .ref l0), (1, .int l1), (2, .int l2)] [] M := evM_eq zcod d 154 _ M (Nat.le_of_ble_eq_true rfl)
set_option maxRecDepth 20000 in
set_option maxHeartbeats 4000000 in
theorem B_X11_fitsKnown_0 (d : Nat) (S : mS) (I : mI) (L : mJ) (l0 : Nat) (l1 : Int32) (l2 : Int32) :
  evk zcod none d zc_X11_fitsKnown 0 [(0, .ref l0), (1, .int l1), (2, .int l2)] [] (S, I, L) =
  evk zcod none d zc_X11_fitsKnown 2 [(0, .ref l0), (1, .int l1), (2, .int l2), (3, .int (nI 0))] [] (S, I, L) :=
  (blk_ok zcod none d zc_X11_fitsKnown [(1, .istore_n 3, 2, [], none)] (0, .iconst 0, 1, [], none) (by decide +kernel) _ _ _).trans rfl
set_option maxRecDepth 20000 in
set_option maxHeartbeats 4000000 in
theorem B_X11_fitsKnown_2 (d : Nat) (S : mS) (I : mI) (L : mJ) (l0 : Nat) (l1 : Int32) (l2 : Int32) (l3 : Int32) :
  evk zcod none d zc_X11_fitsKnown 2 [(0, .ref l0), (1, .int l1), (2, .int l2), (3, .int l3)] [] (S, I, L) =
  if l1 ≤ l3 then
 evk zcod none d zc_X11_fitsKnown 95 [] [] (S, I, L)
 else
 if kK S l0 = 11 then
 (if kK S l0 = 11 then
 (if kK S (kR S l0 13) = 9 then
 (bI (evM zcod d 5 [.ref (kR S l0 13), .int l3, .int (nI 0)] (S, I, L)) fun x1 M1 =>
 if M1.1.1 = S.1 then
 (if kK M1.1 l0 = 11 then
 (if kK M1.1 (kR M1.1 l0 13) = 9 then
 (bI (evM zcod d 5 [.ref (kR M1.1 l0 13), .int l3, .int (nI 1)] M1) fun x2 M2 =>
 if M2.1.1 = M1.1.1 then
 (if kK M2.1 l0 = 11 then
 (if kK M2.1 (kR M2.1 l0 13) = 9 then
 (bI (evM zcod d 5 [.ref (kR M2.1 l0 13), .int l3, .int (nI 2)] M2) fun x3 M3 =>
 if M3.1.1 = M2.1.1 then
 (if kK M3.1 l0 = 11 then
 (if kK M3.1 (kR M3.1 l0 6) = 8 then
 (if kK M3.1 l0 = 11 then
 (if kK M3.1 (kR M3.1 l0 13) = 9 then
 (bI (evM zcod d 5 [.ref (kR M3.1 l0 13), .int l3, .int (nI 3)] M3) fun x4 M4 =>
 if M4.1.1 = M3.1.1 then
 (if kK M4.1 (kR S l0 10) = 1 then
 (bV (evM zcod d 90 [.ref (kR S l0 10), .int x1, .int x2, .int l2, .int x3, .int (M3.2.1 (kR M3.1 l0 6) 3), .int x4] M4) fun M5 =>
 if M5.1.1 = M4.1.1 then
 (evk zcod none d zc_X11_fitsKnown 58 [(0, .ref l0), (1, .int l1), (2, .int l2), (3, .int l3)] [] M5) else none) else none) else none) else none) else none) else none) else none) else none) else none) else none) else none) else none) else none) else none) else none) else none) else none :=
  (blk_ok zcod none d zc_X11_fitsKnown [(3, .iload_n 1, 4, [], none), (4, .if_icmp .ge 91, 7, [95], none), (7, .aload_n 0, 8, [], none), (8, .getfield 76, 11, [11, 10, 2, 474, 0], none), (11, .aload_n 0, 12, [], none), (12, .getfield 101, 15, [11, 13, 2, 487, 0], none), (15, .iload_n 3, 16, [], none), (16, .iconst 0, 17, [], none), (17, .invokevirtual 136, 20, [5, 2, 1, 9, 508, 55, 56, 11], none), (20, .aload_n 0, 21, [], none), (21, .getfield 101, 24, [11, 13, 2, 487, 0], none), (24, .iload_n 3, 25, [], none), (25, .iconst 1, 26, [], none), (26, .invokevirtual 136, 29, [5, 2, 1, 9, 508, 55, 56, 11], none), (29, .iload_n 2, 30, [], none), (30, .aload_n 0, 31, [], none), (31, .getfield 101, 34, [11, 13, 2, 487, 0], none), (34, .iload_n 3, 35, [], none), (35, .iconst 2, 36, [], none), (36, .invokevirtual 136, 39, [5, 2, 1, 9, 508, 55, 56, 11], none), (39, .aload_n 0, 40, [], none), (40, .getfield 42, 43, [11, 6, 2, 457, 0], none), (43, .getfield 150, 46, [8, 3, 0, 512, 1], none), (46, .aload_n 0, 47, [], none), (47, .getfield 101, 50, [11, 13, 2, 487, 0], none), (50, .iload_n 3, 51, [], none), (51, .iconst 3, 52, [], none), (52, .invokevirtual 136, 55, [5, 2, 1, 9, 508, 55, 56, 11], none), (55, .invokevirtual 232, 58, [90, 6, 0, 1, 549, 357, 358, 359], none)] (2, .iload_n 3, 3, [], some [0, 1, 2, 3]) (by decide +kernel) _ _ _).trans rfl
set_option maxRecDepth 20000 in
set_option maxHeartbeats 4000000 in
theorem B_X11_fitsKnown_58 (d : Nat) (S : mS) (I : mI) (L : mJ) (l0 : Nat) (l1 : Int32) (l2 : Int32) (l3 : Int32) :
  evk zcod none d zc_X11_fitsKnown 58 [(0, .ref l0), (1, .int l1), (2, .int l2), (3, .int l3)] [] (S, I, L) =
  if kK S l0 = 11 then
 (if kK S (kR S l0 10) = 1 then
 (if ¬ (I (kR S l0 10) 4) = (nI 0) then
 evk zcod none d zc_X11_fitsKnown 87 [] [] (S, I, L)
 else
 if kK S l0 = 11 then
 (if kK S (kR S l0 10) = 1 then
 (if kK S l0 = 11 then
 (if kK S (kR S l0 13) = 9 then
 (bI (evM zcod d 5 [.ref (kR S l0 13), .int l3, .int (nI 4)] (S, I, L)) fun x1 M1 =>
 if M1.1.1 = S.1 then
 (if (I (kR S l0 10) 6) = x1 then
 evk zcod none d zc_X11_fitsKnown 89 [(0, .ref l0), (1, .int l1), (2, .int l2), (3, .int l3)] [] M1
 else
 evk zcod none d zc_X11_fitsKnown 87 [] [] M1) else none) else none) else none) else none) else none) else none) else none :=
  (blk_ok zcod none d zc_X11_fitsKnown [(59, .getfield 76, 62, [11, 10, 2, 474, 0], none), (62, .getfield 216, 65, [1, 4, 0, 542, 1], none), (65, .ifCond .ne 22, 68, [87], none), (68, .aload_n 0, 69, [], none), (69, .getfield 76, 72, [11, 10, 2, 474, 0], none), (72, .getfield 222, 75, [1, 6, 0, 544, 1], none), (75, .aload_n 0, 76, [], none), (76, .getfield 101, 79, [11, 13, 2, 487, 0], none), (79, .iload_n 3, 80, [], none), (80, .iconst 4, 81, [], none), (81, .invokevirtual 136, 84, [5, 2, 1, 9, 508, 55, 56, 11], none), (84, .if_icmp .eq 5, 87, [89], none)] (58, .aload_n 0, 59, [], some [0, 1, 2, 3]) (by decide +kernel) _ _ _).trans rfl
set_option maxRecDepth 20000 in
set_option maxHeartbeats 4000000 in
theorem B_X11_fitsKnown_87 (d : Nat) (S : mS) (I : mI) (L : mJ)  :
  evk zcod none d zc_X11_fitsKnown 87 [] [] (S, I, L) =
  some (some (.int (nI 0)), (S, I, L)) :=
  (blk_ok zcod none d zc_X11_fitsKnown [(88, .ireturn, 89, [1], none)] (87, .iconst 0, 88, [], some []) (by decide +kernel) _ _ _).trans rfl
set_option maxRecDepth 20000 in
set_option maxHeartbeats 4000000 in
theorem B_X11_fitsKnown_89 (d : Nat) (S : mS) (I : mI) (L : mJ) (l0 : Nat) (l1 : Int32) (l2 : Int32) (l3 : Int32) :
  evk zcod none d zc_X11_fitsKnown 89 [(0, .ref l0), (1, .int l1), (2, .int l2), (3, .int l3)] [] (S, I, L) =
  evk zcod none d zc_X11_fitsKnown 2 [(0, .ref l0), (1, .int l1), (2, .int l2), (3, .int (l3 + (nI 1)))] [] (S, I, L) :=
  (blk_ok zcod none d zc_X11_fitsKnown [(92, .goto (-90), 95, [2], none)] (89, .iinc 3 1, 92, [], some [0, 1, 2, 3]) (by decide +kernel) _ _ _).trans rfl
set_option maxRecDepth 20000 in
set_option maxHeartbeats 4000000 in
theorem B_X11_fitsKnown_95 (d : Nat) (S : mS) (I : mI) (L : mJ)  :
  evk zcod none d zc_X11_fitsKnown 95 [] [] (S, I, L) =
  some (some (.int (nI 1)), (S, I, L)) :=
  (blk_ok zcod none d zc_X11_fitsKnown [(96, .ireturn, 97, [1], none)] (95, .iconst 1, 96, [], some []) (by decide +kernel) _ _ _).trans rfl
