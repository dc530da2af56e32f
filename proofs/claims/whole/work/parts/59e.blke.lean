/-! block equations over (S, I, L): 59e.blke -/
theorem E_X12_feed (d : Nat) (M : zM) (l0 : Nat) (l1 : Int32) (l2 : Int32) (l3 : Int32) (l4 : Int32) (l5 : Int32) : evM zcod (d + 1) 156 [.ref l0, .int l1, .int l2, .int l3, .int l4, .int l5] M = evk zcod none d zc_X12_feed 0 [(0, .ref l0), (1, .int l1), (2, .int l2), (3, .int l3), (4, .int l4), (5, .int l5)] [] M := evM_eq zcod d 156 _ M (Nat.le_of_ble_eq_true rfl)
set_option maxRecDepth 20000 in
set_option maxHeartbeats 4000000 in
theorem R_X12_feed_0 (d : Nat) (S : mS) (I : mI) (L : mJ) (l0 : Nat) (l1 : Int32) (l2 : Int32) (l3 : Int32) (l4 : Int32) (l5 : Int32) :
  evk zcod none d zc_X12_feed 0 [(0, .ref l0), (1, .int l1), (2, .int l2), (3, .int l3), (4, .int l4), (5, .int l5)] [] (S, I, L) =
  if kK S l0 = 12 then
 (if ((I l0 2) + (nI 20)) ≤ (nI 2000) then
 evk zcod none d zc_X12_feed 15 [(0, .ref l0), (1, .int l1), (2, .int l2), (3, .int l3), (4, .int l4), (5, .int l5)] [] (S, I, L)
 else
 some (some (.int (Int32.ofInt (-1))), (S, I, L))) else none :=
  (blk_ok zcod none d zc_X12_feed [(1, .getfield 190, 4, [12, 2, 0, 671, 0], none), (4, .bipush 20, 6, [], none), (6, .iadd, 7, [], none), (7, .sipush 2000, 10, [], none), (10, .if_icmp .le 5, 13, [15], none), (13, .iconst (-1), 14, [], none), (14, .ireturn, 15, [0], none)] (0, .aload_n 0, 1, [], none) (by decide +kernel) _ _ _).trans rfl
theorem B_X12_feed_0 (d : Nat) (S : mS) (I : mI) (L : mJ) (l0 : Nat) (l1 : Int32) (l2 : Int32) (l3 : Int32) (l4 : Int32) (l5 : Int32) :
  evk zcod none d zc_X12_feed 0 [(0, .ref l0), (1, .int l1), (2, .int l2), (3, .int l3), (4, .int l4), (5, .int l5)] [] (S, I, L) =
  if kK S l0 = 12 then
 (if ((I l0 2) + (nI 20)) ≤ (nI 2000) then
 evk zcod none d zc_X12_feed 15 [(0, .ref l0), (1, .int l1), (2, .int l2), (3, .int l3), (4, .int l4), (5, .int l5)] [] (S, I, L)
 else
 some (some (.int (-1 : Int32)), (S, I, L))) else none := by
  have h := R_X12_feed_0 d S I L l0 l1 l2 l3 l4 l5
  simp only [cvN] at h
  exact h
set_option maxRecDepth 20000 in
set_option maxHeartbeats 4000000 in
theorem B_X12_feed_15 (d : Nat) (S : mS) (I : mI) (L : mJ) (l0 : Nat) (l1 : Int32) (l2 : Int32) (l3 : Int32) (l4 : Int32) (l5 : Int32) :
  evk zcod none d zc_X12_feed 15 [(0, .ref l0), (1, .int l1), (2, .int l2), (3, .int l3), (4, .int l4), (5, .int l5)] [] (S, I, L) =
  if kK S l0 = 12 then
 (bV (evM zcod d 157 [.ref l0, .int l1] (S, I, L)) fun M1 =>
 if M1.1.1 = S.1 then
 (if kK M1.1 l0 = 12 then
 (bV (evM zcod d 157 [.ref l0, .int l2] M1) fun M2 =>
 if M2.1.1 = M1.1.1 then
 (if kK M2.1 l0 = 12 then
 (bV (evM zcod d 157 [.ref l0, .int l3] M2) fun M3 =>
 if M3.1.1 = M2.1.1 then
 (if kK M3.1 l0 = 12 then
 (bV (evM zcod d 157 [.ref l0, .int l4] M3) fun M4 =>
 if M4.1.1 = M3.1.1 then
 (evk zcod none d zc_X12_feed 36 [(0, .ref l0), (5, .int l5)] [] M4) else none) else none) else none) else none) else none) else none) else none) else none :=
  (blk_ok zcod none d zc_X12_feed [(16, .iload_n 1, 17, [], none), (17, .invokevirtual 193, 20, [157, 1, 0, 12, 672, 673, 674, 662], none), (20, .aload_n 0, 21, [], none), (21, .iload_n 2, 22, [], none), (22, .invokevirtual 193, 25, [157, 1, 0, 12, 672, 673, 674, 662], none), (25, .aload_n 0, 26, [], none), (26, .iload_n 3, 27, [], none), (27, .invokevirtual 193, 30, [157, 1, 0, 12, 672, 673, 674, 662], none), (30, .aload_n 0, 31, [], none), (31, .iload 4, 33, [], none), (33, .invokevirtual 193, 36, [157, 1, 0, 12, 672, 673, 674, 662], none)] (15, .aload_n 0, 16, [], some [0, 1, 2, 3, 4, 5]) (by decide +kernel) _ _ _).trans rfl
set_option maxRecDepth 20000 in
set_option maxHeartbeats 4000000 in
theorem B_X12_feed_36 (d : Nat) (S : mS) (I : mI) (L : mJ) (l0 : Nat) (l5 : Int32) :
  evk zcod none d zc_X12_feed 36 [(0, .ref l0), (5, .int l5)] [] (S, I, L) =
  if kK S l0 = 12 then
 (bV (evM zcod d 157 [.ref l0, .int l5] (S, I, L)) fun M1 =>
 if M1.1.1 = S.1 then
 (if kK M1.1 l0 = 12 then
 (some (some (.int (M1.2.1 l0 2)), M1)) else none) else none) else none :=
  (blk_ok zcod none d zc_X12_feed [(37, .iload 5, 39, [], none), (39, .invokevirtual 193, 42, [157, 1, 0, 12, 672, 673, 674, 662], none), (42, .aload_n 0, 43, [], none), (43, .getfield 190, 46, [12, 2, 0, 671, 0], none), (46, .ireturn, 47, [0], none)] (36, .aload_n 0, 37, [], some [0, 5]) (by decide +kernel) _ _ _).trans rfl
theorem E_X12_put (d : Nat) (M : zM) (l0 : Nat) (l1 : Int32) : evM zcod (d + 1) 157 [.ref l0, .int l1] M = evk zcod none d zc_X12_put 0 [(0, .ref l0), (1, .int l1)] [] M := evM_eq zcod d 157 _ M (Nat.le_of_ble_eq_true rfl)
set_option maxRecDepth 20000 in
set_option maxHeartbeats 4000000 in
theorem B_X12_put_0 (d : Nat) (S : mS) (I : mI) (L : mJ) (l0 : Nat) (l1 : Int32) :
  evk zcod none d zc_X12_put 0 [(0, .ref l0), (1, .int l1)] [] (S, I, L) =
  evk zcod none d zc_X12_put 3 [(0, .ref l0), (1, .int l1), (2, .int (nI 24))] [] (S, I, L) :=
  (blk_ok zcod none d zc_X12_put [(2, .istore_n 2, 3, [], none)] (0, .bipush 24, 2, [], none) (by decide +kernel) _ _ _).trans rfl
set_option maxRecDepth 20000 in
set_option maxHeartbeats 4000000 in
theorem R_X12_put_3 (d : Nat) (S : mS) (I : mI) (L : mJ) (l0 : Nat) (l1 : Int32) (l2 : Int32) :
  evk zcod none d zc_X12_put 3 [(0, .ref l0), (1, .int l1), (2, .int l2)] [] (S, I, L) =
  if l2 < (nI 0) then
 evk zcod none d zc_X12_put 36 [] [] (S, I, L)
 else
 if kK S l0 = 12 then
 (if kK S l0 = 12 then
 (if kK S (kR S l0 1) = 21 ∧ zin (I l0 2) (kN S (kR S l0 1)) then
 (if kK S l0 = 12 then
 (if kK S l0 = 12 then
 (evk zcod none d zc_X12_put 3 [(0, .ref l0), (1, .int l1), (2, .int (l2 + (Int32.ofInt (-8))))] [] (S, (uI (uI I (kR S l0 1) (zix (I l0 2)) (((l1 >>> (l2 &&& nI 31)).toInt8.toInt32).toInt8.toInt32)) l0 2 (((uI I (kR S l0 1) (zix (I l0 2)) (((l1 >>> (l2 &&& nI 31)).toInt8.toInt32).toInt8.toInt32)) l0 2) + (nI 1))), L)) else none) else none) else none) else none) else none :=
  (blk_ok zcod none d zc_X12_put [(4, .ifCond .lt 32, 7, [36], none), (7, .aload_n 0, 8, [], none), (8, .getfield 13, 11, [12, 1, 2, 605, 0], none), (11, .aload_n 0, 12, [], none), (12, .getfield 190, 15, [12, 2, 0, 671, 0], none), (15, .iload_n 1, 16, [], none), (16, .iload_n 2, 17, [], none), (17, .ishr, 18, [], none), (18, .i2b, 19, [], none), (19, .bastore, 20, [21], none), (20, .aload_n 0, 21, [], none), (21, .dup, 22, [], none), (22, .getfield 190, 25, [12, 2, 0, 671, 0], none), (25, .iconst 1, 26, [], none), (26, .iadd, 27, [], none), (27, .putfield 190, 30, [12, 2, 0, 671, 0, 0], none), (30, .iinc 2 (-8), 33, [], none), (33, .goto (-30), 36, [3], none)] (3, .iload_n 2, 4, [], some [0, 1, 2]) (by decide +kernel) _ _ _).trans rfl
theorem B_X12_put_3 (d : Nat) (S : mS) (I : mI) (L : mJ) (l0 : Nat) (l1 : Int32) (l2 : Int32) :
  evk zcod none d zc_X12_put 3 [(0, .ref l0), (1, .int l1), (2, .int l2)] [] (S, I, L) =
  if l2 < (nI 0) then
 evk zcod none d zc_X12_put 36 [] [] (S, I, L)
 else
 if kK S l0 = 12 then
 (if kK S l0 = 12 then
 (if kK S (kR S l0 1) = 21 ∧ zin (I l0 2) (kN S (kR S l0 1)) then
 (if kK S l0 = 12 then
 (if kK S l0 = 12 then
 (evk zcod none d zc_X12_put 3 [(0, .ref l0), (1, .int l1), (2, .int (l2 + (-8 : Int32)))] [] (S, (uI (uI I (kR S l0 1) (zix (I l0 2)) (((l1 >>> (l2 &&& nI 31)).toInt8.toInt32).toInt8.toInt32)) l0 2 (((uI I (kR S l0 1) (zix (I l0 2)) (((l1 >>> (l2 &&& nI 31)).toInt8.toInt32).toInt8.toInt32)) l0 2) + (nI 1))), L)) else none) else none) else none) else none) else none := by
  have h := R_X12_put_3 d S I L l0 l1 l2
  simp only [cvN] at h
  exact h
set_option maxRecDepth 20000 in
set_option maxHeartbeats 4000000 in
theorem B_X12_put_36 (d : Nat) (S : mS) (I : mI) (L : mJ)  :
  evk zcod none d zc_X12_put 36 [] [] (S, I, L) =
  some (none, (S, I, L)) :=
  (blk_ok zcod none d zc_X12_put [] (36, .return_, 37, [], some []) (by decide +kernel) _ _ _).trans rfl
theorem E_X12_back (d : Nat) (M : zM) (l0 : Nat) (l1 : Int32) : evM zcod (d + 1) 158 [.ref l0, .int l1] M = evk zcod none d zc_X12_back 0 [(0, .ref l0), (1, .int l1)] [] M := evM_eq zcod d 158 _ M (Nat.le_of_ble_eq_true rfl)
set_option maxRecDepth 20000 in
set_option maxHeartbeats 4000000 in
theorem B_X12_back_0 (d : Nat) (S : mS) (I : mI) (L : mJ) (l0 : Nat) (l1 : Int32) :
  evk zcod none d zc_X12_back 0 [(0, .ref l0), (1, .int l1)] [] (S, I, L) =
  if l1 < (nI 0) then
 evk zcod none d zc_X12_back 12 [] [] (S, I, L)
 else
 if kK S l0 = 12 then
 (if l1 ≤ (I l0 2) then
 evk zcod none d zc_X12_back 14 [(0, .ref l0), (1, .int l1)] [] (S, I, L)
 else
 evk zcod none d zc_X12_back 12 [] [] (S, I, L)) else none :=
  (blk_ok zcod none d zc_X12_back [(1, .ifCond .lt 11, 4, [12], none), (4, .iload_n 1, 5, [], none), (5, .aload_n 0, 6, [], none), (6, .getfield 190, 9, [12, 2, 0, 671, 0], none), (9, .if_icmp .le 5, 12, [14], none)] (0, .iload_n 1, 1, [], none) (by decide +kernel) _ _ _).trans rfl
set_option maxRecDepth 20000 in
set_option maxHeartbeats 4000000 in
theorem R_X12_back_12 (d : Nat) (S : mS) (I : mI) (L : mJ)  :
  evk zcod none d zc_X12_back 12 [] [] (S, I, L) =
  some (some (.int (Int32.ofInt (-1))), (S, I, L)) :=
  (blk_ok zcod none d zc_X12_back [(13, .ireturn, 14, [0], none)] (12, .iconst (-1), 13, [], some []) (by decide +kernel) _ _ _).trans rfl
theorem B_X12_back_12 (d : Nat) (S : mS) (I : mI) (L : mJ)  :
  evk zcod none d zc_X12_back 12 [] [] (S, I, L) =
  some (some (.int (-1 : Int32)), (S, I, L)) := by
  have h := R_X12_back_12 d S I L 
  simp only [cvN] at h
  exact h
set_option maxRecDepth 20000 in
set_option maxHeartbeats 4000000 in
theorem B_X12_back_14 (d : Nat) (S : mS) (I : mI) (L : mJ) (l0 : Nat) (l1 : Int32) :
  evk zcod none d zc_X12_back 14 [(0, .ref l0), (1, .int l1)] [] (S, I, L) =
  if kK S l0 = 12 then
 (if kK S l0 = 12 then
 (if kK S l0 = 12 then
 (some (some (.int ((uI I l0 2 ((I l0 2) - l1)) l0 2)), (S, (uI I l0 2 ((I l0 2) - l1)), L))) else none) else none) else none :=
  (blk_ok zcod none d zc_X12_back [(15, .dup, 16, [], none), (16, .getfield 190, 19, [12, 2, 0, 671, 0], none), (19, .iload_n 1, 20, [], none), (20, .isub, 21, [], none), (21, .putfield 190, 24, [12, 2, 0, 671, 0, 0], none), (24, .aload_n 0, 25, [], none), (25, .getfield 190, 28, [12, 2, 0, 671, 0], none), (28, .ireturn, 29, [0], none)] (14, .aload_n 0, 15, [], some [0, 1]) (by decide +kernel) _ _ _).trans rfl
theorem E_X12_byteAt (d : Nat) (M : zM) (l0 : Nat) (l1 : Int32) : evM zcod (d + 1) 159 [.ref l0, .int l1] M = evk zcod none d zc_X12_byteAt 0 [(0, .ref l0), (1, .int l1)] [] M := evM_eq zcod d 159 _ M (Nat.le_of_ble_eq_true rfl)
set_option maxRecDepth 20000 in
set_option maxHeartbeats 4000000 in
theorem B_X12_byteAt_0 (d : Nat) (S : mS) (I : mI) (L : mJ) (l0 : Nat) (l1 : Int32) :
  evk zcod none d zc_X12_byteAt 0 [(0, .ref l0), (1, .int l1)] [] (S, I, L) =
  if kK S l0 = 12 then
 (if (I l0 4) ≤ l1 then
 evk zcod none d zc_X12_byteAt 21 [] [] (S, I, L)
 else
 if kK S l0 = 12 then
 (if kK S (kR S l0 3) = 21 ∧ zin l1 (kN S (kR S l0 3)) then
 (evk zcod none d zc_X12_byteAt 22 [] [.int ((I (kR S l0 3) (zix l1)) &&& (nI 255))] (S, I, L)) else none) else none) else none :=
  (blk_ok zcod none d zc_X12_byteAt [(1, .aload_n 0, 2, [], none), (2, .getfield 196, 5, [12, 4, 0, 675, 0], none), (5, .if_icmp .ge 16, 8, [21], none), (8, .aload_n 0, 9, [], none), (9, .getfield 17, 12, [12, 3, 2, 606, 0], none), (12, .iload_n 1, 13, [], none), (13, .baload, 14, [21], none), (14, .sipush 255, 17, [], none), (17, .iand, 18, [], none), (18, .goto 4, 21, [22], none)] (0, .iload_n 1, 1, [], none) (by decide +kernel) _ _ _).trans rfl
set_option maxRecDepth 20000 in
set_option maxHeartbeats 4000000 in
theorem B_X12_byteAt_21 (d : Nat) (S : mS) (I : mI) (L : mJ)  :
  evk zcod none d zc_X12_byteAt 21 [] [] (S, I, L) =
  evk zcod none d zc_X12_byteAt 22 [] [.int (nI 0)] (S, I, L) :=
  (blk_ok zcod none d zc_X12_byteAt [] (21, .iconst 0, 22, [], some []) (by decide +kernel) _ _ _).trans rfl
set_option maxRecDepth 20000 in
set_option maxHeartbeats 4000000 in
theorem B_X12_byteAt_22 (d : Nat) (S : mS) (I : mI) (L : mJ) (s0 : Int32) :
  evk zcod none d zc_X12_byteAt 22 [] [.int s0] (S, I, L) =
  some (some (.int s0), (S, I, L)) :=
  (blk_ok zcod none d zc_X12_byteAt [] (22, .ireturn, 23, [0], some []) (by decide +kernel) _ _ _).trans rfl
theorem E_X12_isDigit (d : Nat) (M : zM) (l0 : Int32) : evM zcod (d + 1) 160 [.int l0] M = evk zcod none d zc_X12_isDigit 0 [(0, .int l0)] [] M := evM_eq zcod d 160 _ M (Nat.le_of_ble_eq_true rfl)
set_option maxRecDepth 20000 in
set_option maxHeartbeats 4000000 in
theorem B_X12_isDigit_0 (d : Nat) (S : mS) (I : mI) (L : mJ) (l0 : Int32) :
  evk zcod none d zc_X12_isDigit 0 [(0, .int l0)] [] (S, I, L) =
  if l0 < (nI 48) then
 evk zcod none d zc_X12_isDigit 16 [] [] (S, I, L)
 else
 if (nI 57) < l0 then
 evk zcod none d zc_X12_isDigit 16 [] [] (S, I, L)
 else
 evk zcod none d zc_X12_isDigit 17 [] [.int (nI 1)] (S, I, L) :=
  (blk_ok zcod none d zc_X12_isDigit [(1, .bipush 48, 3, [], none), (3, .if_icmp .lt 13, 6, [16], none), (6, .iload_n 0, 7, [], none), (7, .bipush 57, 9, [], none), (9, .if_icmp .gt 7, 12, [16], none), (12, .iconst 1, 13, [], none), (13, .goto 4, 16, [17], none)] (0, .iload_n 0, 1, [], none) (by decide +kernel) _ _ _).trans rfl
set_option maxRecDepth 20000 in
set_option maxHeartbeats 4000000 in
theorem B_X12_isDigit_16 (d : Nat) (S : mS) (I : mI) (L : mJ)  :
  evk zcod none d zc_X12_isDigit 16 [] [] (S, I, L) =
  evk zcod none d zc_X12_isDigit 17 [] [.int (nI 0)] (S, I, L) :=
  (blk_ok zcod none d zc_X12_isDigit [] (16, .iconst 0, 17, [], some []) (by decide +kernel) _ _ _).trans rfl
set_option maxRecDepth 20000 in
set_option maxHeartbeats 4000000 in
theorem B_X12_isDigit_17 (d : Nat) (S : mS) (I : mI) (L : mJ) (s0 : Int32) :
  evk zcod none d zc_X12_isDigit 17 [] [.int s0] (S, I, L) =
  if s0 = nI 0 ∨ s0 = nI 1 then some (some (.int s0), (S, I, L)) else none :=
  (blk_ok zcod none d zc_X12_isDigit [] (17, .ireturn, 18, [1], some []) (by decide +kernel) _ _ _).trans rfl
theorem E_X12_isLetter (d : Nat) (M : zM) (l0 : Int32) : evM zcod (d + 1) 161 [.int l0] M = evk zcod none d zc_X12_isLetter 0 [(0, .int l0)] [] M := evM_eq zcod d 161 _ M (Nat.le_of_ble_eq_true rfl)
set_option maxRecDepth 20000 in
set_option maxHeartbeats 4000000 in
theorem B_X12_isLetter_0 (d : Nat) (S : mS) (I : mI) (L : mJ) (l0 : Int32) :
  evk zcod none d zc_X12_isLetter 0 [(0, .int l0)] [] (S, I, L) =
  if l0 < (nI 97) then
 evk zcod none d zc_X12_isLetter 16 [] [] (S, I, L)
 else
 if (nI 122) < l0 then
 evk zcod none d zc_X12_isLetter 16 [] [] (S, I, L)
 else
 evk zcod none d zc_X12_isLetter 17 [] [.int (nI 1)] (S, I, L) :=
  (blk_ok zcod none d zc_X12_isLetter [(1, .bipush 97, 3, [], none), (3, .if_icmp .lt 13, 6, [16], none), (6, .iload_n 0, 7, [], none), (7, .bipush 122, 9, [], none), (9, .if_icmp .gt 7, 12, [16], none), (12, .iconst 1, 13, [], none), (13, .goto 4, 16, [17], none)] (0, .iload_n 0, 1, [], none) (by decide +kernel) _ _ _).trans rfl
set_option maxRecDepth 20000 in
set_option maxHeartbeats 4000000 in
theorem B_X12_isLetter_16 (d : Nat) (S : mS) (I : mI) (L : mJ)  :
  evk zcod none d zc_X12_isLetter 16 [] [] (S, I, L) =
  evk zcod none d zc_X12_isLetter 17 [] [.int (nI 0)] (S, I, L) :=
  (blk_ok zcod none d zc_X12_isLetter [] (16, .iconst 0, 17, [], some []) (by decide +kernel) _ _ _).trans rfl
set_option maxRecDepth 20000 in
set_option maxHeartbeats 4000000 in
theorem B_X12_isLetter_17 (d : Nat) (S : mS) (I : mI) (L : mJ) (s0 : Int32) :
  evk zcod none d zc_X12_isLetter 17 [] [.int s0] (S, I, L) =
  if s0 = nI 0 ∨ s0 = nI 1 then some (some (.int s0), (S, I, L)) else none :=
  (blk_ok zcod none d zc_X12_isLetter [] (17, .ireturn, 18, [1], some []) (by decide +kernel) _ _ _).trans rfl
theorem E_X12_appends (d : Nat) (M : zM) (l0 : Int64) (l2 : Int32) : evM zcod (d + 1) 162 [.long l0, .int l2] M = evk zcod none d zc_X12_appends 0 [(0, .long l0), (2, .int l2)] [] M := evM_eq zcod d 162 _ M (Nat.le_of_ble_eq_true rfl)
set_option maxRecDepth 20000 in
set_option maxHeartbeats 4000000 in
theorem B_X12_appends_0 (d : Nat) (S : mS) (I : mI) (L : mJ) (l0 : Int64) (l2 : Int32) :
  evk zcod none d zc_X12_appends 0 [(0, .long l0), (2, .int l2)] [] (S, I, L) =
  if ¬ l2 = (nI 0) then
 evk zcod none d zc_X12_appends 8 [(0, .long l0), (2, .int l2)] [] (S, I, L)
 else
 evk zcod none d zc_X12_appends 21 [] [.long l0] (S, I, L) :=
  (blk_ok zcod none d zc_X12_appends [(1, .ifCond .ne 7, 4, [8], none), (4, .lload_n 0, 5, [], none), (5, .goto 16, 8, [21], none)] (0, .iload_n 2, 1, [], none) (by decide +kernel) _ _ _).trans rfl
set_option maxRecDepth 20000 in
set_option maxHeartbeats 4000000 in
theorem B_X12_appends_8 (d : Nat) (S : mS) (I : mI) (L : mJ) (l0 : Int64) (l2 : Int32) :
  evk zcod none d zc_X12_appends 8 [(0, .long l0), (2, .int l2)] [] (S, I, L) =
  evk zcod none d zc_X12_appends 21 [] [.long (((Int64.ofNat 27) * l0) + ((l2 - (nI 97)) + (nI 1)).toInt64)] (S, I, L) :=
  (blk_ok zcod none d zc_X12_appends [(11, .lload_n 0, 12, [], none), (12, .lmul, 13, [], none), (13, .iload_n 2, 14, [], none), (14, .bipush 97, 16, [], none), (16, .isub, 17, [], none), (17, .iconst 1, 18, [], none), (18, .iadd, 19, [], none), (19, .i2l, 20, [], none), (20, .ladd, 21, [], none)] (8, .ldc2_w 199, 11, [0, 27, 676], some [0, 2]) (by decide +kernel) _ _ _).trans rfl
set_option maxRecDepth 20000 in
set_option maxHeartbeats 4000000 in
theorem B_X12_appends_21 (d : Nat) (S : mS) (I : mI) (L : mJ) (s0 : Int64) :
  evk zcod none d zc_X12_appends 21 [] [.long s0] (S, I, L) =
  some (some (.long s0), (S, I, L)) :=
  (blk_ok zcod none d zc_X12_appends [] (21, .lreturn, 22, [], some []) (by decide +kernel) _ _ _).trans rfl
theorem E_X12_word (d : Nat) (M : zM) (l0 : Int32) (l1 : Int32) (l2 : Int32) (l3 : Int32) (l4 : Int32) (l5 : Int32) (l6 : Int32) : evM zcod (d + 1) 163 [.int l0, .int l1, .int l2, .int l3, .int l4, .int l5, .int l6] M = evk zcod none d zc_X12_word 0 [(0, .int l0), (1, .int l1), (2, .int l2), (3, .int l3), (4, .int l4), (5, .int l5), (6, .int l6)] [] M := evM_eq zcod d 163 _ M (Nat.le_of_ble_eq_true rfl)
set_option maxRecDepth 20000 in
set_option maxHeartbeats 4000000 in
theorem B_X12_word_0 (d : Nat) (S : mS) (I : mI) (L : mJ) (l0 : Int32) (l1 : Int32) (l2 : Int32) (l3 : Int32) (l4 : Int32) (l5 : Int32) (l6 : Int32) :
  evk zcod none d zc_X12_word 0 [(0, .int l0), (1, .int l1), (2, .int l2), (3, .int l3), (4, .int l4), (5, .int l5), (6, .int l6)] [] (S, I, L) =
  bL (evM zcod d 162 [.long (0 : Int64), .int l0] (S, I, L)) fun x1 M1 =>
 if M1.1.1 = S.1 then
 (bL (evM zcod d 162 [.long x1, .int l1] M1) fun x2 M2 =>
 if M2.1.1 = M1.1.1 then
 (bL (evM zcod d 162 [.long x2, .int l2] M2) fun x3 M3 =>
 if M3.1.1 = M2.1.1 then
 (bL (evM zcod d 162 [.long x3, .int l3] M3) fun x4 M4 =>
 if M4.1.1 = M3.1.1 then
 (bL (evM zcod d 162 [.long x4, .int l4] M4) fun x5 M5 =>
 if M5.1.1 = M4.1.1 then
 (bL (evM zcod d 162 [.long x5, .int l5] M5) fun x6 M6 =>
 if M6.1.1 = M5.1.1 then
 (bL (evM zcod d 162 [.long x6, .int l6] M6) fun x7 M7 =>
 if M7.1.1 = M6.1.1 then
 (some (some (.long x7), M7)) else none) else none) else none) else none) else none) else none) else none :=
  (blk_ok zcod none d zc_X12_word [(1, .iload_n 0, 2, [], none), (2, .invokestatic 201, 5, [162, 2, 2, 0, 677, 678, 662], none), (5, .iload_n 1, 6, [], none), (6, .invokestatic 201, 9, [162, 2, 2, 0, 677, 678, 662], none), (9, .iload_n 2, 10, [], none), (10, .invokestatic 201, 13, [162, 2, 2, 0, 677, 678, 662], none), (13, .iload_n 3, 14, [], none), (14, .invokestatic 201, 17, [162, 2, 2, 0, 677, 678, 662], none), (17, .iload 4, 19, [], none), (19, .invokestatic 201, 22, [162, 2, 2, 0, 677, 678, 662], none), (22, .iload 5, 24, [], none), (24, .invokestatic 201, 27, [162, 2, 2, 0, 677, 678, 662], none), (27, .iload 6, 29, [], none), (29, .invokestatic 201, 32, [162, 2, 2, 0, 677, 678, 662], none), (32, .lreturn, 33, [], none)] (0, .lconst 0, 1, [], none) (by decide +kernel) _ _ _).trans rfl
theorem E_X12_token (d : Nat) (M : zM) (l0 : Nat) (l1 : Int32) (l2 : Int32) (l3 : Int32) (l4 : Int64) : evM zcod (d + 1) 164 [.ref l0, .int l1, .int l2, .int l3, .long l4] M = evk zcod none d zc_X12_token 0 [(0, .ref l0), (1, .int l1), (2, .int l2), (3, .int l3), (4, .long l4)] [] M := evM_eq zcod d 164 _ M (Nat.le_of_ble_eq_true rfl)
set_option maxRecDepth 20000 in
set_option maxHeartbeats 4000000 in
theorem B_X12_token_0 (d : Nat) (S : mS) (I : mI) (L : mJ) (l0 : Nat) (l1 : Int32) (l2 : Int32) (l3 : Int32) (l4 : Int64) :
  evk zcod none d zc_X12_token 0 [(0, .ref l0), (1, .int l1), (2, .int l2), (3, .int l3), (4, .long l4)] [] (S, I, L) =
  if kK S l0 = 12 then
 (if kK S l0 = 12 then
 (if kK S (kR S l0 5) = 20 ∧ zin (I l0 10) (kN S (kR S l0 5)) then
 (if kK S l0 = 12 then
 (if kK S l0 = 12 then
 (if kK S (kR S l0 6) = 20 ∧ zin ((uI I (kR S l0 5) (zix (I l0 10)) l1) l0 10) (kN S (kR S l0 6)) then
 (if kK S l0 = 12 then
 (if kK S l0 = 12 then
 (if kK S (kR S l0 7) = 20 ∧ zin ((uI (uI I (kR S l0 5) (zix (I l0 10)) l1) (kR S l0 6) (zix ((uI I (kR S l0 5) (zix (I l0 10)) l1) l0 10)) l2) l0 10) (kN S (kR S l0 7)) then
 (if kK S l0 = 12 then
 (if kK S l0 = 12 then
 (if kK S (kR S l0 8) = 23 ∧ zin ((uI (uI (uI I (kR S l0 5) (zix (I l0 10)) l1) (kR S l0 6) (zix ((uI I (kR S l0 5) (zix (I l0 10)) l1) l0 10)) l2) (kR S l0 7) (zix ((uI (uI I (kR S l0 5) (zix (I l0 10)) l1) (kR S l0 6) (zix ((uI I (kR S l0 5) (zix (I l0 10)) l1) l0 10)) l2) l0 10)) l3) l0 10) (kN S (kR S l0 8)) then
 (evk zcod none d zc_X12_token 41 [(0, .ref l0)] [] (S, (uI (uI (uI I (kR S l0 5) (zix (I l0 10)) l1) (kR S l0 6) (zix ((uI I (kR S l0 5) (zix (I l0 10)) l1) l0 10)) l2) (kR S l0 7) (zix ((uI (uI I (kR S l0 5) (zix (I l0 10)) l1) (kR S l0 6) (zix ((uI I (kR S l0 5) (zix (I l0 10)) l1) l0 10)) l2) l0 10)) l3), (uL L (kR S l0 8) (zix ((uI (uI (uI I (kR S l0 5) (zix (I l0 10)) l1) (kR S l0 6) (zix ((uI I (kR S l0 5) (zix (I l0 10)) l1) l0 10)) l2) (kR S l0 7) (zix ((uI (uI I (kR S l0 5) (zix (I l0 10)) l1) (kR S l0 6) (zix ((uI I (kR S l0 5) (zix (I l0 10)) l1) l0 10)) l2) l0 10)) l3) l0 10)) l4))) else none) else none) else none) else none) else none) else none) else none) else none) else none) else none) else none) else none :=
  (blk_ok zcod none d zc_X12_token [(1, .getfield 20, 4, [12, 5, 2, 607, 0], none), (4, .aload_n 0, 5, [], none), (5, .getfield 205, 8, [12, 10, 0, 679, 0], none), (8, .iload_n 1, 9, [], none), (9, .iastore, 10, [20], none), (10, .aload_n 0, 11, [], none), (11, .getfield 24, 14, [12, 6, 2, 608, 0], none), (14, .aload_n 0, 15, [], none), (15, .getfield 205, 18, [12, 10, 0, 679, 0], none), (18, .iload_n 2, 19, [], none), (19, .iastore, 20, [20], none), (20, .aload_n 0, 21, [], none), (21, .getfield 27, 24, [12, 7, 2, 609, 0], none), (24, .aload_n 0, 25, [], none), (25, .getfield 205, 28, [12, 10, 0, 679, 0], none), (28, .iload_n 3, 29, [], none), (29, .iastore, 30, [20], none), (30, .aload_n 0, 31, [], none), (31, .getfield 30, 34, [12, 8, 2, 610, 0], none), (34, .aload_n 0, 35, [], none), (35, .getfield 205, 38, [12, 10, 0, 679, 0], none), (38, .lload 4, 40, [], none), (40, .lastore, 41, [23], none)] (0, .aload_n 0, 1, [], none) (by decide +kernel) _ _ _).trans rfl
set_option maxRecDepth 20000 in
set_option maxHeartbeats 4000000 in
theorem B_X12_token_41 (d : Nat) (S : mS) (I : mI) (L : mJ) (l0 : Nat) :
  evk zcod none d zc_X12_token 41 [(0, .ref l0)] [] (S, I, L) =
  if kK S l0 = 12 then
 (if kK S l0 = 12 then
 (some (none, (S, (uI I l0 10 ((I l0 10) + (nI 1))), L))) else none) else none :=
  (blk_ok zcod none d zc_X12_token [(42, .dup, 43, [], none), (43, .getfield 205, 46, [12, 10, 0, 679, 0], none), (46, .iconst 1, 47, [], none), (47, .iadd, 48, [], none), (48, .putfield 205, 51, [12, 10, 0, 679, 0, 0], none), (51, .return_, 52, [], none)] (41, .aload_n 0, 42, [], some [0]) (by decide +kernel) _ _ _).trans rfl
theorem E_X12_cut (d : Nat) (M : zM) (l0 : Nat) : evM zcod (d + 1) 165 [.ref l0] M = evk zcod none d zc_X12_cut 0 [(0, .ref l0)] [] M := evM_eq zcod d 165 _ M (Nat.le_of_ble_eq_true rfl)
set_option maxRecDepth 20000 in
set_option maxHeartbeats 4000000 in
theorem B_X12_cut_0 (d : Nat) (S : mS) (I : mI) (L : mJ) (l0 : Nat) :
  evk zcod none d zc_X12_cut 0 [(0, .ref l0)] [] (S, I, L) =
  if kK S l0 = 12 then
 (evk zcod none d zc_X12_cut 7 [(0, .ref l0), (1, .int (nI 0))] [] (S, (uI I l0 10 (nI 0)), L)) else none :=
  (blk_ok zcod none d zc_X12_cut [(1, .iconst 0, 2, [], none), (2, .putfield 205, 5, [12, 10, 0, 679, 0, 0], none), (5, .iconst 0, 6, [], none), (6, .istore_n 1, 7, [], none)] (0, .aload_n 0, 1, [], none) (by decide +kernel) _ _ _).trans rfl
set_option maxRecDepth 20000 in
set_option maxHeartbeats 4000000 in
theorem B_X12_cut_7 (d : Nat) (S : mS) (I : mI) (L : mJ) (l0 : Nat) (l1 : Int32) :
  evk zcod none d zc_X12_cut 7 [(0, .ref l0), (1, .int l1)] [] (S, I, L) =
  if kK S l0 = 12 then
 (if (nI 400) < (I l0 10) then
 evk zcod none d zc_X12_cut 294 [] [] (S, I, L)
 else
 if kK S l0 = 12 then
 (bI (evM zcod d 159 [.ref l0, .int l1] (S, I, L)) fun x1 M1 =>
 if M1.1.1 = S.1 then
 (if kK M1.1 l0 = 12 then
 (if l1 < (M1.2.1 l0 4) then
 evk zcod none d zc_X12_cut 43 [(0, .ref l0), (1, .int l1), (2, .int x1)] [] M1
 else
 if kK M1.1 l0 = 12 then
 (if kK M1.1 l0 = 12 then
 (bV (evM zcod d 164 [.ref l0, .int (nI 0), .int (M1.2.1 l0 4), .int (nI 0), .long (0 : Int64)] M1) fun M2 =>
 if M2.1.1 = M1.1.1 then
 (some (none, M2)) else none) else none) else none) else none) else none) else none) else none :=
  (blk_ok zcod none d zc_X12_cut [(8, .getfield 205, 11, [12, 10, 0, 679, 0], none), (11, .sipush 400, 14, [], none), (14, .if_icmp .gt 280, 17, [294], none), (17, .aload_n 0, 18, [], none), (18, .iload_n 1, 19, [], none), (19, .invokevirtual 208, 22, [159, 1, 1, 12, 680, 681, 682, 662], none), (22, .istore_n 2, 23, [], none), (23, .iload_n 1, 24, [], none), (24, .aload_n 0, 25, [], none), (25, .getfield 196, 28, [12, 4, 0, 675, 0], none), (28, .if_icmp .lt 15, 31, [43], none), (31, .aload_n 0, 32, [], none), (32, .iconst 0, 33, [], none), (33, .aload_n 0, 34, [], none), (34, .getfield 196, 37, [12, 4, 0, 675, 0], none), (37, .iconst 0, 38, [], none), (38, .lconst 0, 39, [], none), (39, .invokevirtual 212, 42, [164, 4, 0, 12, 683, 684, 685, 662], none), (42, .return_, 43, [], none)] (7, .aload_n 0, 8, [], some [0, 1]) (by decide +kernel) _ _ _).trans rfl
set_option maxRecDepth 20000 in
set_option maxHeartbeats 4000000 in
theorem B_X12_cut_43 (d : Nat) (S : mS) (I : mI) (L : mJ) (l0 : Nat) (l1 : Int32) (l2 : Int32) :
  evk zcod none d zc_X12_cut 43 [(0, .ref l0), (1, .int l1), (2, .int l2)] [] (S, I, L) =
  if l2 = (nI 9) then
 evk zcod none d zc_X12_cut 67 [(0, .ref l0), (1, .int l1)] [] (S, I, L)
 else
 if l2 = (nI 10) then
 evk zcod none d zc_X12_cut 67 [(0, .ref l0), (1, .int l1)] [] (S, I, L)
 else
 if l2 = (nI 13) then
 evk zcod none d zc_X12_cut 67 [(0, .ref l0), (1, .int l1)] [] (S, I, L)
 else
 if ¬ l2 = (nI 32) then
 evk zcod none d zc_X12_cut 73 [(0, .ref l0), (1, .int l1), (2, .int l2)] [] (S, I, L)
 else
 evk zcod none d zc_X12_cut 67 [(0, .ref l0), (1, .int l1)] [] (S, I, L) :=
  (blk_ok zcod none d zc_X12_cut [(44, .bipush 9, 46, [], none), (46, .if_icmp .eq 21, 49, [67], none), (49, .iload_n 2, 50, [], none), (50, .bipush 10, 52, [], none), (52, .if_icmp .eq 15, 55, [67], none), (55, .iload_n 2, 56, [], none), (56, .bipush 13, 58, [], none), (58, .if_icmp .eq 9, 61, [67], none), (61, .iload_n 2, 62, [], none), (62, .bipush 32, 64, [], none), (64, .if_icmp .ne 9, 67, [73], none)] (43, .iload_n 2, 44, [], some [0, 1, 2]) (by decide +kernel) _ _ _).trans rfl
set_option maxRecDepth 20000 in
set_option maxHeartbeats 4000000 in
theorem B_X12_cut_67 (d : Nat) (S : mS) (I : mI) (L : mJ) (l0 : Nat) (l1 : Int32) :
  evk zcod none d zc_X12_cut 67 [(0, .ref l0), (1, .int l1)] [] (S, I, L) =
  evk zcod none d zc_X12_cut 291 [(0, .ref l0), (1, .int (l1 + (nI 1)))] [] (S, I, L) :=
  (blk_ok zcod none d zc_X12_cut [(70, .goto 221, 73, [291], none)] (67, .iinc 1 1, 70, [], some [0, 1]) (by decide +kernel) _ _ _).trans rfl
set_option maxRecDepth 20000 in
set_option maxHeartbeats 4000000 in
theorem B_X12_cut_73 (d : Nat) (S : mS) (I : mI) (L : mJ) (l0 : Nat) (l1 : Int32) (l2 : Int32) :
  evk zcod none d zc_X12_cut 73 [(0, .ref l0), (1, .int l1), (2, .int l2)] [] (S, I, L) =
  bI (evM zcod d 161 [.int l2] (S, I, L)) fun x1 M1 =>
 if M1.1.1 = S.1 then
 (if x1 = (nI 0) then
 evk zcod none d zc_X12_cut 196 [(0, .ref l0), (1, .int l1), (2, .int l2)] [] M1
 else
 evk zcod none d zc_X12_cut 85 [(0, .ref l0), (1, .int l1), (3, .int (nI 0)), (4, .long (0 : Int64))] [] M1) else none :=
  (blk_ok zcod none d zc_X12_cut [(74, .invokestatic 216, 77, [161, 1, 1, 0, 686, 687, 662], none), (77, .ifCond .eq 119, 80, [196], none), (80, .iconst 0, 81, [], none), (81, .istore_n 3, 82, [], none), (82, .lconst 0, 83, [], none), (83, .lstore 4, 85, [], none)] (73, .iload_n 2, 74, [], some [0, 1, 2]) (by decide +kernel) _ _ _).trans rfl
set_option maxRecDepth 20000 in
set_option maxHeartbeats 4000000 in
theorem B_X12_cut_85 (d : Nat) (S : mS) (I : mI) (L : mJ) (l0 : Nat) (l1 : Int32) (l3 : Int32) (l4 : Int64) :
  evk zcod none d zc_X12_cut 85 [(0, .ref l0), (1, .int l1), (3, .int l3), (4, .long l4)] [] (S, I, L) =
  if kK S l0 = 12 then
 (bI (evM zcod d 159 [.ref l0, .int (l1 + l3)] (S, I, L)) fun x1 M1 =>
 if M1.1.1 = S.1 then
 (bI (evM zcod d 161 [.int x1] M1) fun x2 M2 =>
 if M2.1.1 = M1.1.1 then
 (if x2 = (nI 0) then
 evk zcod none d zc_X12_cut 124 [(0, .ref l0), (1, .int l1), (3, .int l3), (4, .long l4)] [] M2
 else
 if (nI 8) ≤ l3 then
 evk zcod none d zc_X12_cut 118 [(0, .ref l0), (1, .int l1), (3, .int l3), (4, .long l4)] [] M2
 else
 if kK M2.1 l0 = 12 then
 (bI (evM zcod d 159 [.ref l0, .int (l1 + l3)] M2) fun x3 M3 =>
 if M3.1.1 = M2.1.1 then
 (bL (evM zcod d 162 [.long l4, .int x3] M3) fun x4 M4 =>
 if M4.1.1 = M3.1.1 then
 (evk zcod none d zc_X12_cut 118 [(0, .ref l0), (1, .int l1), (3, .int l3), (4, .long x4)] [] M4) else none) else none) else none) else none) else none) else none :=
  (blk_ok zcod none d zc_X12_cut [(86, .iload_n 1, 87, [], none), (87, .iload_n 3, 88, [], none), (88, .iadd, 89, [], none), (89, .invokevirtual 208, 92, [159, 1, 1, 12, 680, 681, 682, 662], none), (92, .invokestatic 216, 95, [161, 1, 1, 0, 686, 687, 662], none), (95, .ifCond .eq 29, 98, [124], none), (98, .iload_n 3, 99, [], none), (99, .bipush 8, 101, [], none), (101, .if_icmp .ge 17, 104, [118], none), (104, .lload 4, 106, [], none), (106, .aload_n 0, 107, [], none), (107, .iload_n 1, 108, [], none), (108, .iload_n 3, 109, [], none), (109, .iadd, 110, [], none), (110, .invokevirtual 208, 113, [159, 1, 1, 12, 680, 681, 682, 662], none), (113, .invokestatic 201, 116, [162, 2, 2, 0, 677, 678, 662], none), (116, .lstore 4, 118, [], none)] (85, .aload_n 0, 86, [], some [0, 1, 3, 4]) (by decide +kernel) _ _ _).trans rfl
set_option maxRecDepth 20000 in
set_option maxHeartbeats 4000000 in
theorem B_X12_cut_118 (d : Nat) (S : mS) (I : mI) (L : mJ) (l0 : Nat) (l1 : Int32) (l3 : Int32) (l4 : Int64) :
  evk zcod none d zc_X12_cut 118 [(0, .ref l0), (1, .int l1), (3, .int l3), (4, .long l4)] [] (S, I, L) =
  evk zcod none d zc_X12_cut 85 [(0, .ref l0), (1, .int l1), (3, .int (l3 + (nI 1))), (4, .long l4)] [] (S, I, L) :=
  (blk_ok zcod none d zc_X12_cut [(121, .goto (-36), 124, [85], none)] (118, .iinc 3 1, 121, [], some [0, 1, 3, 4]) (by decide +kernel) _ _ _).trans rfl
set_option maxRecDepth 20000 in
set_option maxHeartbeats 4000000 in
theorem B_X12_cut_124 (d : Nat) (S : mS) (I : mI) (L : mJ) (l0 : Nat) (l1 : Int32) (l3 : Int32) (l4 : Int64) :
  evk zcod none d zc_X12_cut 124 [(0, .ref l0), (1, .int l1), (3, .int l3), (4, .long l4)] [] (S, I, L) =
  if l3 ≤ (nI 8) then
 evk zcod none d zc_X12_cut 134 [(0, .ref l0), (1, .int l1), (3, .int l3), (4, .long l4)] [] (S, I, L)
 else
 evk zcod none d zc_X12_cut 135 [(0, .ref l0), (1, .int l1), (3, .int l3), (4, .long l4)] [.int (nI 3)] (S, I, L) :=
  (blk_ok zcod none d zc_X12_cut [(125, .bipush 8, 127, [], none), (127, .if_icmp .le 7, 130, [134], none), (130, .iconst 3, 131, [], none), (131, .goto 4, 134, [135], none)] (124, .iload_n 3, 125, [], some [0, 1, 3, 4]) (by decide +kernel) _ _ _).trans rfl
set_option maxRecDepth 20000 in
set_option maxHeartbeats 4000000 in
theorem B_X12_cut_134 (d : Nat) (S : mS) (I : mI) (L : mJ) (l0 : Nat) (l1 : Int32) (l3 : Int32) (l4 : Int64) :
  evk zcod none d zc_X12_cut 134 [(0, .ref l0), (1, .int l1), (3, .int l3), (4, .long l4)] [] (S, I, L) =
  evk zcod none d zc_X12_cut 135 [(0, .ref l0), (1, .int l1), (3, .int l3), (4, .long l4)] [.int (nI 1)] (S, I, L) :=
  (blk_ok zcod none d zc_X12_cut [] (134, .iconst 1, 135, [], some [0, 1, 3, 4]) (by decide +kernel) _ _ _).trans rfl
set_option maxRecDepth 20000 in
set_option maxHeartbeats 4000000 in
theorem B_X12_cut_135 (d : Nat) (S : mS) (I : mI) (L : mJ) (l0 : Nat) (l1 : Int32) (l3 : Int32) (l4 : Int64) (s0 : Int32) :
  evk zcod none d zc_X12_cut 135 [(0, .ref l0), (1, .int l1), (3, .int l3), (4, .long l4)] [.int s0] (S, I, L) =
  if (nI 8) < l3 then
 evk zcod none d zc_X12_cut 179 [(0, .ref l0), (1, .int l1), (3, .int l3), (4, .long l4), (6, .int s0)] [] (S, I, L)
 else
 evk zcod none d zc_X12_cut 146 [(0, .ref l0), (1, .int l1), (3, .int l3), (4, .long l4), (6, .int s0), (7, .int (nI 0))] [] (S, I, L) :=
  (blk_ok zcod none d zc_X12_cut [(137, .iload_n 3, 138, [], none), (138, .bipush 8, 140, [], none), (140, .if_icmp .gt 39, 143, [179], none), (143, .iconst 0, 144, [], none), (144, .istore 7, 146, [], none)] (135, .istore 6, 137, [], some [0, 1, 3, 4]) (by decide +kernel) _ _ _).trans rfl
set_option maxRecDepth 20000 in
set_option maxHeartbeats 4000000 in
theorem B_X12_cut_146 (d : Nat) (S : mS) (I : mI) (L : mJ) (l0 : Nat) (l1 : Int32) (l3 : Int32) (l4 : Int64) (l6 : Int32) (l7 : Int32) :
  evk zcod none d zc_X12_cut 146 [(0, .ref l0), (1, .int l1), (3, .int l3), (4, .long l4), (6, .int l6), (7, .int l7)] [] (S, I, L) =
  if (nI 22) ≤ l7 then
 evk zcod none d zc_X12_cut 179 [(0, .ref l0), (1, .int l1), (3, .int l3), (4, .long l4), (6, .int l6)] [] (S, I, L)
 else
 if kK S l0 = 12 then
 (if kK S (kR S l0 9) = 23 ∧ zin l7 (kN S (kR S l0 9)) then
 (if ¬ (lg_cmp (L (kR S l0 9) (zix l7)) l4) = (nI 0) then
 evk zcod none d zc_X12_cut 173 [(0, .ref l0), (1, .int l1), (3, .int l3), (4, .long l4), (6, .int l6), (7, .int l7)] [] (S, I, L)
 else
 evk zcod none d zc_X12_cut 173 [(0, .ref l0), (1, .int l1), (3, .int l3), (4, .long l4), (6, .int ((nI 20) + l7)), (7, .int l7)] [] (S, I, L)) else none) else none :=
  (blk_ok zcod none d zc_X12_cut [(148, .bipush 22, 150, [], none), (150, .if_icmp .ge 29, 153, [179], none), (153, .aload_n 0, 154, [], none), (154, .getfield 34, 157, [12, 9, 2, 611, 0], none), (157, .iload 7, 159, [], none), (159, .laload, 160, [23], none), (160, .lload 4, 162, [], none), (162, .lcmp, 163, [], none), (163, .ifCond .ne 10, 166, [173], none), (166, .bipush 20, 168, [], none), (168, .iload 7, 170, [], none), (170, .iadd, 171, [], none), (171, .istore 6, 173, [], none)] (146, .iload 7, 148, [], some [0, 1, 3, 4, 6, 7]) (by decide +kernel) _ _ _).trans rfl
set_option maxRecDepth 20000 in
set_option maxHeartbeats 4000000 in
theorem B_X12_cut_173 (d : Nat) (S : mS) (I : mI) (L : mJ) (l0 : Nat) (l1 : Int32) (l3 : Int32) (l4 : Int64) (l6 : Int32) (l7 : Int32) :
  evk zcod none d zc_X12_cut 173 [(0, .ref l0), (1, .int l1), (3, .int l3), (4, .long l4), (6, .int l6), (7, .int l7)] [] (S, I, L) =
  evk zcod none d zc_X12_cut 146 [(0, .ref l0), (1, .int l1), (3, .int l3), (4, .long l4), (6, .int l6), (7, .int (l7 + (nI 1)))] [] (S, I, L) :=
  (blk_ok zcod none d zc_X12_cut [(176, .goto (-30), 179, [146], none)] (173, .iinc 7 1, 176, [], some [0, 1, 3, 4, 6, 7]) (by decide +kernel) _ _ _).trans rfl
set_option maxRecDepth 20000 in
set_option maxHeartbeats 4000000 in
theorem B_X12_cut_179 (d : Nat) (S : mS) (I : mI) (L : mJ) (l0 : Nat) (l1 : Int32) (l3 : Int32) (l4 : Int64) (l6 : Int32) :
  evk zcod none d zc_X12_cut 179 [(0, .ref l0), (1, .int l1), (3, .int l3), (4, .long l4), (6, .int l6)] [] (S, I, L) =
  if kK S l0 = 12 then
 (bV (evM zcod d 164 [.ref l0, .int l6, .int l1, .int (nI 0), .long l4] (S, I, L)) fun M1 =>
 if M1.1.1 = S.1 then
 (evk zcod none d zc_X12_cut 291 [(0, .ref l0), (1, .int (l1 + l3))] [] M1) else none) else none :=
  (blk_ok zcod none d zc_X12_cut [(180, .iload 6, 182, [], none), (182, .iload_n 1, 183, [], none), (183, .iconst 0, 184, [], none), (184, .lload 4, 186, [], none), (186, .invokevirtual 212, 189, [164, 4, 0, 12, 683, 684, 685, 662], none), (189, .iload_n 1, 190, [], none), (190, .iload_n 3, 191, [], none), (191, .iadd, 192, [], none), (192, .istore_n 1, 193, [], none), (193, .goto 98, 196, [291], none)] (179, .aload_n 0, 180, [], some [0, 1, 3, 4, 6]) (by decide +kernel) _ _ _).trans rfl
set_option maxRecDepth 20000 in
set_option maxHeartbeats 4000000 in
theorem B_X12_cut_196 (d : Nat) (S : mS) (I : mI) (L : mJ) (l0 : Nat) (l1 : Int32) (l2 : Int32) :
  evk zcod none d zc_X12_cut 196 [(0, .ref l0), (1, .int l1), (2, .int l2)] [] (S, I, L) =
  bI (evM zcod d 160 [.int l2] (S, I, L)) fun x1 M1 =>
 if M1.1.1 = S.1 then
 (if x1 = (nI 0) then
 evk zcod none d zc_X12_cut 275 [(0, .ref l0), (1, .int l1), (2, .int l2)] [] M1
 else
 evk zcod none d zc_X12_cut 208 [(0, .ref l0), (1, .int l1), (3, .int (nI 0)), (4, .int (nI 0))] [] M1) else none :=
  (blk_ok zcod none d zc_X12_cut [(197, .invokestatic 220, 200, [160, 1, 1, 0, 688, 689, 662], none), (200, .ifCond .eq 75, 203, [275], none), (203, .iconst 0, 204, [], none), (204, .istore_n 3, 205, [], none), (205, .iconst 0, 206, [], none), (206, .istore 4, 208, [], none)] (196, .iload_n 2, 197, [], some [0, 1, 2]) (by decide +kernel) _ _ _).trans rfl
set_option maxRecDepth 20000 in
set_option maxHeartbeats 4000000 in
theorem B_X12_cut_208 (d : Nat) (S : mS) (I : mI) (L : mJ) (l0 : Nat) (l1 : Int32) (l3 : Int32) (l4 : Int32) :
  evk zcod none d zc_X12_cut 208 [(0, .ref l0), (1, .int l1), (3, .int l3), (4, .int l4)] [] (S, I, L) =
  if kK S l0 = 12 then
 (bI (evM zcod d 159 [.ref l0, .int (l1 + l3)] (S, I, L)) fun x1 M1 =>
 if M1.1.1 = S.1 then
 (bI (evM zcod d 160 [.int x1] M1) fun x2 M2 =>
 if M2.1.1 = M1.1.1 then
 (if x2 = (nI 0) then
 evk zcod none d zc_X12_cut 250 [(0, .ref l0), (1, .int l1), (3, .int l3), (4, .int l4)] [] M2
 else
 if (nI 4) ≤ l3 then
 evk zcod none d zc_X12_cut 244 [(0, .ref l0), (1, .int l1), (3, .int l3), (4, .int l4)] [] M2
 else
 if kK M2.1 l0 = 12 then
 (bI (evM zcod d 159 [.ref l0, .int (l1 + l3)] M2) fun x3 M3 =>
 if M3.1.1 = M2.1.1 then
 (evk zcod none d zc_X12_cut 244 [(0, .ref l0), (1, .int l1), (3, .int l3), (4, .int ((((nI 10) * l4) + x3) - (nI 48)))] [] M3) else none) else none) else none) else none) else none :=
  (blk_ok zcod none d zc_X12_cut [(209, .iload_n 1, 210, [], none), (210, .iload_n 3, 211, [], none), (211, .iadd, 212, [], none), (212, .invokevirtual 208, 215, [159, 1, 1, 12, 680, 681, 682, 662], none), (215, .invokestatic 220, 218, [160, 1, 1, 0, 688, 689, 662], none), (218, .ifCond .eq 32, 221, [250], none), (221, .iload_n 3, 222, [], none), (222, .iconst 4, 223, [], none), (223, .if_icmp .ge 21, 226, [244], none), (226, .bipush 10, 228, [], none), (228, .iload 4, 230, [], none), (230, .imul, 231, [], none), (231, .aload_n 0, 232, [], none), (232, .iload_n 1, 233, [], none), (233, .iload_n 3, 234, [], none), (234, .iadd, 235, [], none), (235, .invokevirtual 208, 238, [159, 1, 1, 12, 680, 681, 682, 662], none), (238, .iadd, 239, [], none), (239, .bipush 48, 241, [], none), (241, .isub, 242, [], none), (242, .istore 4, 244, [], none)] (208, .aload_n 0, 209, [], some [0, 1, 3, 4]) (by decide +kernel) _ _ _).trans rfl
set_option maxRecDepth 20000 in
set_option maxHeartbeats 4000000 in
theorem B_X12_cut_244 (d : Nat) (S : mS) (I : mI) (L : mJ) (l0 : Nat) (l1 : Int32) (l3 : Int32) (l4 : Int32) :
  evk zcod none d zc_X12_cut 244 [(0, .ref l0), (1, .int l1), (3, .int l3), (4, .int l4)] [] (S, I, L) =
  evk zcod none d zc_X12_cut 208 [(0, .ref l0), (1, .int l1), (3, .int (l3 + (nI 1))), (4, .int l4)] [] (S, I, L) :=
  (blk_ok zcod none d zc_X12_cut [(247, .goto (-39), 250, [208], none)] (244, .iinc 3 1, 247, [], some [0, 1, 3, 4]) (by decide +kernel) _ _ _).trans rfl
set_option maxRecDepth 20000 in
set_option maxHeartbeats 4000000 in
theorem B_X12_cut_250 (d : Nat) (S : mS) (I : mI) (L : mJ) (l0 : Nat) (l1 : Int32) (l3 : Int32) (l4 : Int32) :
  evk zcod none d zc_X12_cut 250 [(0, .ref l0), (1, .int l1), (3, .int l3), (4, .int l4)] [] (S, I, L) =
  if l3 ≤ (nI 4) then
 evk zcod none d zc_X12_cut 260 [(0, .ref l0), (1, .int l1), (3, .int l3), (4, .int l4)] [.ref l0] (S, I, L)
 else
 evk zcod none d zc_X12_cut 261 [(0, .ref l0), (1, .int l1), (3, .int l3), (4, .int l4)] [.int (nI 3), .ref l0] (S, I, L) :=
  (blk_ok zcod none d zc_X12_cut [(251, .iload_n 3, 252, [], none), (252, .iconst 4, 253, [], none), (253, .if_icmp .le 7, 256, [260], none), (256, .iconst 3, 257, [], none), (257, .goto 4, 260, [261], none)] (250, .aload_n 0, 251, [], some [0, 1, 3, 4]) (by decide +kernel) _ _ _).trans rfl
set_option maxRecDepth 20000 in
set_option maxHeartbeats 4000000 in
theorem B_X12_cut_260 (d : Nat) (S : mS) (I : mI) (L : mJ) (l0 : Nat) (l1 : Int32) (l3 : Int32) (l4 : Int32) (s0 : Nat) :
  evk zcod none d zc_X12_cut 260 [(0, .ref l0), (1, .int l1), (3, .int l3), (4, .int l4)] [.ref s0] (S, I, L) =
  evk zcod none d zc_X12_cut 261 [(0, .ref l0), (1, .int l1), (3, .int l3), (4, .int l4)] [.int (nI 2), .ref s0] (S, I, L) :=
  (blk_ok zcod none d zc_X12_cut [] (260, .iconst 2, 261, [], some [0, 1, 3, 4]) (by decide +kernel) _ _ _).trans rfl
set_option maxRecDepth 20000 in
set_option maxHeartbeats 4000000 in
theorem B_X12_cut_261 (d : Nat) (S : mS) (I : mI) (L : mJ) (l0 : Nat) (l1 : Int32) (l3 : Int32) (l4 : Int32) (s0 : Nat) (s1 : Int32) :
  evk zcod none d zc_X12_cut 261 [(0, .ref l0), (1, .int l1), (3, .int l3), (4, .int l4)] [.int s1, .ref s0] (S, I, L) =
  if kK S s0 = 12 then
 (bV (evM zcod d 164 [.ref s0, .int s1, .int l1, .int l4, .long (0 : Int64)] (S, I, L)) fun M1 =>
 if M1.1.1 = S.1 then
 (evk zcod none d zc_X12_cut 291 [(0, .ref l0), (1, .int (l1 + l3))] [] M1) else none) else none :=
  (blk_ok zcod none d zc_X12_cut [(262, .iload 4, 264, [], none), (264, .lconst 0, 265, [], none), (265, .invokevirtual 212, 268, [164, 4, 0, 12, 683, 684, 685, 662], none), (268, .iload_n 1, 269, [], none), (269, .iload_n 3, 270, [], none), (270, .iadd, 271, [], none), (271, .istore_n 1, 272, [], none), (272, .goto 19, 275, [291], none)] (261, .iload_n 1, 262, [], some [0, 1, 3, 4]) (by decide +kernel) _ _ _).trans rfl
set_option maxRecDepth 20000 in
set_option maxHeartbeats 4000000 in
theorem B_X12_cut_275 (d : Nat) (S : mS) (I : mI) (L : mJ) (l0 : Nat) (l1 : Int32) (l2 : Int32) :
  evk zcod none d zc_X12_cut 275 [(0, .ref l0), (1, .int l1), (2, .int l2)] [] (S, I, L) =
  if kK S l0 = 12 then
 (bI (evM zcod d 159 [.ref l0, .int (l1 + (nI 1))] (S, I, L)) fun x1 M1 =>
 if M1.1.1 = S.1 then
 (if kK M1.1 l0 = 12 then
 (bI (evM zcod d 166 [.ref l0, .int l1, .int l2, .int x1] M1) fun x2 M2 =>
 if M2.1.1 = M1.1.1 then
 (evk zcod none d zc_X12_cut 291 [(0, .ref l0), (1, .int (l1 + x2))] [] M2) else none) else none) else none) else none :=
  (blk_ok zcod none d zc_X12_cut [(276, .aload_n 0, 277, [], none), (277, .iload_n 1, 278, [], none), (278, .iload_n 2, 279, [], none), (279, .aload_n 0, 280, [], none), (280, .iload_n 1, 281, [], none), (281, .iconst 1, 282, [], none), (282, .iadd, 283, [], none), (283, .invokevirtual 208, 286, [159, 1, 1, 12, 680, 681, 682, 662], none), (286, .invokevirtual 223, 289, [166, 3, 1, 12, 690, 691, 692, 662], none), (289, .iadd, 290, [], none), (290, .istore_n 1, 291, [], none)] (275, .iload_n 1, 276, [], some [0, 1, 2]) (by decide +kernel) _ _ _).trans rfl
set_option maxRecDepth 20000 in
set_option maxHeartbeats 4000000 in
theorem B_X12_cut_291 (d : Nat) (S : mS) (I : mI) (L : mJ) (l0 : Nat) (l1 : Int32) :
  evk zcod none d zc_X12_cut 291 [(0, .ref l0), (1, .int l1)] [] (S, I, L) =
  evk zcod none d zc_X12_cut 7 [(0, .ref l0), (1, .int l1)] [] (S, I, L) :=
  (blk_ok zcod none d zc_X12_cut [] (291, .goto (-284), 294, [7], some [0, 1]) (by decide +kernel) _ _ _).trans rfl
set_option maxRecDepth 20000 in
set_option maxHeartbeats 4000000 in
theorem B_X12_cut_294 (d : Nat) (S : mS) (I : mI) (L : mJ)  :
  evk zcod none d zc_X12_cut 294 [] [] (S, I, L) =
  some (none, (S, I, L)) :=
  (blk_ok zcod none d zc_X12_cut [] (294, .return_, 295, [], some []) (by decide +kernel) _ _ _).trans rfl
theorem E_X12_sign (d : Nat) (M : zM) (l0 : Nat) (l1 : Int32) (l2 : Int32) (l3 : Int32) : evM zcod (d + 1) 166 [.ref l0, .int l1, .int l2, .int l3] M = evk zcod none d zc_X12_sign 0 [(0, .ref l0), (1, .int l1), (2, .int l2), (3, .int l3)] [] M := evM_eq zcod d 166 _ M (Nat.le_of_ble_eq_true rfl)
set_option maxRecDepth 20000 in
set_option maxHeartbeats 4000000 in
theorem B_X12_sign_0 (d : Nat) (S : mS) (I : mI) (L : mJ) (l0 : Nat) (l1 : Int32) (l2 : Int32) (l3 : Int32) :
  evk zcod none d zc_X12_sign 0 [(0, .ref l0), (1, .int l1), (2, .int l2), (3, .int l3)] [] (S, I, L) =
  if ¬ l2 = (nI 59) then
 evk zcod none d zc_X12_sign 10 [(0, .ref l0), (1, .int l1), (2, .int l2)] [] (S, I, L)
 else
 evk zcod none d zc_X12_sign 43 [(0, .ref l0), (1, .int l1), (2, .int l2)] [.int (nI 4)] (S, I, L) :=
  (blk_ok zcod none d zc_X12_sign [(1, .bipush 59, 3, [], none), (3, .if_icmp .ne 7, 6, [10], none), (6, .iconst 4, 7, [], none), (7, .goto 36, 10, [43], none)] (0, .iload_n 2, 1, [], none) (by decide +kernel) _ _ _).trans rfl
set_option maxRecDepth 20000 in
set_option maxHeartbeats 4000000 in
theorem B_X12_sign_10 (d : Nat) (S : mS) (I : mI) (L : mJ) (l0 : Nat) (l1 : Int32) (l2 : Int32) :
  evk zcod none d zc_X12_sign 10 [(0, .ref l0), (1, .int l1), (2, .int l2)] [] (S, I, L) =
  if ¬ l2 = (nI 61) then
 evk zcod none d zc_X12_sign 20 [(0, .ref l0), (1, .int l1), (2, .int l2)] [] (S, I, L)
 else
 evk zcod none d zc_X12_sign 43 [(0, .ref l0), (1, .int l1), (2, .int l2)] [.int (nI 5)] (S, I, L) :=
  (blk_ok zcod none d zc_X12_sign [(11, .bipush 61, 13, [], none), (13, .if_icmp .ne 7, 16, [20], none), (16, .iconst 5, 17, [], none), (17, .goto 26, 20, [43], none)] (10, .iload_n 2, 11, [], some [0, 1, 2]) (by decide +kernel) _ _ _).trans rfl
set_option maxRecDepth 20000 in
set_option maxHeartbeats 4000000 in
theorem B_X12_sign_20 (d : Nat) (S : mS) (I : mI) (L : mJ) (l0 : Nat) (l1 : Int32) (l2 : Int32) :
  evk zcod none d zc_X12_sign 20 [(0, .ref l0), (1, .int l1), (2, .int l2)] [] (S, I, L) =
  if ¬ l2 = (nI 40) then
 evk zcod none d zc_X12_sign 31 [(0, .ref l0), (1, .int l1), (2, .int l2)] [] (S, I, L)
 else
 evk zcod none d zc_X12_sign 43 [(0, .ref l0), (1, .int l1), (2, .int l2)] [.int (nI 6)] (S, I, L) :=
  (blk_ok zcod none d zc_X12_sign [(21, .bipush 40, 23, [], none), (23, .if_icmp .ne 8, 26, [31], none), (26, .bipush 6, 28, [], none), (28, .goto 15, 31, [43], none)] (20, .iload_n 2, 21, [], some [0, 1, 2]) (by decide +kernel) _ _ _).trans rfl
set_option maxRecDepth 20000 in
set_option maxHeartbeats 4000000 in
theorem B_X12_sign_31 (d : Nat) (S : mS) (I : mI) (L : mJ) (l0 : Nat) (l1 : Int32) (l2 : Int32) :
  evk zcod none d zc_X12_sign 31 [(0, .ref l0), (1, .int l1), (2, .int l2)] [] (S, I, L) =
  if ¬ l2 = (nI 41) then
 evk zcod none d zc_X12_sign 42 [(0, .ref l0), (1, .int l1), (2, .int l2)] [] (S, I, L)
 else
 evk zcod none d zc_X12_sign 43 [(0, .ref l0), (1, .int l1), (2, .int l2)] [.int (nI 7)] (S, I, L) :=
  (blk_ok zcod none d zc_X12_sign [(32, .bipush 41, 34, [], none), (34, .if_icmp .ne 8, 37, [42], none), (37, .bipush 7, 39, [], none), (39, .goto 4, 42, [43], none)] (31, .iload_n 2, 32, [], some [0, 1, 2]) (by decide +kernel) _ _ _).trans rfl
set_option maxRecDepth 20000 in
set_option maxHeartbeats 4000000 in
theorem B_X12_sign_42 (d : Nat) (S : mS) (I : mI) (L : mJ) (l0 : Nat) (l1 : Int32) (l2 : Int32) :
  evk zcod none d zc_X12_sign 42 [(0, .ref l0), (1, .int l1), (2, .int l2)] [] (S, I, L) =
  evk zcod none d zc_X12_sign 43 [(0, .ref l0), (1, .int l1), (2, .int l2)] [.int (nI 3)] (S, I, L) :=
  (blk_ok zcod none d zc_X12_sign [] (42, .iconst 3, 43, [], some [0, 1, 2]) (by decide +kernel) _ _ _).trans rfl
set_option maxRecDepth 20000 in
set_option maxHeartbeats 4000000 in
theorem B_X12_sign_43 (d : Nat) (S : mS) (I : mI) (L : mJ) (l0 : Nat) (l1 : Int32) (l2 : Int32) (s0 : Int32) :
  evk zcod none d zc_X12_sign 43 [(0, .ref l0), (1, .int l1), (2, .int l2)] [.int s0] (S, I, L) =
  if ¬ l2 = (nI 43) then
 evk zcod none d zc_X12_sign 55 [(0, .ref l0), (1, .int l1), (2, .int l2), (4, .int s0)] [] (S, I, L)
 else
 evk zcod none d zc_X12_sign 55 [(0, .ref l0), (1, .int l1), (2, .int l2), (4, .int (nI 8))] [] (S, I, L) :=
  (blk_ok zcod none d zc_X12_sign [(45, .iload_n 2, 46, [], none), (46, .bipush 43, 48, [], none), (48, .if_icmp .ne 7, 51, [55], none), (51, .bipush 8, 53, [], none), (53, .istore 4, 55, [], none)] (43, .istore 4, 45, [], some [0, 1, 2]) (by decide +kernel) _ _ _).trans rfl
set_option maxRecDepth 20000 in
set_option maxHeartbeats 4000000 in
theorem B_X12_sign_55 (d : Nat) (S : mS) (I : mI) (L : mJ) (l0 : Nat) (l1 : Int32) (l2 : Int32) (l4 : Int32) :
  evk zcod none d zc_X12_sign 55 [(0, .ref l0), (1, .int l1), (2, .int l2), (4, .int l4)] [] (S, I, L) =
  if ¬ l2 = (nI 45) then
 evk zcod none d zc_X12_sign 65 [(0, .ref l0), (1, .int l1), (2, .int l2), (4, .int l4)] [] (S, I, L)
 else
 evk zcod none d zc_X12_sign 65 [(0, .ref l0), (1, .int l1), (2, .int l2), (4, .int (nI 9))] [] (S, I, L) :=
  (blk_ok zcod none d zc_X12_sign [(56, .bipush 45, 58, [], none), (58, .if_icmp .ne 7, 61, [65], none), (61, .bipush 9, 63, [], none), (63, .istore 4, 65, [], none)] (55, .iload_n 2, 56, [], some [0, 1, 2, 4]) (by decide +kernel) _ _ _).trans rfl
set_option maxRecDepth 20000 in
set_option maxHeartbeats 4000000 in
theorem B_X12_sign_65 (d : Nat) (S : mS) (I : mI) (L : mJ) (l0 : Nat) (l1 : Int32) (l2 : Int32) (l4 : Int32) :
  evk zcod none d zc_X12_sign 65 [(0, .ref l0), (1, .int l1), (2, .int l2), (4, .int l4)] [] (S, I, L) =
  if ¬ l2 = (nI 42) then
 evk zcod none d zc_X12_sign 75 [(0, .ref l0), (1, .int l1), (2, .int l2), (4, .int l4)] [] (S, I, L)
 else
 evk zcod none d zc_X12_sign 75 [(0, .ref l0), (1, .int l1), (2, .int l2), (4, .int (nI 10))] [] (S, I, L) :=
  (blk_ok zcod none d zc_X12_sign [(66, .bipush 42, 68, [], none), (68, .if_icmp .ne 7, 71, [75], none), (71, .bipush 10, 73, [], none), (73, .istore 4, 75, [], none)] (65, .iload_n 2, 66, [], some [0, 1, 2, 4]) (by decide +kernel) _ _ _).trans rfl
set_option maxRecDepth 20000 in
set_option maxHeartbeats 4000000 in
theorem B_X12_sign_75 (d : Nat) (S : mS) (I : mI) (L : mJ) (l0 : Nat) (l1 : Int32) (l2 : Int32) (l4 : Int32) :
  evk zcod none d zc_X12_sign 75 [(0, .ref l0), (1, .int l1), (2, .int l2), (4, .int l4)] [] (S, I, L) =
  if ¬ l2 = (nI 47) then
 evk zcod none d zc_X12_sign 85 [(0, .ref l0), (1, .int l1), (2, .int l2), (4, .int l4)] [] (S, I, L)
 else
 evk zcod none d zc_X12_sign 85 [(0, .ref l0), (1, .int l1), (2, .int l2), (4, .int (nI 15))] [] (S, I, L) :=
  (blk_ok zcod none d zc_X12_sign [(76, .bipush 47, 78, [], none), (78, .if_icmp .ne 7, 81, [85], none), (81, .bipush 15, 83, [], none), (83, .istore 4, 85, [], none)] (75, .iload_n 2, 76, [], some [0, 1, 2, 4]) (by decide +kernel) _ _ _).trans rfl
set_option maxRecDepth 20000 in
set_option maxHeartbeats 4000000 in
theorem B_X12_sign_85 (d : Nat) (S : mS) (I : mI) (L : mJ) (l0 : Nat) (l1 : Int32) (l2 : Int32) (l4 : Int32) :
  evk zcod none d zc_X12_sign 85 [(0, .ref l0), (1, .int l1), (2, .int l2), (4, .int l4)] [] (S, I, L) =
  if ¬ l2 = (nI 60) then
 evk zcod none d zc_X12_sign 95 [(0, .ref l0), (1, .int l1), (4, .int l4)] [] (S, I, L)
 else
 evk zcod none d zc_X12_sign 95 [(0, .ref l0), (1, .int l1), (4, .int (nI 13))] [] (S, I, L) :=
  (blk_ok zcod none d zc_X12_sign [(86, .bipush 60, 88, [], none), (88, .if_icmp .ne 7, 91, [95], none), (91, .bipush 13, 93, [], none), (93, .istore 4, 95, [], none)] (85, .iload_n 2, 86, [], some [0, 1, 2, 4]) (by decide +kernel) _ _ _).trans rfl
set_option maxRecDepth 20000 in
set_option maxHeartbeats 4000000 in
theorem B_X12_sign_95 (d : Nat) (S : mS) (I : mI) (L : mJ) (l0 : Nat) (l1 : Int32) (l4 : Int32) :
  evk zcod none d zc_X12_sign 95 [(0, .ref l0), (1, .int l1), (4, .int l4)] [] (S, I, L) =
  if kK S l0 = 12 then
 (bV (evM zcod d 164 [.ref l0, .int l4, .int l1, .int (nI 0), .long (0 : Int64)] (S, I, L)) fun M1 =>
 if M1.1.1 = S.1 then
 (some (some (.int (nI 1)), M1)) else none) else none :=
  (blk_ok zcod none d zc_X12_sign [(96, .iload 4, 98, [], none), (98, .iload_n 1, 99, [], none), (99, .iconst 0, 100, [], none), (100, .lconst 0, 101, [], none), (101, .invokevirtual 212, 104, [164, 4, 0, 12, 683, 684, 685, 662], none), (104, .iconst 1, 105, [], none), (105, .ireturn, 106, [0], none)] (95, .aload_n 0, 96, [], some [0, 1, 4]) (by decide +kernel) _ _ _).trans rfl
theorem E_X12_is (d : Nat) (M : zM) (l0 : Nat) (l1 : Int32) : evM zcod (d + 1) 167 [.ref l0, .int l1] M = evk zcod none d zc_X12_is 0 [(0, .ref l0), (1, .int l1)] [] M := evM_eq zcod d 167 _ M (Nat.le_of_ble_eq_true rfl)
set_option maxRecDepth 20000 in
set_option maxHeartbeats 4000000 in
theorem B_X12_is_0 (d : Nat) (S : mS) (I : mI) (L : mJ) (l0 : Nat) (l1 : Int32) :
  evk zcod none d zc_X12_is 0 [(0, .ref l0), (1, .int l1)] [] (S, I, L) =
  if kK S l0 = 12 then
 (if ¬ (I l0 13) = (nI 0) then
 evk zcod none d zc_X12_is 24 [] [] (S, I, L)
 else
 if kK S l0 = 12 then
 (if kK S l0 = 12 then
 (if kK S (kR S l0 5) = 20 ∧ zin (I l0 11) (kN S (kR S l0 5)) then
 (if ¬ (I (kR S l0 5) (zix (I l0 11))) = l1 then
 evk zcod none d zc_X12_is 24 [] [] (S, I, L)
 else
 evk zcod none d zc_X12_is 25 [] [.int (nI 1)] (S, I, L)) else none) else none) else none) else none :=
  (blk_ok zcod none d zc_X12_is [(1, .getfield 227, 4, [12, 13, 0, 693, 0], none), (4, .ifCond .ne 20, 7, [24], none), (7, .aload_n 0, 8, [], none), (8, .getfield 20, 11, [12, 5, 2, 607, 0], none), (11, .aload_n 0, 12, [], none), (12, .getfield 230, 15, [12, 11, 0, 694, 0], none), (15, .iaload, 16, [20], none), (16, .iload_n 1, 17, [], none), (17, .if_icmp .ne 7, 20, [24], none), (20, .iconst 1, 21, [], none), (21, .goto 4, 24, [25], none)] (0, .aload_n 0, 1, [], none) (by decide +kernel) _ _ _).trans rfl
set_option maxRecDepth 20000 in
set_option maxHeartbeats 4000000 in
theorem B_X12_is_24 (d : Nat) (S : mS) (I : mI) (L : mJ)  :
  evk zcod none d zc_X12_is 24 [] [] (S, I, L) =
  evk zcod none d zc_X12_is 25 [] [.int (nI 0)] (S, I, L) :=
  (blk_ok zcod none d zc_X12_is [] (24, .iconst 0, 25, [], some []) (by decide +kernel) _ _ _).trans rfl
set_option maxRecDepth 20000 in
set_option maxHeartbeats 4000000 in
theorem B_X12_is_25 (d : Nat) (S : mS) (I : mI) (L : mJ) (s0 : Int32) :
  evk zcod none d zc_X12_is 25 [] [.int s0] (S, I, L) =
  if s0 = nI 0 ∨ s0 = nI 1 then some (some (.int s0), (S, I, L)) else none :=
  (blk_ok zcod none d zc_X12_is [] (25, .ireturn, 26, [1], some []) (by decide +kernel) _ _ _).trans rfl
theorem E_X12_fail (d : Nat) (M : zM) (l0 : Nat) (l1 : Int32) : evM zcod (d + 1) 168 [.ref l0, .int l1] M = evk zcod none d zc_X12_fail 0 [(0, .ref l0), (1, .int l1)] [] M := evM_eq zcod d 168 _ M (Nat.le_of_ble_eq_true rfl)
set_option maxRecDepth 20000 in
set_option maxHeartbeats 4000000 in
theorem B_X12_fail_0 (d : Nat) (S : mS) (I : mI) (L : mJ) (l0 : Nat) (l1 : Int32) :
  evk zcod none d zc_X12_fail 0 [(0, .ref l0), (1, .int l1)] [] (S, I, L) =
  if kK S l0 = 12 then
 (if (I l0 13) ≤ (nI 0) then
 evk zcod none d zc_X12_fail 8 [(0, .ref l0), (1, .int l1)] [] (S, I, L)
 else
 some (none, (S, I, L))) else none :=
  (blk_ok zcod none d zc_X12_fail [(1, .getfield 227, 4, [12, 13, 0, 693, 0], none), (4, .ifCond .le 4, 7, [8], none), (7, .return_, 8, [], none)] (0, .aload_n 0, 1, [], none) (by decide +kernel) _ _ _).trans rfl
set_option maxRecDepth 20000 in
set_option maxHeartbeats 4000000 in
theorem B_X12_fail_8 (d : Nat) (S : mS) (I : mI) (L : mJ) (l0 : Nat) (l1 : Int32) :
  evk zcod none d zc_X12_fail 8 [(0, .ref l0), (1, .int l1)] [] (S, I, L) =
  if kK S l0 = 12 then
 (if kK S l0 = 12 then
 (if kK S l0 = 12 then
 (if kK S (kR S l0 6) = 20 ∧ zin ((uI I l0 13 l1) l0 11) (kN S (kR S l0 6)) then
 (if kK S l0 = 12 then
 (some (none, (S, (uI (uI I l0 13 l1) l0 14 ((uI I l0 13 l1) (kR S l0 6) (zix ((uI I l0 13 l1) l0 11)))), L))) else none) else none) else none) else none) else none :=
  (blk_ok zcod none d zc_X12_fail [(9, .iload_n 1, 10, [], none), (10, .putfield 227, 13, [12, 13, 0, 693, 0, 0], none), (13, .aload_n 0, 14, [], none), (14, .aload_n 0, 15, [], none), (15, .getfield 24, 18, [12, 6, 2, 608, 0], none), (18, .aload_n 0, 19, [], none), (19, .getfield 230, 22, [12, 11, 0, 694, 0], none), (22, .iaload, 23, [20], none), (23, .putfield 233, 26, [12, 14, 0, 695, 0, 0], none), (26, .return_, 27, [], none)] (8, .aload_n 0, 9, [], some [0, 1]) (by decide +kernel) _ _ _).trans rfl
theorem E_X12_wrong (d : Nat) (M : zM) (l0 : Nat) (l1 : Int32) (l2 : Int32) : evM zcod (d + 1) 169 [.ref l0, .int l1, .int l2] M = evk zcod none d zc_X12_wrong 0 [(0, .ref l0), (1, .int l1), (2, .int l2)] [] M := evM_eq zcod d 169 _ M (Nat.le_of_ble_eq_true rfl)
set_option maxRecDepth 20000 in
set_option maxHeartbeats 4000000 in
theorem B_X12_wrong_0 (d : Nat) (S : mS) (I : mI) (L : mJ) (l0 : Nat) (l1 : Int32) (l2 : Int32) :
  evk zcod none d zc_X12_wrong 0 [(0, .ref l0), (1, .int l1), (2, .int l2)] [] (S, I, L) =
  if kK S l0 = 12 then
 (if kK S (kR S l0 6) = 20 ∧ zin l2 (kN S (kR S l0 6)) then
 (if kK S l0 = 12 then
 (if (nI 0) < (I l0 13) then
 evk zcod none d zc_X12_wrong 45 [] [] (S, I, L)
 else
 if kK S l0 = 12 then
 (if (I l0 15) = (nI 0) then
 evk zcod none d zc_X12_wrong 46 [(0, .ref l0), (1, .int l1), (3, .int (I (kR S l0 6) (zix l2)))] [] (S, I, L)
 else
 if kK S l0 = 12 then
 (if (I l0 16) < (I (kR S l0 6) (zix l2)) then
 evk zcod none d zc_X12_wrong 45 [] [] (S, I, L)
 else
 if kK S l0 = 12 then
 (if ¬ (I (kR S l0 6) (zix l2)) = (I l0 16) then
 evk zcod none d zc_X12_wrong 46 [(0, .ref l0), (1, .int l1), (3, .int (I (kR S l0 6) (zix l2)))] [] (S, I, L)
 else
 if kK S l0 = 12 then
 (if l1 < (I l0 15) then
 evk zcod none d zc_X12_wrong 46 [(0, .ref l0), (1, .int l1), (3, .int (I (kR S l0 6) (zix l2)))] [] (S, I, L)
 else
 evk zcod none d zc_X12_wrong 45 [] [] (S, I, L)) else none) else none) else none) else none) else none) else none) else none :=
  (blk_ok zcod none d zc_X12_wrong [(1, .getfield 24, 4, [12, 6, 2, 608, 0], none), (4, .iload_n 2, 5, [], none), (5, .iaload, 6, [20], none), (6, .istore_n 3, 7, [], none), (7, .aload_n 0, 8, [], none), (8, .getfield 227, 11, [12, 13, 0, 693, 0], none), (11, .ifCond .gt 34, 14, [45], none), (14, .aload_n 0, 15, [], none), (15, .getfield 236, 18, [12, 15, 0, 696, 0], none), (18, .ifCond .eq 28, 21, [46], none), (21, .iload_n 3, 22, [], none), (22, .aload_n 0, 23, [], none), (23, .getfield 239, 26, [12, 16, 0, 697, 0], none), (26, .if_icmp .gt 19, 29, [45], none), (29, .iload_n 3, 30, [], none), (30, .aload_n 0, 31, [], none), (31, .getfield 239, 34, [12, 16, 0, 697, 0], none), (34, .if_icmp .ne 12, 37, [46], none), (37, .iload_n 1, 38, [], none), (38, .aload_n 0, 39, [], none), (39, .getfield 236, 42, [12, 15, 0, 696, 0], none), (42, .if_icmp .lt 4, 45, [46], none)] (0, .aload_n 0, 1, [], none) (by decide +kernel) _ _ _).trans rfl
set_option maxRecDepth 20000 in
set_option maxHeartbeats 4000000 in
theorem B_X12_wrong_45 (d : Nat) (S : mS) (I : mI) (L : mJ)  :
  evk zcod none d zc_X12_wrong 45 [] [] (S, I, L) =
  some (none, (S, I, L)) :=
  (blk_ok zcod none d zc_X12_wrong [] (45, .return_, 46, [], some []) (by decide +kernel) _ _ _).trans rfl
set_option maxRecDepth 20000 in
set_option maxHeartbeats 4000000 in
theorem B_X12_wrong_46 (d : Nat) (S : mS) (I : mI) (L : mJ) (l0 : Nat) (l1 : Int32) (l3 : Int32) :
  evk zcod none d zc_X12_wrong 46 [(0, .ref l0), (1, .int l1), (3, .int l3)] [] (S, I, L) =
  if kK S l0 = 12 then
 (if kK S l0 = 12 then
 (some (none, (S, (uI (uI I l0 15 l1) l0 16 l3), L))) else none) else none :=
  (blk_ok zcod none d zc_X12_wrong [(47, .iload_n 1, 48, [], none), (48, .putfield 236, 51, [12, 15, 0, 696, 0, 0], none), (51, .aload_n 0, 52, [], none), (52, .iload_n 3, 53, [], none), (53, .putfield 239, 56, [12, 16, 0, 697, 0, 0], none), (56, .return_, 57, [], none)] (46, .aload_n 0, 47, [], some [0, 1, 3]) (by decide +kernel) _ _ _).trans rfl
theorem E_X12_goesOn (d : Nat) (M : zM) (l0 : Nat) : evM zcod (d + 1) 170 [.ref l0] M = evk zcod none d zc_X12_goesOn 0 [(0, .ref l0)] [] M := evM_eq zcod d 170 _ M (Nat.le_of_ble_eq_true rfl)
set_option maxRecDepth 20000 in
set_option maxHeartbeats 4000000 in
theorem B_X12_goesOn_0 (d : Nat) (S : mS) (I : mI) (L : mJ) (l0 : Nat) :
  evk zcod none d zc_X12_goesOn 0 [(0, .ref l0)] [] (S, I, L) =
  if kK S l0 = 12 then
 (if ¬ (I l0 11) = (nI 400) then
 evk zcod none d zc_X12_goesOn 18 [(0, .ref l0)] [] (S, I, L)
 else
 if kK S l0 = 12 then
 (bV (evM zcod d 168 [.ref l0, .int (nI 2)] (S, I, L)) fun M1 =>
 if M1.1.1 = S.1 then
 (evk zcod none d zc_X12_goesOn 28 [] [] M1) else none) else none) else none :=
  (blk_ok zcod none d zc_X12_goesOn [(1, .getfield 230, 4, [12, 11, 0, 694, 0], none), (4, .sipush 400, 7, [], none), (7, .if_icmp .ne 11, 10, [18], none), (10, .aload_n 0, 11, [], none), (11, .iconst 2, 12, [], none), (12, .invokevirtual 242, 15, [168, 1, 0, 12, 698, 699, 700, 662], none), (15, .goto 13, 18, [28], none)] (0, .aload_n 0, 1, [], none) (by decide +kernel) _ _ _).trans rfl
set_option maxRecDepth 20000 in
set_option maxHeartbeats 4000000 in
theorem B_X12_goesOn_18 (d : Nat) (S : mS) (I : mI) (L : mJ) (l0 : Nat) :
  evk zcod none d zc_X12_goesOn 18 [(0, .ref l0)] [] (S, I, L) =
  if kK S l0 = 12 then
 (if kK S l0 = 12 then
 (evk zcod none d zc_X12_goesOn 28 [] [] (S, (uI I l0 11 ((I l0 11) + (nI 1))), L)) else none) else none :=
  (blk_ok zcod none d zc_X12_goesOn [(19, .dup, 20, [], none), (20, .getfield 230, 23, [12, 11, 0, 694, 0], none), (23, .iconst 1, 24, [], none), (24, .iadd, 25, [], none), (25, .putfield 230, 28, [12, 11, 0, 694, 0, 0], none)] (18, .aload_n 0, 19, [], some [0]) (by decide +kernel) _ _ _).trans rfl
set_option maxRecDepth 20000 in
set_option maxHeartbeats 4000000 in
theorem B_X12_goesOn_28 (d : Nat) (S : mS) (I : mI) (L : mJ)  :
  evk zcod none d zc_X12_goesOn 28 [] [] (S, I, L) =
  some (none, (S, I, L)) :=
  (blk_ok zcod none d zc_X12_goesOn [] (28, .return_, 29, [], some []) (by decide +kernel) _ _ _).trans rfl
theorem E_X12_must (d : Nat) (M : zM) (l0 : Nat) (l1 : Int32) : evM zcod (d + 1) 171 [.ref l0, .int l1] M = evk zcod none d zc_X12_must 0 [(0, .ref l0), (1, .int l1)] [] M := evM_eq zcod d 171 _ M (Nat.le_of_ble_eq_true rfl)
set_option maxRecDepth 20000 in
set_option maxHeartbeats 4000000 in
theorem B_X12_must_0 (d : Nat) (S : mS) (I : mI) (L : mJ) (l0 : Nat) (l1 : Int32) :
  evk zcod none d zc_X12_must 0 [(0, .ref l0), (1, .int l1)] [] (S, I, L) =
  if kK S l0 = 12 then
 (bI (evM zcod d 167 [.ref l0, .int l1] (S, I, L)) fun x1 M1 =>
 if M1.1.1 = S.1 then
 (if x1 = (nI 0) then
 evk zcod none d zc_X12_must 15 [(0, .ref l0)] [] M1
 else
 if kK M1.1 l0 = 12 then
 (bV (evM zcod d 170 [.ref l0] M1) fun M2 =>
 if M2.1.1 = M1.1.1 then
 (evk zcod none d zc_X12_must 20 [] [] M2) else none) else none) else none) else none :=
  (blk_ok zcod none d zc_X12_must [(1, .iload_n 1, 2, [], none), (2, .invokevirtual 245, 5, [167, 1, 1, 12, 701, 702, 703, 662], none), (5, .ifCond .eq 10, 8, [15], none), (8, .aload_n 0, 9, [], none), (9, .invokevirtual 248, 12, [170, 0, 0, 12, 704, 705, 706, 662], none), (12, .goto 8, 15, [20], none)] (0, .aload_n 0, 1, [], none) (by decide +kernel) _ _ _).trans rfl
set_option maxRecDepth 20000 in
set_option maxHeartbeats 4000000 in
theorem B_X12_must_15 (d : Nat) (S : mS) (I : mI) (L : mJ) (l0 : Nat) :
  evk zcod none d zc_X12_must 15 [(0, .ref l0)] [] (S, I, L) =
  if kK S l0 = 12 then
 (bV (evM zcod d 168 [.ref l0, .int (nI 1)] (S, I, L)) fun M1 =>
 if M1.1.1 = S.1 then
 (evk zcod none d zc_X12_must 20 [] [] M1) else none) else none :=
  (blk_ok zcod none d zc_X12_must [(16, .iconst 1, 17, [], none), (17, .invokevirtual 242, 20, [168, 1, 0, 12, 698, 699, 700, 662], none)] (15, .aload_n 0, 16, [], some [0]) (by decide +kernel) _ _ _).trans rfl
set_option maxRecDepth 20000 in
set_option maxHeartbeats 4000000 in
theorem B_X12_must_20 (d : Nat) (S : mS) (I : mI) (L : mJ)  :
  evk zcod none d zc_X12_must 20 [] [] (S, I, L) =
  some (none, (S, I, L)) :=
  (blk_ok zcod none d zc_X12_must [] (20, .return_, 21, [], some []) (by decide +kernel) _ _ _).trans rfl
theorem E_X12_plain (d : Nat) (M : zM) (l0 : Nat) (l1 : Int32) : evM zcod (d + 1) 172 [.ref l0, .int l1] M = evk zcod none d zc_X12_plain 0 [(0, .ref l0), (1, .int l1)] [] M := evM_eq zcod d 172 _ M (Nat.le_of_ble_eq_true rfl)
set_option maxRecDepth 20000 in
set_option maxHeartbeats 4000000 in
theorem B_X12_plain_0 (d : Nat) (S : mS) (I : mI) (L : mJ) (l0 : Nat) (l1 : Int32) :
  evk zcod none d zc_X12_plain 0 [(0, .ref l0), (1, .int l1)] [] (S, I, L) =
  if kK S l0 = 12 then
 (if kK S (kR S l0 22) = 20 ∧ zin l1 (kN S (kR S l0 22)) then
 (if kK S l0 = 12 then
 (if kK S (kR S l0 26) = 20 ∧ zin l1 (kN S (kR S l0 26)) then
 (if kK S l0 = 12 then
 (if kK S (kR S l0 29) = 20 ∧ zin l1 (kN S (kR S l0 29)) then
 (if kK S l0 = 12 then
 (if kK S (kR S l0 33) = 20 ∧ zin l1 (kN S (kR S l0 33)) then
 (evk zcod none d zc_X12_plain 29 [(0, .ref l0), (1, .int l1)] [] (S, (uI (uI (uI (uI I (kR S l0 22) (zix l1) (nI 0)) (kR S l0 26) (zix l1) (nI 0)) (kR S l0 29) (zix l1) (nI 0)) (kR S l0 33) (zix l1) (nI 10)), L)) else none) else none) else none) else none) else none) else none) else none) else none :=
  (blk_ok zcod none d zc_X12_plain [(1, .getfield 43, 4, [12, 22, 2, 614, 0], none), (4, .iload_n 1, 5, [], none), (5, .iconst 0, 6, [], none), (6, .iastore, 7, [20], none), (7, .aload_n 0, 8, [], none), (8, .getfield 55, 11, [12, 26, 2, 618, 0], none), (11, .iload_n 1, 12, [], none), (12, .iconst 0, 13, [], none), (13, .iastore, 14, [20], none), (14, .aload_n 0, 15, [], none), (15, .getfield 64, 18, [12, 29, 2, 621, 0], none), (18, .iload_n 1, 19, [], none), (19, .iconst 0, 20, [], none), (20, .iastore, 21, [20], none), (21, .aload_n 0, 22, [], none), (22, .getfield 76, 25, [12, 33, 2, 625, 0], none), (25, .iload_n 1, 26, [], none), (26, .bipush 10, 28, [], none), (28, .iastore, 29, [20], none)] (0, .aload_n 0, 1, [], none) (by decide +kernel) _ _ _).trans rfl
set_option maxRecDepth 20000 in
set_option maxHeartbeats 4000000 in
theorem B_X12_plain_29 (d : Nat) (S : mS) (I : mI) (L : mJ) (l0 : Nat) (l1 : Int32) :
  evk zcod none d zc_X12_plain 29 [(0, .ref l0), (1, .int l1)] [] (S, I, L) =
  if kK S l0 = 12 then
 (if kK S (kR S l0 34) = 20 ∧ zin l1 (kN S (kR S l0 34)) then
 (if kK S l0 = 12 then
 (if kK S (kR S l0 35) = 20 ∧ zin l1 (kN S (kR S l0 35)) then
 (evk zcod none d zc_X12_plain 45 [(0, .ref l0), (1, .int l1), (2, .int (nI 0))] [] (S, (uI (uI I (kR S l0 34) (zix l1) (nI 0)) (kR S l0 35) (zix l1) (nI 0)), L)) else none) else none) else none) else none :=
  (blk_ok zcod none d zc_X12_plain [(30, .getfield 79, 33, [12, 34, 2, 626, 0], none), (33, .iload_n 1, 34, [], none), (34, .iconst 0, 35, [], none), (35, .iastore, 36, [20], none), (36, .aload_n 0, 37, [], none), (37, .getfield 82, 40, [12, 35, 2, 627, 0], none), (40, .iload_n 1, 41, [], none), (41, .iconst 0, 42, [], none), (42, .iastore, 43, [20], none), (43, .iconst 0, 44, [], none), (44, .istore_n 2, 45, [], none)] (29, .aload_n 0, 30, [], some [0, 1]) (by decide +kernel) _ _ _).trans rfl
set_option maxRecDepth 20000 in
set_option maxHeartbeats 4000000 in
theorem B_X12_plain_45 (d : Nat) (S : mS) (I : mI) (L : mJ) (l0 : Nat) (l1 : Int32) (l2 : Int32) :
  evk zcod none d zc_X12_plain 45 [(0, .ref l0), (1, .int l1), (2, .int l2)] [] (S, I, L) =
  if (nI 4) ≤ l2 then
 evk zcod none d zc_X12_plain 78 [] [] (S, I, L)
 else
 if kK S l0 = 12 then
 (if kK S (kR S l0 36) = 20 ∧ zin (((nI 4) * l1) + l2) (kN S (kR S l0 36)) then
 (if kK S l0 = 12 then
 (if kK S (kR S l0 37) = 20 ∧ zin (((nI 4) * l1) + l2) (kN S (kR S l0 37)) then
 (evk zcod none d zc_X12_plain 45 [(0, .ref l0), (1, .int l1), (2, .int (l2 + (nI 1)))] [] (S, (uI (uI I (kR S l0 36) (zix (((nI 4) * l1) + l2)) (nI 0)) (kR S l0 37) (zix (((nI 4) * l1) + l2)) (nI 0)), L)) else none) else none) else none) else none :=
  (blk_ok zcod none d zc_X12_plain [(46, .iconst 4, 47, [], none), (47, .if_icmp .ge 31, 50, [78], none), (50, .aload_n 0, 51, [], none), (51, .getfield 85, 54, [12, 36, 2, 628, 0], none), (54, .iconst 4, 55, [], none), (55, .iload_n 1, 56, [], none), (56, .imul, 57, [], none), (57, .iload_n 2, 58, [], none), (58, .iadd, 59, [], none), (59, .iconst 0, 60, [], none), (60, .iastore, 61, [20], none), (61, .aload_n 0, 62, [], none), (62, .getfield 88, 65, [12, 37, 2, 629, 0], none), (65, .iconst 4, 66, [], none), (66, .iload_n 1, 67, [], none), (67, .imul, 68, [], none), (68, .iload_n 2, 69, [], none), (69, .iadd, 70, [], none), (70, .iconst 0, 71, [], none), (71, .iastore, 72, [20], none), (72, .iinc 2 1, 75, [], none), (75, .goto (-30), 78, [45], none)] (45, .iload_n 2, 46, [], some [0, 1, 2]) (by decide +kernel) _ _ _).trans rfl
set_option maxRecDepth 20000 in
set_option maxHeartbeats 4000000 in
theorem B_X12_plain_78 (d : Nat) (S : mS) (I : mI) (L : mJ)  :
  evk zcod none d zc_X12_plain 78 [] [] (S, I, L) =
  some (none, (S, I, L)) :=
  (blk_ok zcod none d zc_X12_plain [] (78, .return_, 79, [], some []) (by decide +kernel) _ _ _).trans rfl
theorem E_X12_read (d : Nat) (M : zM) (l0 : Nat) : evM zcod (d + 1) 173 [.ref l0] M = evk zcod none d zc_X12_read 0 [(0, .ref l0)] [] M := evM_eq zcod d 173 _ M (Nat.le_of_ble_eq_true rfl)
set_option maxRecDepth 20000 in
set_option maxHeartbeats 4000000 in
theorem B_X12_read_0 (d : Nat) (S : mS) (I : mI) (L : mJ) (l0 : Nat) :
  evk zcod none d zc_X12_read 0 [(0, .ref l0)] [] (S, I, L) =
  if kK S l0 = 12 then
 (if kK S l0 = 12 then
 (evk zcod none d zc_X12_read 10 [(0, .ref l0), (1, .int (nI 0))] [] (S, (uI I l0 4 (I l0 2)), L)) else none) else none :=
  (blk_ok zcod none d zc_X12_read [(1, .aload_n 0, 2, [], none), (2, .getfield 190, 5, [12, 2, 0, 671, 0], none), (5, .putfield 196, 8, [12, 4, 0, 675, 0, 0], none), (8, .iconst 0, 9, [], none), (9, .istore_n 1, 10, [], none)] (0, .aload_n 0, 1, [], none) (by decide +kernel) _ _ _).trans rfl
set_option maxRecDepth 20000 in
set_option maxHeartbeats 4000000 in
theorem B_X12_read_10 (d : Nat) (S : mS) (I : mI) (L : mJ) (l0 : Nat) (l1 : Int32) :
  evk zcod none d zc_X12_read 10 [(0, .ref l0), (1, .int l1)] [] (S, I, L) =
  if kK S l0 = 12 then
 (if (I l0 4) ≤ l1 then
 evk zcod none d zc_X12_read 36 [(0, .ref l0)] [] (S, I, L)
 else
 if kK S l0 = 12 then
 (if kK S l0 = 12 then
 (if kK S (kR S l0 1) = 21 ∧ zin l1 (kN S (kR S l0 1)) then
 (if kK S (kR S l0 3) = 21 ∧ zin l1 (kN S (kR S l0 3)) then
 (evk zcod none d zc_X12_read 10 [(0, .ref l0), (1, .int (l1 + (nI 1)))] [] (S, (uI I (kR S l0 3) (zix l1) ((I (kR S l0 1) (zix l1)).toInt8.toInt32)), L)) else none) else none) else none) else none) else none :=
  (blk_ok zcod none d zc_X12_read [(11, .aload_n 0, 12, [], none), (12, .getfield 196, 15, [12, 4, 0, 675, 0], none), (15, .if_icmp .ge 21, 18, [36], none), (18, .aload_n 0, 19, [], none), (19, .getfield 17, 22, [12, 3, 2, 606, 0], none), (22, .iload_n 1, 23, [], none), (23, .aload_n 0, 24, [], none), (24, .getfield 13, 27, [12, 1, 2, 605, 0], none), (27, .iload_n 1, 28, [], none), (28, .baload, 29, [21], none), (29, .bastore, 30, [21], none), (30, .iinc 1 1, 33, [], none), (33, .goto (-23), 36, [10], none)] (10, .iload_n 1, 11, [], some [0, 1]) (by decide +kernel) _ _ _).trans rfl
set_option maxRecDepth 20000 in
set_option maxHeartbeats 4000000 in
theorem B_X12_read_36 (d : Nat) (S : mS) (I : mI) (L : mJ) (l0 : Nat) :
  evk zcod none d zc_X12_read 36 [(0, .ref l0)] [] (S, I, L) =
  if kK S l0 = 12 then
 (if kK S l0 = 12 then
 (bV (evM zcod d 165 [.ref l0] (S, (uI I l0 2 (nI 0)), L)) fun M1 =>
 if M1.1.1 = S.1 then
 (if kK M1.1 l0 = 12 then
 (if kK M1.1 l0 = 12 then
 (evk zcod none d zc_X12_read 55 [(0, .ref l0)] [] (M1.1, (uI (uI M1.2.1 l0 11 (nI 0)) l0 12 (nI 0)), M1.2.2)) else none) else none) else none) else none) else none :=
  (blk_ok zcod none d zc_X12_read [(37, .iconst 0, 38, [], none), (38, .putfield 190, 41, [12, 2, 0, 671, 0, 0], none), (41, .aload_n 0, 42, [], none), (42, .invokevirtual 251, 45, [165, 0, 0, 12, 707, 708, 709, 662], none), (45, .aload_n 0, 46, [], none), (46, .iconst 0, 47, [], none), (47, .putfield 230, 50, [12, 11, 0, 694, 0, 0], none), (50, .aload_n 0, 51, [], none), (51, .iconst 0, 52, [], none), (52, .putfield 254, 55, [12, 12, 0, 710, 0, 0], none)] (36, .aload_n 0, 37, [], some [0]) (by decide +kernel) _ _ _).trans rfl
set_option maxRecDepth 20000 in
set_option maxHeartbeats 4000000 in
theorem B_X12_read_55 (d : Nat) (S : mS) (I : mI) (L : mJ) (l0 : Nat) :
  evk zcod none d zc_X12_read 55 [(0, .ref l0)] [] (S, I, L) =
  if kK S l0 = 12 then
 (if kK S l0 = 12 then
 (if kK S l0 = 12 then
 (if kK S l0 = 12 then
 (if kK S l0 = 12 then
 (evk zcod none d zc_X12_read 80 [(0, .ref l0)] [] (S, (uI (uI (uI (uI I l0 13 (nI 0)) l0 15 (nI 0)) l0 19 ((nI 1) - ((uI (uI I l0 13 (nI 0)) l0 15 (nI 0)) l0 18))) l0 20 (nI 0)), L)) else none) else none) else none) else none) else none :=
  (blk_ok zcod none d zc_X12_read [(56, .iconst 0, 57, [], none), (57, .putfield 227, 60, [12, 13, 0, 693, 0, 0], none), (60, .aload_n 0, 61, [], none), (61, .iconst 0, 62, [], none), (62, .putfield 236, 65, [12, 15, 0, 696, 0, 0], none), (65, .aload_n 0, 66, [], none), (66, .iconst 1, 67, [], none), (67, .aload_n 0, 68, [], none), (68, .getfield 257, 71, [12, 18, 0, 711, 0], none), (71, .isub, 72, [], none), (72, .putfield 260, 75, [12, 19, 0, 712, 0, 0], none), (75, .aload_n 0, 76, [], none), (76, .iconst 0, 77, [], none), (77, .putfield 263, 80, [12, 20, 0, 713, 0, 0], none)] (55, .aload_n 0, 56, [], some [0]) (by decide +kernel) _ _ _).trans rfl
set_option maxRecDepth 20000 in
set_option maxHeartbeats 4000000 in
theorem B_X12_read_80 (d : Nat) (S : mS) (I : mI) (L : mJ) (l0 : Nat) :
  evk zcod none d zc_X12_read 80 [(0, .ref l0)] [] (S, I, L) =
  if kK S l0 = 12 then
 (if kK S l0 = 12 then
 (bV (evM zcod d 172 [.ref l0, .int (I l0 19)] (S, I, L)) fun M1 =>
 if M1.1.1 = S.1 then
 (if kK M1.1 l0 = 12 then
 (if kK M1.1 l0 = 12 then
 (if kK M1.1 l0 = 12 then
 (if kK M1.1 l0 = 12 then
 (evk zcod none d zc_X12_read 112 [(0, .ref l0)] [] (M1.1, (uI (uI M1.2.1 l0 38 ((nI 130) * (M1.2.1 l0 19))) l0 44 ((nI 420) * ((uI M1.2.1 l0 38 ((nI 130) * (M1.2.1 l0 19))) l0 19))), M1.2.2)) else none) else none) else none) else none) else none) else none) else none :=
  (blk_ok zcod none d zc_X12_read [(81, .aload_n 0, 82, [], none), (82, .getfield 260, 85, [12, 19, 0, 712, 0], none), (85, .invokevirtual 176, 88, [172, 1, 0, 12, 659, 660, 661, 662], none), (88, .aload_n 0, 89, [], none), (89, .sipush 130, 92, [], none), (92, .aload_n 0, 93, [], none), (93, .getfield 260, 96, [12, 19, 0, 712, 0], none), (96, .imul, 97, [], none), (97, .putfield 266, 100, [12, 38, 0, 714, 0, 0], none), (100, .aload_n 0, 101, [], none), (101, .sipush 420, 104, [], none), (104, .aload_n 0, 105, [], none), (105, .getfield 260, 108, [12, 19, 0, 712, 0], none), (108, .imul, 109, [], none), (109, .putfield 269, 112, [12, 44, 0, 715, 0, 0], none)] (80, .aload_n 0, 81, [], some [0]) (by decide +kernel) _ _ _).trans rfl
set_option maxRecDepth 20000 in
set_option maxHeartbeats 4000000 in
theorem B_X12_read_112 (d : Nat) (S : mS) (I : mI) (L : mJ) (l0 : Nat) :
  evk zcod none d zc_X12_read 112 [(0, .ref l0)] [] (S, I, L) =
  if kK S l0 = 12 then
 (if ¬ (I l0 13) = (nI 0) then
 evk zcod none d zc_X12_read 134 [(0, .ref l0)] [] (S, I, L)
 else
 if kK S l0 = 12 then
 (bI (evM zcod d 167 [.ref l0, .int (nI 0)] (S, I, L)) fun x1 M1 =>
 if M1.1.1 = S.1 then
 (if ¬ x1 = (nI 0) then
 evk zcod none d zc_X12_read 134 [(0, .ref l0)] [] M1
 else
 if kK M1.1 l0 = 12 then
 (bV (evM zcod d 177 [.ref l0] M1) fun M2 =>
 if M2.1.1 = M1.1.1 then
 (evk zcod none d zc_X12_read 112 [(0, .ref l0)] [] M2) else none) else none) else none) else none) else none :=
  (blk_ok zcod none d zc_X12_read [(113, .getfield 227, 116, [12, 13, 0, 693, 0], none), (116, .ifCond .ne 18, 119, [134], none), (119, .aload_n 0, 120, [], none), (120, .iconst 0, 121, [], none), (121, .invokevirtual 245, 124, [167, 1, 1, 12, 701, 702, 703, 662], none), (124, .ifCond .ne 10, 127, [134], none), (127, .aload_n 0, 128, [], none), (128, .invokevirtual 272, 131, [177, 0, 0, 12, 716, 717, 718, 662], none), (131, .goto (-19), 134, [112], none)] (112, .aload_n 0, 113, [], some [0]) (by decide +kernel) _ _ _).trans rfl
set_option maxRecDepth 20000 in
set_option maxHeartbeats 4000000 in
theorem B_X12_read_134 (d : Nat) (S : mS) (I : mI) (L : mJ) (l0 : Nat) :
  evk zcod none d zc_X12_read 134 [(0, .ref l0)] [] (S, I, L) =
  if kK S l0 = 12 then
 (if (I l0 13) ≤ (nI 0) then
 evk zcod none d zc_X12_read 149 [(0, .ref l0)] [.ref l0] (S, I, L)
 else
 if kK S l0 = 12 then
 (evk zcod none d zc_X12_read 164 [(0, .ref l0)] [.int (I l0 14), .ref l0] (S, I, L)) else none) else none :=
  (blk_ok zcod none d zc_X12_read [(135, .aload_n 0, 136, [], none), (136, .getfield 227, 139, [12, 13, 0, 693, 0], none), (139, .ifCond .le 10, 142, [149], none), (142, .aload_n 0, 143, [], none), (143, .getfield 233, 146, [12, 14, 0, 695, 0], none), (146, .goto 18, 149, [164], none)] (134, .aload_n 0, 135, [], some [0]) (by decide +kernel) _ _ _).trans rfl
set_option maxRecDepth 20000 in
set_option maxHeartbeats 4000000 in
theorem B_X12_read_149 (d : Nat) (S : mS) (I : mI) (L : mJ) (l0 : Nat) (s0 : Nat) :
  evk zcod none d zc_X12_read 149 [(0, .ref l0)] [.ref s0] (S, I, L) =
  if kK S l0 = 12 then
 (if (I l0 15) ≤ (nI 0) then
 evk zcod none d zc_X12_read 163 [(0, .ref l0)] [.ref s0] (S, I, L)
 else
 if kK S l0 = 12 then
 (evk zcod none d zc_X12_read 164 [(0, .ref l0)] [.int (I l0 16), .ref s0] (S, I, L)) else none) else none :=
  (blk_ok zcod none d zc_X12_read [(150, .getfield 236, 153, [12, 15, 0, 696, 0], none), (153, .ifCond .le 10, 156, [163], none), (156, .aload_n 0, 157, [], none), (157, .getfield 239, 160, [12, 16, 0, 697, 0], none), (160, .goto 4, 163, [164], none)] (149, .aload_n 0, 150, [], some [0]) (by decide +kernel) _ _ _).trans rfl
set_option maxRecDepth 20000 in
set_option maxHeartbeats 4000000 in
theorem R_X12_read_163 (d : Nat) (S : mS) (I : mI) (L : mJ) (l0 : Nat) (s0 : Nat) :
  evk zcod none d zc_X12_read 163 [(0, .ref l0)] [.ref s0] (S, I, L) =
  evk zcod none d zc_X12_read 164 [(0, .ref l0)] [.int (Int32.ofInt (-1)), .ref s0] (S, I, L) :=
  (blk_ok zcod none d zc_X12_read [] (163, .iconst (-1), 164, [], some [0]) (by decide +kernel) _ _ _).trans rfl
theorem B_X12_read_163 (d : Nat) (S : mS) (I : mI) (L : mJ) (l0 : Nat) (s0 : Nat) :
  evk zcod none d zc_X12_read 163 [(0, .ref l0)] [.ref s0] (S, I, L) =
  evk zcod none d zc_X12_read 164 [(0, .ref l0)] [.int (-1 : Int32), .ref s0] (S, I, L) := by
  have h := R_X12_read_163 d S I L l0 s0
  simp only [cvN] at h
  exact h
set_option maxRecDepth 20000 in
set_option maxHeartbeats 4000000 in
theorem B_X12_read_164 (d : Nat) (S : mS) (I : mI) (L : mJ) (l0 : Nat) (s0 : Nat) (s1 : Int32) :
  evk zcod none d zc_X12_read 164 [(0, .ref l0)] [.int s1, .ref s0] (S, I, L) =
  if kK S s0 = 12 then
 (if kK S l0 = 12 then
 (if ((uI I s0 17 s1) l0 13) ≤ (nI 0) then
 evk zcod none d zc_X12_read 179 [(0, .ref l0)] [] (S, (uI I s0 17 s1), L)
 else
 if kK S l0 = 12 then
 (some (some (.int ((uI I s0 17 s1) l0 13)), (S, (uI I s0 17 s1), L))) else none) else none) else none :=
  (blk_ok zcod none d zc_X12_read [(167, .aload_n 0, 168, [], none), (168, .getfield 227, 171, [12, 13, 0, 693, 0], none), (171, .ifCond .le 8, 174, [179], none), (174, .aload_n 0, 175, [], none), (175, .getfield 227, 178, [12, 13, 0, 693, 0], none), (178, .ireturn, 179, [0], none)] (164, .putfield 37, 167, [12, 17, 0, 612, 0, 0], some [0]) (by decide +kernel) _ _ _).trans rfl
set_option maxRecDepth 20000 in
set_option maxHeartbeats 4000000 in
theorem B_X12_read_179 (d : Nat) (S : mS) (I : mI) (L : mJ) (l0 : Nat) :
  evk zcod none d zc_X12_read 179 [(0, .ref l0)] [] (S, I, L) =
  if kK S l0 = 12 then
 (if (I l0 15) ≤ (nI 0) then
 evk zcod none d zc_X12_read 191 [(0, .ref l0)] [] (S, I, L)
 else
 if kK S l0 = 12 then
 (some (some (.int (I l0 15)), (S, I, L))) else none) else none :=
  (blk_ok zcod none d zc_X12_read [(180, .getfield 236, 183, [12, 15, 0, 696, 0], none), (183, .ifCond .le 8, 186, [191], none), (186, .aload_n 0, 187, [], none), (187, .getfield 236, 190, [12, 15, 0, 696, 0], none), (190, .ireturn, 191, [0], none)] (179, .aload_n 0, 180, [], some [0]) (by decide +kernel) _ _ _).trans rfl
set_option maxRecDepth 20000 in
set_option maxHeartbeats 4000000 in
theorem B_X12_read_191 (d : Nat) (S : mS) (I : mI) (L : mJ) (l0 : Nat) :
  evk zcod none d zc_X12_read 191 [(0, .ref l0)] [] (S, I, L) =
  if kK S l0 = 12 then
 (if kK S l0 = 12 then
 (if kK S l0 = 12 then
 (bV (evM zcod d 198 [.ref l0] (S, (uI I l0 18 (I l0 19)), L)) fun M1 =>
 if M1.1.1 = S.1 then
 (if kK M1.1 l0 = 12 then
 (bV (evM zcod d 199 [.ref l0] M1) fun M2 =>
 if M2.1.1 = M1.1.1 then
 (if kK M2.1 l0 = 12 then
 (evk zcod none d zc_X12_read 212 [(0, .ref l0)] [] (M2.1, (uI M2.2.1 l0 59 (nI 0)), M2.2.2)) else none) else none) else none) else none) else none) else none) else none :=
  (blk_ok zcod none d zc_X12_read [(192, .aload_n 0, 193, [], none), (193, .getfield 260, 196, [12, 19, 0, 712, 0], none), (196, .putfield 257, 199, [12, 18, 0, 711, 0, 0], none), (199, .aload_n 0, 200, [], none), (200, .invokevirtual 184, 203, [198, 0, 0, 12, 665, 666, 667, 662], none), (203, .aload_n 0, 204, [], none), (204, .invokevirtual 187, 207, [199, 0, 0, 12, 668, 669, 670, 662], none), (207, .aload_n 0, 208, [], none), (208, .iconst 0, 209, [], none), (209, .putfield 275, 212, [12, 59, 0, 719, 0, 0], none)] (191, .aload_n 0, 192, [], some [0]) (by decide +kernel) _ _ _).trans rfl
set_option maxRecDepth 20000 in
set_option maxHeartbeats 4000000 in
theorem B_X12_read_212 (d : Nat) (S : mS) (I : mI) (L : mJ) (l0 : Nat) :
  evk zcod none d zc_X12_read 212 [(0, .ref l0)] [] (S, I, L) =
  if kK S l0 = 12 then
 (evk zcod none d zc_X12_read 219 [(0, .ref l0), (1, .int (nI 0))] [] (S, (uI I l0 74 (nI 0)), L)) else none :=
  (blk_ok zcod none d zc_X12_read [(213, .iconst 0, 214, [], none), (214, .putfield 278, 217, [12, 74, 0, 720, 0, 0], none), (217, .iconst 0, 218, [], none), (218, .istore_n 1, 219, [], none)] (212, .aload_n 0, 213, [], some [0]) (by decide +kernel) _ _ _).trans rfl
set_option maxRecDepth 20000 in
set_option maxHeartbeats 4000000 in
theorem B_X12_read_219 (d : Nat) (S : mS) (I : mI) (L : mJ) (l0 : Nat) (l1 : Int32) :
  evk zcod none d zc_X12_read 219 [(0, .ref l0), (1, .int l1)] [] (S, I, L) =
  if (nI 3) ≤ l1 then
 evk zcod none d zc_X12_read 237 [] [] (S, I, L)
 else
 if kK S l0 = 12 then
 (if kK S (kR S l0 80) = 22 ∧ zin l1 (kN S (kR S l0 80)) then
 (evk zcod none d zc_X12_read 219 [(0, .ref l0), (1, .int (l1 + (nI 1)))] [] (S, (uI I (kR S l0 80) (zix l1) ((nI 0) &&& nI 1)), L)) else none) else none :=
  (blk_ok zcod none d zc_X12_read [(220, .iconst 3, 221, [], none), (221, .if_icmp .ge 16, 224, [237], none), (224, .aload_n 0, 225, [], none), (225, .getfield 170, 228, [12, 80, 2, 657, 0], none), (228, .iload_n 1, 229, [], none), (229, .iconst 0, 230, [], none), (230, .bastore, 231, [22], none), (231, .iinc 1 1, 234, [], none), (234, .goto (-15), 237, [219], none)] (219, .iload_n 1, 220, [], some [0, 1]) (by decide +kernel) _ _ _).trans rfl
set_option maxRecDepth 20000 in
set_option maxHeartbeats 4000000 in
theorem B_X12_read_237 (d : Nat) (S : mS) (I : mI) (L : mJ)  :
  evk zcod none d zc_X12_read 237 [] [] (S, I, L) =
  some (some (.int (nI 0)), (S, I, L)) :=
  (blk_ok zcod none d zc_X12_read [(238, .ireturn, 239, [0], none)] (237, .iconst 0, 238, [], some []) (by decide +kernel) _ _ _).trans rfl
theorem E_X12_place (d : Nat) (M : zM) (l0 : Nat) : evM zcod (d + 1) 174 [.ref l0] M = evk zcod none d zc_X12_place 0 [(0, .ref l0)] [] M := evM_eq zcod d 174 _ M (Nat.le_of_ble_eq_true rfl)
set_option maxRecDepth 20000 in
set_option maxHeartbeats 4000000 in
theorem B_X12_place_0 (d : Nat) (S : mS) (I : mI) (L : mJ) (l0 : Nat) :
  evk zcod none d zc_X12_place 0 [(0, .ref l0)] [] (S, I, L) =
  if kK S l0 = 12 then
 (some (some (.int (I l0 17)), (S, I, L))) else none :=
  (blk_ok zcod none d zc_X12_place [(1, .getfield 37, 4, [12, 17, 0, 612, 0], none), (4, .ireturn, 5, [0], none)] (0, .aload_n 0, 1, [], none) (by decide +kernel) _ _ _).trans rfl
theorem E_X12_roomFor (d : Nat) (M : zM) (l0 : Nat) (l1 : Int32) (l2 : Int32) : evM zcod (d + 1) 175 [.ref l0, .int l1, .int l2] M = evk zcod none d zc_X12_roomFor 0 [(0, .ref l0), (1, .int l1), (2, .int l2)] [] M := evM_eq zcod d 175 _ M (Nat.le_of_ble_eq_true rfl)
set_option maxRecDepth 20000 in
set_option maxHeartbeats 4000000 in
theorem B_X12_roomFor_0 (d : Nat) (S : mS) (I : mI) (L : mJ) (l0 : Nat) (l1 : Int32) (l2 : Int32) :
  evk zcod none d zc_X12_roomFor 0 [(0, .ref l0), (1, .int l1), (2, .int l2)] [] (S, I, L) =
  if ¬ l1 = l2 then
 evk zcod none d zc_X12_roomFor 10 [(0, .ref l0)] [] (S, I, L)
 else
 if kK S l0 = 12 then
 (bV (evM zcod d 168 [.ref l0, .int (nI 2)] (S, I, L)) fun M1 =>
 if M1.1.1 = S.1 then
 (evk zcod none d zc_X12_roomFor 10 [(0, .ref l0)] [] M1) else none) else none :=
  (blk_ok zcod none d zc_X12_roomFor [(1, .iload_n 2, 2, [], none), (2, .if_icmp .ne 8, 5, [10], none), (5, .aload_n 0, 6, [], none), (6, .iconst 2, 7, [], none), (7, .invokevirtual 242, 10, [168, 1, 0, 12, 698, 699, 700, 662], none)] (0, .iload_n 1, 1, [], none) (by decide +kernel) _ _ _).trans rfl
set_option maxRecDepth 20000 in
set_option maxHeartbeats 4000000 in
theorem B_X12_roomFor_10 (d : Nat) (S : mS) (I : mI) (L : mJ) (l0 : Nat) :
  evk zcod none d zc_X12_roomFor 10 [(0, .ref l0)] [] (S, I, L) =
  if kK S l0 = 12 then
 (if ¬ (I l0 13) = (nI 0) then
 evk zcod none d zc_X12_roomFor 21 [] [] (S, I, L)
 else
 if kK S l0 = 12 then
 (bV (evM zcod d 170 [.ref l0] (S, I, L)) fun M1 =>
 if M1.1.1 = S.1 then
 (evk zcod none d zc_X12_roomFor 21 [] [] M1) else none) else none) else none :=
  (blk_ok zcod none d zc_X12_roomFor [(11, .getfield 227, 14, [12, 13, 0, 693, 0], none), (14, .ifCond .ne 7, 17, [21], none), (17, .aload_n 0, 18, [], none), (18, .invokevirtual 248, 21, [170, 0, 0, 12, 704, 705, 706, 662], none)] (10, .aload_n 0, 11, [], some [0]) (by decide +kernel) _ _ _).trans rfl
set_option maxRecDepth 20000 in
set_option maxHeartbeats 4000000 in
theorem B_X12_roomFor_21 (d : Nat) (S : mS) (I : mI) (L : mJ)  :
  evk zcod none d zc_X12_roomFor 21 [] [] (S, I, L) =
  some (none, (S, I, L)) :=
  (blk_ok zcod none d zc_X12_roomFor [] (21, .return_, 22, [], some []) (by decide +kernel) _ _ _).trans rfl
theorem E_X12_toldInt (d : Nat) (M : zM) (l0 : Nat) (l1 : Int32) (l2 : Int32) : evM zcod (d + 1) 176 [.ref l0, .int l1, .int l2] M = evk zcod none d zc_X12_toldInt 0 [(0, .ref l0), (1, .int l1), (2, .int l2)] [] M := evM_eq zcod d 176 _ M (Nat.le_of_ble_eq_true rfl)
set_option maxRecDepth 20000 in
set_option maxHeartbeats 4000000 in
theorem B_X12_toldInt_0 (d : Nat) (S : mS) (I : mI) (L : mJ) (l0 : Nat) (l1 : Int32) (l2 : Int32) :
  evk zcod none d zc_X12_toldInt 0 [(0, .ref l0), (1, .int l1), (2, .int l2)] [] (S, I, L) =
  if kK S l0 = 12 then
 (bV (evM zcod d 170 [.ref l0] (S, I, L)) fun M1 =>
 if M1.1.1 = S.1 then
 (if kK M1.1 l0 = 12 then
 (bI (evM zcod d 180 [.ref l0, .int l1, .int l2] M1) fun x2 M2 =>
 if M2.1.1 = M1.1.1 then
 (if kK M2.1 l0 = 12 then
 (bV (evM zcod d 171 [.ref l0, .int (nI 4)] M2) fun M3 =>
 if M3.1.1 = M2.1.1 then
 (some (some (.int x2), M3)) else none) else none) else none) else none) else none) else none :=
  (blk_ok zcod none d zc_X12_toldInt [(1, .invokevirtual 248, 4, [170, 0, 0, 12, 704, 705, 706, 662], none), (4, .aload_n 0, 5, [], none), (5, .iload_n 1, 6, [], none), (6, .iload_n 2, 7, [], none), (7, .invokevirtual 281, 10, [180, 2, 1, 12, 721, 722, 723, 662], none), (10, .istore_n 3, 11, [], none), (11, .aload_n 0, 12, [], none), (12, .iconst 4, 13, [], none), (13, .invokevirtual 285, 16, [171, 1, 0, 12, 724, 725, 726, 662], none), (16, .iload_n 3, 17, [], none), (17, .ireturn, 18, [0], none)] (0, .aload_n 0, 1, [], none) (by decide +kernel) _ _ _).trans rfl
theorem E_X12_tellOne (d : Nat) (M : zM) (l0 : Nat) : evM zcod (d + 1) 177 [.ref l0] M = evk zcod none d zc_X12_tellOne 0 [(0, .ref l0)] [] M := evM_eq zcod d 177 _ M (Nat.le_of_ble_eq_true rfl)
set_option maxRecDepth 20000 in
set_option maxHeartbeats 4000000 in
theorem B_X12_tellOne_0 (d : Nat) (S : mS) (I : mI) (L : mJ) (l0 : Nat) :
  evk zcod none d zc_X12_tellOne 0 [(0, .ref l0)] [] (S, I, L) =
  if kK S l0 = 12 then
 (if kK S l0 = 12 then
 (if kK S (kR S l0 5) = 20 ∧ zin (I l0 11) (kN S (kR S l0 5)) then
 (if (I (kR S l0 5) (zix (I l0 11))) = (nI 20) then evk zcod none d zc_X12_tellOne 64 [(0, .ref l0)] [] (S, I, L) else
 if (I (kR S l0 5) (zix (I l0 11))) = (nI 21) then evk zcod none d zc_X12_tellOne 93 [(0, .ref l0)] [] (S, I, L) else
 if (I (kR S l0 5) (zix (I l0 11))) = (nI 22) then evk zcod none d zc_X12_tellOne 121 [(0, .ref l0)] [] (S, I, L) else
 if (I (kR S l0 5) (zix (I l0 11))) = (nI 23) then evk zcod none d zc_X12_tellOne 207 [(0, .ref l0)] [] (S, I, L) else
 if (I (kR S l0 5) (zix (I l0 11))) = (nI 24) then evk zcod none d zc_X12_tellOne 207 [(0, .ref l0)] [] (S, I, L) else
 if (I (kR S l0 5) (zix (I l0 11))) = (nI 25) then evk zcod none d zc_X12_tellOne 207 [(0, .ref l0)] [] (S, I, L) else
 if (I (kR S l0 5) (zix (I l0 11))) = (nI 26) then evk zcod none d zc_X12_tellOne 207 [(0, .ref l0)] [] (S, I, L) else
 if (I (kR S l0 5) (zix (I l0 11))) = (nI 27) then evk zcod none d zc_X12_tellOne 149 [(0, .ref l0)] [] (S, I, L) else
 if (I (kR S l0 5) (zix (I l0 11))) = (nI 28) then evk zcod none d zc_X12_tellOne 168 [(0, .ref l0)] [] (S, I, L) else
 if (I (kR S l0 5) (zix (I l0 11))) = (nI 29) then evk zcod none d zc_X12_tellOne 187 [(0, .ref l0)] [] (S, I, L) else
 evk zcod none d zc_X12_tellOne 207 [(0, .ref l0)] [] (S, I, L)) else none) else none) else none :=
  (blk_ok zcod none d zc_X12_tellOne [(1, .getfield 20, 4, [12, 5, 2, 607, 0], none), (4, .aload_n 0, 5, [], none), (5, .getfield 230, 8, [12, 11, 0, 694, 0], none), (8, .iaload, 9, [20], none), (9, .tableswitch 198 20 29 #[55, 84, 112, 198, 198, 198, 198, 140, 159, 178], 64, [207, 64, 93, 121, 207, 207, 207, 207, 149, 168, 187], none)] (0, .aload_n 0, 1, [], none) (by decide +kernel) _ _ _).trans rfl
set_option maxRecDepth 20000 in
set_option maxHeartbeats 4000000 in
theorem B_X12_tellOne_64 (d : Nat) (S : mS) (I : mI) (L : mJ) (l0 : Nat) :
  evk zcod none d zc_X12_tellOne 64 [(0, .ref l0)] [] (S, I, L) =
  if kK S l0 = 12 then
 (if kK S l0 = 12 then
 (if kK S (kR S l0 22) = 20 ∧ zin (I l0 19) (kN S (kR S l0 22)) then
 (if kK S l0 = 12 then
 (bV (evM zcod d 175 [.ref l0, .int (I (kR S l0 22) (zix (I l0 19))), .int (nI 7)] (S, I, L)) fun M1 =>
 if M1.1.1 = S.1 then
 (if kK M1.1 l0 = 12 then
 (if ¬ (M1.2.1 l0 13) = (nI 0) then
 evk zcod none d zc_X12_tellOne 260 [] [] M1
 else
 if kK M1.1 l0 = 12 then
 (bV (evM zcod d 181 [.ref l0] M1) fun M2 =>
 if M2.1.1 = M1.1.1 then
 (evk zcod none d zc_X12_tellOne 260 [] [] M2) else none) else none) else none) else none) else none) else none) else none) else none :=
  (blk_ok zcod none d zc_X12_tellOne [(65, .aload_n 0, 66, [], none), (66, .getfield 43, 69, [12, 22, 2, 614, 0], none), (69, .aload_n 0, 70, [], none), (70, .getfield 260, 73, [12, 19, 0, 712, 0], none), (73, .iaload, 74, [20], none), (74, .bipush 7, 76, [], none), (76, .invokevirtual 288, 79, [175, 2, 0, 12, 727, 728, 729, 662], none), (79, .aload_n 0, 80, [], none), (80, .getfield 227, 83, [12, 13, 0, 693, 0], none), (83, .ifCond .ne 177, 86, [260], none), (86, .aload_n 0, 87, [], none), (87, .invokevirtual 292, 90, [181, 0, 0, 12, 730, 731, 732, 662], none), (90, .goto 170, 93, [260], none)] (64, .aload_n 0, 65, [], some [0]) (by decide +kernel) _ _ _).trans rfl
set_option maxRecDepth 20000 in
set_option maxHeartbeats 4000000 in
theorem B_X12_tellOne_93 (d : Nat) (S : mS) (I : mI) (L : mJ) (l0 : Nat) :
  evk zcod none d zc_X12_tellOne 93 [(0, .ref l0)] [] (S, I, L) =
  if kK S l0 = 12 then
 (if kK S l0 = 12 then
 (if kK S (kR S l0 26) = 20 ∧ zin (I l0 19) (kN S (kR S l0 26)) then
 (if kK S l0 = 12 then
 (bV (evM zcod d 175 [.ref l0, .int (I (kR S l0 26) (zix (I l0 19))), .int (nI 5)] (S, I, L)) fun M1 =>
 if M1.1.1 = S.1 then
 (if kK M1.1 l0 = 12 then
 (if ¬ (M1.2.1 l0 13) = (nI 0) then
 evk zcod none d zc_X12_tellOne 260 [] [] M1
 else
 if kK M1.1 l0 = 12 then
 (bV (evM zcod d 182 [.ref l0] M1) fun M2 =>
 if M2.1.1 = M1.1.1 then
 (evk zcod none d zc_X12_tellOne 260 [] [] M2) else none) else none) else none) else none) else none) else none) else none) else none :=
  (blk_ok zcod none d zc_X12_tellOne [(94, .aload_n 0, 95, [], none), (95, .getfield 55, 98, [12, 26, 2, 618, 0], none), (98, .aload_n 0, 99, [], none), (99, .getfield 260, 102, [12, 19, 0, 712, 0], none), (102, .iaload, 103, [20], none), (103, .iconst 5, 104, [], none), (104, .invokevirtual 288, 107, [175, 2, 0, 12, 727, 728, 729, 662], none), (107, .aload_n 0, 108, [], none), (108, .getfield 227, 111, [12, 13, 0, 693, 0], none), (111, .ifCond .ne 149, 114, [260], none), (114, .aload_n 0, 115, [], none), (115, .invokevirtual 295, 118, [182, 0, 0, 12, 733, 734, 735, 662], none), (118, .goto 142, 121, [260], none)] (93, .aload_n 0, 94, [], some [0]) (by decide +kernel) _ _ _).trans rfl
set_option maxRecDepth 20000 in
set_option maxHeartbeats 4000000 in
theorem B_X12_tellOne_121 (d : Nat) (S : mS) (I : mI) (L : mJ) (l0 : Nat) :
  evk zcod none d zc_X12_tellOne 121 [(0, .ref l0)] [] (S, I, L) =
  if kK S l0 = 12 then
 (if kK S l0 = 12 then
 (if kK S (kR S l0 29) = 20 ∧ zin (I l0 19) (kN S (kR S l0 29)) then
 (if kK S l0 = 12 then
 (bV (evM zcod d 175 [.ref l0, .int (I (kR S l0 29) (zix (I l0 19))), .int (nI 5)] (S, I, L)) fun M1 =>
 if M1.1.1 = S.1 then
 (if kK M1.1 l0 = 12 then
 (if ¬ (M1.2.1 l0 13) = (nI 0) then
 evk zcod none d zc_X12_tellOne 260 [] [] M1
 else
 if kK M1.1 l0 = 12 then
 (bV (evM zcod d 183 [.ref l0] M1) fun M2 =>
 if M2.1.1 = M1.1.1 then
 (evk zcod none d zc_X12_tellOne 260 [] [] M2) else none) else none) else none) else none) else none) else none) else none) else none :=
  (blk_ok zcod none d zc_X12_tellOne [(122, .aload_n 0, 123, [], none), (123, .getfield 64, 126, [12, 29, 2, 621, 0], none), (126, .aload_n 0, 127, [], none), (127, .getfield 260, 130, [12, 19, 0, 712, 0], none), (130, .iaload, 131, [20], none), (131, .iconst 5, 132, [], none), (132, .invokevirtual 288, 135, [175, 2, 0, 12, 727, 728, 729, 662], none), (135, .aload_n 0, 136, [], none), (136, .getfield 227, 139, [12, 13, 0, 693, 0], none), (139, .ifCond .ne 121, 142, [260], none), (142, .aload_n 0, 143, [], none), (143, .invokevirtual 298, 146, [183, 0, 0, 12, 736, 737, 738, 662], none), (146, .goto 114, 149, [260], none)] (121, .aload_n 0, 122, [], some [0]) (by decide +kernel) _ _ _).trans rfl
set_option maxRecDepth 20000 in
set_option maxHeartbeats 4000000 in
theorem B_X12_tellOne_149 (d : Nat) (S : mS) (I : mI) (L : mJ) (l0 : Nat) :
  evk zcod none d zc_X12_tellOne 149 [(0, .ref l0)] [] (S, I, L) =
  if kK S l0 = 12 then
 (if kK S l0 = 12 then
 (if kK S l0 = 12 then
 (bI (evM zcod d 176 [.ref l0, .int (nI 1), .int (nI 99)] (S, I, L)) fun x1 M1 =>
 if M1.1.1 = S.1 then
 (if kK M1.1 (kR S l0 33) = 20 ∧ zin (I l0 19) (kN M1.1 (kR S l0 33)) then
 (evk zcod none d zc_X12_tellOne 260 [] [] (M1.1, (uI M1.2.1 (kR S l0 33) (zix (I l0 19)) x1), M1.2.2)) else none) else none) else none) else none) else none :=
  (blk_ok zcod none d zc_X12_tellOne [(150, .getfield 76, 153, [12, 33, 2, 625, 0], none), (153, .aload_n 0, 154, [], none), (154, .getfield 260, 157, [12, 19, 0, 712, 0], none), (157, .aload_n 0, 158, [], none), (158, .iconst 1, 159, [], none), (159, .bipush 99, 161, [], none), (161, .invokevirtual 301, 164, [176, 2, 1, 12, 739, 740, 741, 662], none), (164, .iastore, 165, [20], none), (165, .goto 95, 168, [260], none)] (149, .aload_n 0, 150, [], some [0]) (by decide +kernel) _ _ _).trans rfl
set_option maxRecDepth 20000 in
set_option maxHeartbeats 4000000 in
theorem B_X12_tellOne_168 (d : Nat) (S : mS) (I : mI) (L : mJ) (l0 : Nat) :
  evk zcod none d zc_X12_tellOne 168 [(0, .ref l0)] [] (S, I, L) =
  if kK S l0 = 12 then
 (if kK S l0 = 12 then
 (if kK S l0 = 12 then
 (bI (evM zcod d 176 [.ref l0, .int (nI 0), .int (nI 100)] (S, I, L)) fun x1 M1 =>
 if M1.1.1 = S.1 then
 (if kK M1.1 (kR S l0 34) = 20 ∧ zin (I l0 19) (kN M1.1 (kR S l0 34)) then
 (evk zcod none d zc_X12_tellOne 260 [] [] (M1.1, (uI M1.2.1 (kR S l0 34) (zix (I l0 19)) x1), M1.2.2)) else none) else none) else none) else none) else none :=
  (blk_ok zcod none d zc_X12_tellOne [(169, .getfield 79, 172, [12, 34, 2, 626, 0], none), (172, .aload_n 0, 173, [], none), (173, .getfield 260, 176, [12, 19, 0, 712, 0], none), (176, .aload_n 0, 177, [], none), (177, .iconst 0, 178, [], none), (178, .bipush 100, 180, [], none), (180, .invokevirtual 301, 183, [176, 2, 1, 12, 739, 740, 741, 662], none), (183, .iastore, 184, [20], none), (184, .goto 76, 187, [260], none)] (168, .aload_n 0, 169, [], some [0]) (by decide +kernel) _ _ _).trans rfl
set_option maxRecDepth 20000 in
set_option maxHeartbeats 4000000 in
theorem B_X12_tellOne_187 (d : Nat) (S : mS) (I : mI) (L : mJ) (l0 : Nat) :
  evk zcod none d zc_X12_tellOne 187 [(0, .ref l0)] [] (S, I, L) =
  if kK S l0 = 12 then
 (if kK S l0 = 12 then
 (if kK S l0 = 12 then
 (bI (evM zcod d 176 [.ref l0, .int (nI 0), .int (nI 9999)] (S, I, L)) fun x1 M1 =>
 if M1.1.1 = S.1 then
 (if kK M1.1 (kR S l0 35) = 20 ∧ zin (I l0 19) (kN M1.1 (kR S l0 35)) then
 (evk zcod none d zc_X12_tellOne 260 [] [] (M1.1, (uI M1.2.1 (kR S l0 35) (zix (I l0 19)) x1), M1.2.2)) else none) else none) else none) else none) else none :=
  (blk_ok zcod none d zc_X12_tellOne [(188, .getfield 82, 191, [12, 35, 2, 627, 0], none), (191, .aload_n 0, 192, [], none), (192, .getfield 260, 195, [12, 19, 0, 712, 0], none), (195, .aload_n 0, 196, [], none), (196, .iconst 0, 197, [], none), (197, .sipush 9999, 200, [], none), (200, .invokevirtual 301, 203, [176, 2, 1, 12, 739, 740, 741, 662], none), (203, .iastore, 204, [20], none), (204, .goto 56, 207, [260], none)] (187, .aload_n 0, 188, [], some [0]) (by decide +kernel) _ _ _).trans rfl
set_option maxRecDepth 20000 in
set_option maxHeartbeats 4000000 in
theorem B_X12_tellOne_207 (d : Nat) (S : mS) (I : mI) (L : mJ) (l0 : Nat) :
  evk zcod none d zc_X12_tellOne 207 [(0, .ref l0)] [] (S, I, L) =
  if kK S l0 = 12 then
 (if kK S l0 = 12 then
 (if kK S (kR S l0 5) = 20 ∧ zin (I l0 11) (kN S (kR S l0 5)) then
 (if ((I (kR S l0 5) (zix (I l0 11))) - (nI 23)) < (nI 0) then
 evk zcod none d zc_X12_tellOne 238 [(0, .ref l0), (1, .int ((I (kR S l0 5) (zix (I l0 11))) - (nI 23)))] [] (S, I, L)
 else
 if kK S l0 = 12 then
 (if kK S l0 = 12 then
 (if kK S (kR S l0 5) = 20 ∧ zin (I l0 11) (kN S (kR S l0 5)) then
 (if (I (kR S l0 5) (zix (I l0 11))) ≤ (nI 26) then
 evk zcod none d zc_X12_tellOne 243 [(0, .ref l0), (1, .int ((I (kR S l0 5) (zix (I l0 11))) - (nI 23)))] [] (S, I, L)
 else
 evk zcod none d zc_X12_tellOne 238 [(0, .ref l0), (1, .int ((I (kR S l0 5) (zix (I l0 11))) - (nI 23)))] [] (S, I, L)) else none) else none) else none) else none) else none) else none :=
  (blk_ok zcod none d zc_X12_tellOne [(208, .getfield 20, 211, [12, 5, 2, 607, 0], none), (211, .aload_n 0, 212, [], none), (212, .getfield 230, 215, [12, 11, 0, 694, 0], none), (215, .iaload, 216, [20], none), (216, .bipush 23, 218, [], none), (218, .isub, 219, [], none), (219, .istore_n 1, 220, [], none), (220, .iload_n 1, 221, [], none), (221, .ifCond .lt 17, 224, [238], none), (224, .aload_n 0, 225, [], none), (225, .getfield 20, 228, [12, 5, 2, 607, 0], none), (228, .aload_n 0, 229, [], none), (229, .getfield 230, 232, [12, 11, 0, 694, 0], none), (232, .iaload, 233, [20], none), (233, .bipush 26, 235, [], none), (235, .if_icmp .le 8, 238, [243], none)] (207, .aload_n 0, 208, [], some [0]) (by decide +kernel) _ _ _).trans rfl
set_option maxRecDepth 20000 in
set_option maxHeartbeats 4000000 in
theorem B_X12_tellOne_238 (d : Nat) (S : mS) (I : mI) (L : mJ) (l0 : Nat) (l1 : Int32) :
  evk zcod none d zc_X12_tellOne 238 [(0, .ref l0), (1, .int l1)] [] (S, I, L) =
  if kK S l0 = 12 then
 (bV (evM zcod d 168 [.ref l0, .int (nI 1)] (S, I, L)) fun M1 =>
 if M1.1.1 = S.1 then
 (evk zcod none d zc_X12_tellOne 243 [(0, .ref l0), (1, .int l1)] [] M1) else none) else none :=
  (blk_ok zcod none d zc_X12_tellOne [(239, .iconst 1, 240, [], none), (240, .invokevirtual 242, 243, [168, 1, 0, 12, 698, 699, 700, 662], none)] (238, .aload_n 0, 239, [], some [0, 1]) (by decide +kernel) _ _ _).trans rfl
set_option maxRecDepth 20000 in
set_option maxHeartbeats 4000000 in
theorem B_X12_tellOne_243 (d : Nat) (S : mS) (I : mI) (L : mJ) (l0 : Nat) (l1 : Int32) :
  evk zcod none d zc_X12_tellOne 243 [(0, .ref l0), (1, .int l1)] [] (S, I, L) =
  if kK S l0 = 12 then
 (if (I l0 13) ≤ (nI 0) then
 evk zcod none d zc_X12_tellOne 251 [(0, .ref l0), (1, .int l1)] [] (S, I, L)
 else
 some (none, (S, I, L))) else none :=
  (blk_ok zcod none d zc_X12_tellOne [(244, .getfield 227, 247, [12, 13, 0, 693, 0], none), (247, .ifCond .le 4, 250, [251], none), (250, .return_, 251, [], none)] (243, .aload_n 0, 244, [], some [0, 1]) (by decide +kernel) _ _ _).trans rfl
set_option maxRecDepth 20000 in
set_option maxHeartbeats 4000000 in
theorem B_X12_tellOne_251 (d : Nat) (S : mS) (I : mI) (L : mJ) (l0 : Nat) (l1 : Int32) :
  evk zcod none d zc_X12_tellOne 251 [(0, .ref l0), (1, .int l1)] [] (S, I, L) =
  if kK S l0 = 12 then
 (bV (evM zcod d 170 [.ref l0] (S, I, L)) fun M1 =>
 if M1.1.1 = S.1 then
 (if kK M1.1 l0 = 12 then
 (bV (evM zcod d 184 [.ref l0, .int l1] M1) fun M2 =>
 if M2.1.1 = M1.1.1 then
 (evk zcod none d zc_X12_tellOne 260 [] [] M2) else none) else none) else none) else none :=
  (blk_ok zcod none d zc_X12_tellOne [(252, .invokevirtual 248, 255, [170, 0, 0, 12, 704, 705, 706, 662], none), (255, .aload_n 0, 256, [], none), (256, .iload_n 1, 257, [], none), (257, .invokevirtual 304, 260, [184, 1, 0, 12, 742, 743, 744, 662], none)] (251, .aload_n 0, 252, [], some [0, 1]) (by decide +kernel) _ _ _).trans rfl
set_option maxRecDepth 20000 in
set_option maxHeartbeats 4000000 in
theorem B_X12_tellOne_260 (d : Nat) (S : mS) (I : mI) (L : mJ)  :
  evk zcod none d zc_X12_tellOne 260 [] [] (S, I, L) =
  some (none, (S, I, L)) :=
  (blk_ok zcod none d zc_X12_tellOne [] (260, .return_, 261, [], some []) (by decide +kernel) _ _ _).trans rfl
theorem E_X12_named (d : Nat) (M : zM) (l0 : Nat) : evM zcod (d + 1) 178 [.ref l0] M = evk zcod none d zc_X12_named 0 [(0, .ref l0)] [] M := evM_eq zcod d 178 _ M (Nat.le_of_ble_eq_true rfl)
set_option maxRecDepth 20000 in
set_option maxHeartbeats 4000000 in
theorem B_X12_named_0 (d : Nat) (S : mS) (I : mI) (L : mJ) (l0 : Nat) :
  evk zcod none d zc_X12_named 0 [(0, .ref l0)] [] (S, I, L) =
  if kK S l0 = 12 then
 (if kK S l0 = 12 then
 (bV (evM zcod d 171 [.ref l0, .int (nI 1)] (S, I, L)) fun M1 =>
 if M1.1.1 = S.1 then
 (evk zcod none d zc_X12_named 12 [(0, .ref l0), (1, .int (I l0 11)), (2, .int (nI 0))] [] M1) else none) else none) else none :=
  (blk_ok zcod none d zc_X12_named [(1, .getfield 230, 4, [12, 11, 0, 694, 0], none), (4, .istore_n 1, 5, [], none), (5, .aload_n 0, 6, [], none), (6, .iconst 1, 7, [], none), (7, .invokevirtual 285, 10, [171, 1, 0, 12, 724, 725, 726, 662], none), (10, .iconst 0, 11, [], none), (11, .istore_n 2, 12, [], none)] (0, .aload_n 0, 1, [], none) (by decide +kernel) _ _ _).trans rfl
set_option maxRecDepth 20000 in
set_option maxHeartbeats 4000000 in
theorem B_X12_named_12 (d : Nat) (S : mS) (I : mI) (L : mJ) (l0 : Nat) (l1 : Int32) (l2 : Int32) :
  evk zcod none d zc_X12_named 12 [(0, .ref l0), (1, .int l1), (2, .int l2)] [] (S, I, L) =
  if kK S l0 = 12 then
 (if (I l0 20) ≤ l2 then
 evk zcod none d zc_X12_named 55 [(1, .int l1)] [] (S, I, L)
 else
 if kK S l0 = 12 then
 (if ¬ (I l0 13) = (nI 0) then
 evk zcod none d zc_X12_named 55 [(1, .int l1)] [] (S, I, L)
 else
 if kK S l0 = 12 then
 (if kK S (kR S l0 21) = 23 ∧ zin l2 (kN S (kR S l0 21)) then
 (if kK S l0 = 12 then
 (if kK S (kR S l0 8) = 23 ∧ zin l1 (kN S (kR S l0 8)) then
 (if ¬ (lg_cmp (L (kR S l0 21) (zix l2)) (L (kR S l0 8) (zix l1))) = (nI 0) then
 evk zcod none d zc_X12_named 49 [(0, .ref l0), (1, .int l1), (2, .int l2)] [] (S, I, L)
 else
 if kK S l0 = 12 then
 (bV (evM zcod d 169 [.ref l0, .int (nI 3), .int l1] (S, I, L)) fun M1 =>
 if M1.1.1 = S.1 then
 (evk zcod none d zc_X12_named 49 [(0, .ref l0), (1, .int l1), (2, .int l2)] [] M1) else none) else none) else none) else none) else none) else none) else none) else none :=
  (blk_ok zcod none d zc_X12_named [(13, .aload_n 0, 14, [], none), (14, .getfield 263, 17, [12, 20, 0, 713, 0], none), (17, .if_icmp .ge 38, 20, [55], none), (20, .aload_n 0, 21, [], none), (21, .getfield 227, 24, [12, 13, 0, 693, 0], none), (24, .ifCond .ne 31, 27, [55], none), (27, .aload_n 0, 28, [], none), (28, .getfield 40, 31, [12, 21, 2, 613, 0], none), (31, .iload_n 2, 32, [], none), (32, .laload, 33, [23], none), (33, .aload_n 0, 34, [], none), (34, .getfield 30, 37, [12, 8, 2, 610, 0], none), (37, .iload_n 1, 38, [], none), (38, .laload, 39, [23], none), (39, .lcmp, 40, [], none), (40, .ifCond .ne 9, 43, [49], none), (43, .aload_n 0, 44, [], none), (44, .iconst 3, 45, [], none), (45, .iload_n 1, 46, [], none), (46, .invokevirtual 307, 49, [169, 2, 0, 12, 745, 746, 747, 662], none)] (12, .iload_n 2, 13, [], some [0, 1, 2]) (by decide +kernel) _ _ _).trans rfl
set_option maxRecDepth 20000 in
set_option maxHeartbeats 4000000 in
theorem B_X12_named_49 (d : Nat) (S : mS) (I : mI) (L : mJ) (l0 : Nat) (l1 : Int32) (l2 : Int32) :
  evk zcod none d zc_X12_named 49 [(0, .ref l0), (1, .int l1), (2, .int l2)] [] (S, I, L) =
  evk zcod none d zc_X12_named 12 [(0, .ref l0), (1, .int l1), (2, .int (l2 + (nI 1)))] [] (S, I, L) :=
  (blk_ok zcod none d zc_X12_named [(52, .goto (-40), 55, [12], none)] (49, .iinc 2 1, 52, [], some [0, 1, 2]) (by decide +kernel) _ _ _).trans rfl
set_option maxRecDepth 20000 in
set_option maxHeartbeats 4000000 in
theorem B_X12_named_55 (d : Nat) (S : mS) (I : mI) (L : mJ) (l1 : Int32) :
  evk zcod none d zc_X12_named 55 [(1, .int l1)] [] (S, I, L) =
  some (some (.int l1), (S, I, L)) :=
  (blk_ok zcod none d zc_X12_named [(56, .ireturn, 57, [0], none)] (55, .iload_n 1, 56, [], some [1]) (by decide +kernel) _ _ _).trans rfl
theorem E_X12_ends (d : Nat) (M : zM) (l0 : Nat) (l1 : Int32) : evM zcod (d + 1) 179 [.ref l0, .int l1] M = evk zcod none d zc_X12_ends 0 [(0, .ref l0), (1, .int l1)] [] M := evM_eq zcod d 179 _ M (Nat.le_of_ble_eq_true rfl)
set_option maxRecDepth 20000 in
set_option maxHeartbeats 4000000 in
theorem B_X12_ends_0 (d : Nat) (S : mS) (I : mI) (L : mJ) (l0 : Nat) (l1 : Int32) :
  evk zcod none d zc_X12_ends 0 [(0, .ref l0), (1, .int l1)] [] (S, I, L) =
  if kK S l0 = 12 then
 (bV (evM zcod d 171 [.ref l0, .int (nI 4)] (S, I, L)) fun M1 =>
 if M1.1.1 = S.1 then
 (if kK M1.1 l0 = 12 then
 (if (M1.2.1 l0 13) ≤ (nI 0) then
 evk zcod none d zc_X12_ends 13 [(0, .ref l0), (1, .int l1)] [] M1
 else
 some (none, M1)) else none) else none) else none :=
  (blk_ok zcod none d zc_X12_ends [(1, .iconst 4, 2, [], none), (2, .invokevirtual 285, 5, [171, 1, 0, 12, 724, 725, 726, 662], none), (5, .aload_n 0, 6, [], none), (6, .getfield 227, 9, [12, 13, 0, 693, 0], none), (9, .ifCond .le 4, 12, [13], none), (12, .return_, 13, [], none)] (0, .aload_n 0, 1, [], none) (by decide +kernel) _ _ _).trans rfl
set_option maxRecDepth 20000 in
set_option maxHeartbeats 4000000 in
theorem B_X12_ends_13 (d : Nat) (S : mS) (I : mI) (L : mJ) (l0 : Nat) (l1 : Int32) :
  evk zcod none d zc_X12_ends 13 [(0, .ref l0), (1, .int l1)] [] (S, I, L) =
  if kK S l0 = 12 then
 (if kK S l0 = 12 then
 (if kK S l0 = 12 then
 (if kK S (kR S l0 8) = 23 ∧ zin l1 (kN S (kR S l0 8)) then
 (if kK S (kR S l0 21) = 23 ∧ zin (I l0 20) (kN S (kR S l0 21)) then
 (if kK S l0 = 12 then
 (if kK S l0 = 12 then
 (some (none, (S, (uI I l0 20 ((I l0 20) + (nI 1))), (uL L (kR S l0 21) (zix (I l0 20)) (L (kR S l0 8) (zix l1)))))) else none) else none) else none) else none) else none) else none) else none :=
  (blk_ok zcod none d zc_X12_ends [(14, .getfield 40, 17, [12, 21, 2, 613, 0], none), (17, .aload_n 0, 18, [], none), (18, .getfield 263, 21, [12, 20, 0, 713, 0], none), (21, .aload_n 0, 22, [], none), (22, .getfield 30, 25, [12, 8, 2, 610, 0], none), (25, .iload_n 1, 26, [], none), (26, .laload, 27, [23], none), (27, .lastore, 28, [23], none), (28, .aload_n 0, 29, [], none), (29, .dup, 30, [], none), (30, .getfield 263, 33, [12, 20, 0, 713, 0], none), (33, .iconst 1, 34, [], none), (34, .iadd, 35, [], none), (35, .putfield 263, 38, [12, 20, 0, 713, 0, 0], none), (38, .return_, 39, [], none)] (13, .aload_n 0, 14, [], some [0, 1]) (by decide +kernel) _ _ _).trans rfl
