/-! block equations, h -/
theorem E_J0_length_8abf5 (d : Nat) (M : zM) (l0 : Nat) : evM zcod (d + 1) 262 [.ref l0] M = evk zcod none d zc_J0_length_8abf5 0 [(0, .ref l0)] [] M := evM_eq zcod d 262 _ M (Nat.le_of_ble_eq_true rfl)
theorem B_J0_length_8abf5_0 (d : Nat) (M : zM) (l0 : Nat) :
  evk zcod none d zc_J0_length_8abf5 0 [(0, .ref l0)] [] M =
  if gK M l0 = 30 then
  (if gK M (l0 + 2) = 31 then
  (if gK M l0 = 30 then
  (bI (evM zcod d 263 [.ref l0] M) fun x1 M1 =>
  if M1.1.1 = M.1.1 then
  (some (some (.int ((Int32.ofNat (zby (l0 + 2)).length) >>> (x1 &&& 31))), M1)) else none) else none) else none) else none :=
  (blk_ok zcod none d zc_J0_length_8abf5 [(1, .getfield 9, 4, [30, 0, 0, 901], none), (4, .arraylength, 5, [31], none), (5, .aload_n 0, 6, [], none), (6, .invokevirtual 335, 9, [263, 0, 1, 30, 902, 903, 904, 120], none), (9, .ishr, 10, [], none), (10, .ireturn, 11, [0], none)] (0, .aload_n 0, 1, [], none) (by decide +kernel) _ _ _).trans rfl
theorem E_J0_coder_7d493 (d : Nat) (M : zM) (l0 : Nat) : evM zcod (d + 1) 263 [.ref l0] M = evk zcod none d zc_J0_coder_7d493 0 [(0, .ref l0)] [] M := evM_eq zcod d 263 _ M (Nat.le_of_ble_eq_true rfl)
theorem B_J0_coder_7d493_0 (d : Nat) (M : zM) (l0 : Nat) :
  evk zcod none d zc_J0_coder_7d493 0 [(0, .ref l0)] [] M =
  if (1 : Int32) = 0 then
  evk zcod none d zc_J0_coder_7d493 13 [] [] M
  else
  if gK M l0 = 30 then
  (evk zcod none d zc_J0_coder_7d493 14 [] [.int (0 : Int32)] M) else none :=
  (blk_ok zcod none d zc_J0_coder_7d493 [(3, .ifCond .eq 10, 6, [13], none), (6, .aload_n 0, 7, [], none), (7, .getfield 15, 10, [30, 1, 0, 906], none), (10, .goto 4, 13, [14], none)] (0, .getstatic 38, 3, [0, 905], none) (by decide +kernel) _ _ _).trans rfl
theorem B_J0_coder_7d493_13 (d : Nat) (M : zM)  :
  evk zcod none d zc_J0_coder_7d493 13 [] [] M =
  evk zcod none d zc_J0_coder_7d493 14 [] [.int (1 : Int32)] M :=
  (blk_ok zcod none d zc_J0_coder_7d493 [] (13, .iconst 1, 14, [], some []) (by decide +kernel) _ _ _).trans rfl
theorem B_J0_coder_7d493_14 (d : Nat) (M : zM) (s0 : Int32) :
  evk zcod none d zc_J0_coder_7d493 14 [] [.int s0] M =
  if -128 ≤ s0.toInt ∧ s0.toInt < 128 then some (some (.int s0), M) else none :=
  (blk_ok zcod none d zc_J0_coder_7d493 [] (14, .ireturn, 15, [3], some []) (by decide +kernel) _ _ _).trans rfl
theorem E_J0_charAt_5068e (d : Nat) (M : zM) (l0 : Nat) (l1 : Int32) : evM zcod (d + 1) 264 [.ref l0, .int l1] M = evk zcod none d zc_J0_charAt_5068e 0 [(0, .ref l0), (1, .int l1)] [] M := evM_eq zcod d 264 _ M (Nat.le_of_ble_eq_true rfl)
theorem B_J0_charAt_5068e_0 (d : Nat) (M : zM) (l0 : Nat) (l1 : Int32) :
  evk zcod none d zc_J0_charAt_5068e 0 [(0, .ref l0), (1, .int l1)] [] M =
  if gK M l0 = 30 then
  (bI (evM zcod d 265 [.ref l0] M) fun x1 M1 =>
  if M1.1.1 = M.1.1 then
  (if x1 = 0 then
  evk zcod none d zc_J0_charAt_5068e 16 [(0, .ref l0), (1, .int l1)] [] M1
  else
  if gK M1 l0 = 30 then
  (bI (evM zcod d 266 [.ref (l0 + 2), .int l1] M1) fun x2 M2 =>
  if M2.1.1 = M1.1.1 then
  (if 0 ≤ x2.toInt ∧ x2.toInt < 65536 then some (some (.int x2), M2) else none) else none) else none) else none) else none :=
  (blk_ok zcod none d zc_J0_charAt_5068e [(1, .invokevirtual 492, 4, [265, 0, 1, 30, 907, 908, 909, 120], none), (4, .ifCond .eq 12, 7, [16], none), (7, .aload_n 0, 8, [], none), (8, .getfield 9, 11, [30, 0, 0, 901], none), (11, .iload_n 1, 12, [], none), (12, .invokestatic 495, 15, [266, 2, 1, 0, 910, 911, 912], none), (15, .ireturn, 16, [2], none)] (0, .aload_n 0, 1, [], none) (by decide +kernel) _ _ _).trans rfl
theorem B_J0_charAt_5068e_16 (d : Nat) (M : zM) (l0 : Nat) (l1 : Int32) :
  evk zcod none d zc_J0_charAt_5068e 16 [(0, .ref l0), (1, .int l1)] [] M =
  if gK M l0 = 30 then
  (none) else none :=
  (blk_ok zcod none d zc_J0_charAt_5068e [(17, .getfield 9, 20, [30, 0, 0, 901], none), (20, .iload_n 1, 21, [], none), (21, .nop, 24, [], none)] (16, .aload_n 0, 17, [], some [0, 1]) (by decide +kernel) _ _ _).trans rfl
theorem E_J0_isLatin1_aae02 (d : Nat) (M : zM) (l0 : Nat) : evM zcod (d + 1) 265 [.ref l0] M = evk zcod none d zc_J0_isLatin1_aae02 0 [(0, .ref l0)] [] M := evM_eq zcod d 265 _ M (Nat.le_of_ble_eq_true rfl)
theorem B_J0_isLatin1_aae02_0 (d : Nat) (M : zM) (l0 : Nat) :
  evk zcod none d zc_J0_isLatin1_aae02 0 [(0, .ref l0)] [] M =
  if (1 : Int32) = 0 then
  evk zcod none d zc_J0_isLatin1_aae02 17 [] [] M
  else
  if gK M l0 = 30 then
  (if ¬ (0 : Int32) = 0 then
  evk zcod none d zc_J0_isLatin1_aae02 17 [] [] M
  else
  evk zcod none d zc_J0_isLatin1_aae02 18 [] [.int (1 : Int32)] M) else none :=
  (blk_ok zcod none d zc_J0_isLatin1_aae02 [(3, .ifCond .eq 14, 6, [17], none), (6, .aload_n 0, 7, [], none), (7, .getfield 15, 10, [30, 1, 0, 906], none), (10, .ifCond .ne 7, 13, [17], none), (13, .iconst 1, 14, [], none), (14, .goto 4, 17, [18], none)] (0, .getstatic 38, 3, [0, 905], none) (by decide +kernel) _ _ _).trans rfl
theorem B_J0_isLatin1_aae02_17 (d : Nat) (M : zM)  :
  evk zcod none d zc_J0_isLatin1_aae02 17 [] [] M =
  evk zcod none d zc_J0_isLatin1_aae02 18 [] [.int (0 : Int32)] M :=
  (blk_ok zcod none d zc_J0_isLatin1_aae02 [] (17, .iconst 0, 18, [], some []) (by decide +kernel) _ _ _).trans rfl
theorem B_J0_isLatin1_aae02_18 (d : Nat) (M : zM) (s0 : Int32) :
  evk zcod none d zc_J0_isLatin1_aae02 18 [] [.int s0] M =
  if s0 = 0 ∨ s0 = 1 then some (some (.int s0), M) else none :=
  (blk_ok zcod none d zc_J0_isLatin1_aae02 [] (18, .ireturn, 19, [1], some []) (by decide +kernel) _ _ _).trans rfl
theorem E_J1_charAt_3b067 (d : Nat) (M : zM) (l0 : Nat) (l1 : Int32) : evM zcod (d + 1) 266 [.ref l0, .int l1] M = evk zcod none d zc_J1_charAt_3b067 0 [(0, .ref l0), (1, .int l1)] [] M := evM_eq zcod d 266 _ M (Nat.le_of_ble_eq_true rfl)
theorem B_J1_charAt_3b067_0 (d : Nat) (M : zM) (l0 : Nat) (l1 : Int32) :
  evk zcod none d zc_J1_charAt_3b067 0 [(0, .ref l0), (1, .int l1)] [] M =
  if gK M l0 = 31 then
  (bV (evM zcod d 267 [.int l1, .int (Int32.ofNat (zby l0).length)] M) fun M1 =>
  if M1.1.1 = M.1.1 then
  (if gK M1 l0 = 31 ∧ zin l1 (zby l0).length then
  (if 0 ≤ (((((zby l0).getD (zix l1) 0) &&& (255 : Int32)).toUInt32 % 65536).toInt32).toInt ∧ (((((zby l0).getD (zix l1) 0) &&& (255 : Int32)).toUInt32 % 65536).toInt32).toInt < 65536 then some (some (.int (((((zby l0).getD (zix l1) 0) &&& (255 : Int32)).toUInt32 % 65536).toInt32)), M1) else none) else none) else none) else none :=
  (blk_ok zcod none d zc_J1_charAt_3b067 [(1, .aload_n 0, 2, [], none), (2, .arraylength, 3, [31], none), (3, .invokestatic 9, 6, [267, 2, 0, 0, 913, 914, 120], none), (6, .aload_n 0, 7, [], none), (7, .iload_n 1, 8, [], none), (8, .baload, 9, [31], none), (9, .sipush 255, 12, [], none), (12, .iand, 13, [], none), (13, .i2c, 14, [], none), (14, .ireturn, 15, [2], none)] (0, .iload_n 1, 1, [], none) (by decide +kernel) _ _ _).trans rfl
theorem E_J0_checkIndex_df160 (d : Nat) (M : zM) (l0 : Int32) (l1 : Int32) : evM zcod (d + 1) 267 [.int l0, .int l1] M = evk zcod none d zc_J0_checkIndex_df160 0 [(0, .int l0), (1, .int l1)] [] M := evM_eq zcod d 267 _ M (Nat.le_of_ble_eq_true rfl)
theorem B_J0_checkIndex_df160_0 (d : Nat) (M : zM) (l0 : Int32) (l1 : Int32) :
  evk zcod none d zc_J0_checkIndex_df160 0 [(0, .int l0), (1, .int l1)] [] M =
  bI (evM zcod d 268 [.int l0, .int l1, .retAddr 0] M) fun x1 M1 =>
  if M1.1.1 = M.1.1 then
  (some (none, M1)) else none :=
  (blk_ok zcod none d zc_J0_checkIndex_df160 [(1, .iload_n 1, 2, [], none), (2, .getstatic 1053, 5, [1, 915], none), (5, .invokestatic 1059, 8, [268, 3, 1, 0, 916, 917, 918], none), (8, .pop, 9, [], none), (9, .return_, 10, [], none)] (0, .iload_n 0, 1, [], none) (by decide +kernel) _ _ _).trans rfl
theorem E_J3_checkIndex_8e157 (d : Nat) (M : zM) (l0 : Int32) (l1 : Int32) : evM zcod (d + 1) 268 [.int l0, .int l1, .retAddr 0] M = evk zcod none d zc_J3_checkIndex_8e157 0 [(0, .int l0), (1, .int l1), (2, .retAddr 0)] [] M := evM_eq zcod d 268 _ M (Nat.le_of_ble_eq_true rfl)
theorem B_J3_checkIndex_8e157_0 (d : Nat) (M : zM) (l0 : Int32) (l1 : Int32) (l2 : Nat) :
  evk zcod none d zc_J3_checkIndex_8e157 0 [(0, .int l0), (1, .int l1), (2, .ref l2)] [] M =
  if l0 < 0 then
  evk zcod none d zc_J3_checkIndex_8e157 9 [(0, .int l0), (1, .int l1), (2, .ref l2)] [] M
  else
  if l0 < l1 then
  evk zcod none d zc_J3_checkIndex_8e157 16 [(0, .int l0)] [] M
  else
  evk zcod none d zc_J3_checkIndex_8e157 9 [(0, .int l0), (1, .int l1), (2, .ref l2)] [] M :=
  (blk_ok zcod none d zc_J3_checkIndex_8e157 [(1, .ifCond .lt 8, 4, [9], none), (4, .iload_n 0, 5, [], none), (5, .iload_n 1, 6, [], none), (6, .if_icmp .lt 10, 9, [16], none)] (0, .iload_n 0, 1, [], none) (by decide +kernel) _ _ _).trans rfl
theorem B_J3_checkIndex_8e157_9 (d : Nat) (M : zM) (l0 : Int32) (l1 : Int32) (l2 : Nat) :
  evk zcod none d zc_J3_checkIndex_8e157 9 [(0, .int l0), (1, .int l1), (2, .ref l2)] [] M =
  none :=
  (blk_ok zcod none d zc_J3_checkIndex_8e157 [(10, .iload_n 0, 11, [], none), (11, .iload_n 1, 12, [], none), (12, .nop, 15, [], none)] (9, .aload_n 2, 10, [], some [0, 1, 2]) (by decide +kernel) _ _ _).trans rfl
theorem B_J3_checkIndex_8e157_16 (d : Nat) (M : zM) (l0 : Int32) :
  evk zcod none d zc_J3_checkIndex_8e157 16 [(0, .int l0)] [] M =
  some (some (.int l0), M) :=
  (blk_ok zcod none d zc_J3_checkIndex_8e157 [(17, .ireturn, 18, [0], none)] (16, .iload_n 0, 17, [], some [0]) (by decide +kernel) _ _ _).trans rfl
theorem E_J0_indexOf_0f7a4 (d : Nat) (M : zM) (l0 : Nat) (l1 : Int32) : evM zcod (d + 1) 269 [.ref l0, .int l1] M = evk zcod none d zc_J0_indexOf_0f7a4 0 [(0, .ref l0), (1, .int l1)] [] M := evM_eq zcod d 269 _ M (Nat.le_of_ble_eq_true rfl)
theorem B_J0_indexOf_0f7a4_0 (d : Nat) (M : zM) (l0 : Nat) (l1 : Int32) :
  evk zcod none d zc_J0_indexOf_0f7a4 0 [(0, .ref l0), (1, .int l1)] [] M =
  if gK M l0 = 30 then
  (bI (evM zcod d 270 [.ref l0, .int l1, .int (0 : Int32)] M) fun x1 M1 =>
  if M1.1.1 = M.1.1 then
  (some (some (.int x1), M1)) else none) else none :=
  (blk_ok zcod none d zc_J0_indexOf_0f7a4 [(1, .iload_n 1, 2, [], none), (2, .iconst 0, 3, [], none), (3, .invokevirtual 633, 6, [270, 2, 1, 30, 919, 920, 921, 120], none), (6, .ireturn, 7, [0], none)] (0, .aload_n 0, 1, [], none) (by decide +kernel) _ _ _).trans rfl
theorem E_J0_indexOf_7cf53 (d : Nat) (M : zM) (l0 : Nat) (l1 : Int32) (l2 : Int32) : evM zcod (d + 1) 270 [.ref l0, .int l1, .int l2] M = evk zcod none d zc_J0_indexOf_7cf53 0 [(0, .ref l0), (1, .int l1), (2, .int l2)] [] M := evM_eq zcod d 270 _ M (Nat.le_of_ble_eq_true rfl)
theorem B_J0_indexOf_7cf53_0 (d : Nat) (M : zM) (l0 : Nat) (l1 : Int32) (l2 : Int32) :
  evk zcod none d zc_J0_indexOf_7cf53 0 [(0, .ref l0), (1, .int l1), (2, .int l2)] [] M =
  if gK M l0 = 30 then
  (bI (evM zcod d 265 [.ref l0] M) fun x1 M1 =>
  if M1.1.1 = M.1.1 then
  (if x1 = 0 then
  evk zcod none d zc_J0_indexOf_7cf53 23 [(0, .ref l0), (1, .int l1), (2, .int l2)] [] M1
  else
  if gK M1 l0 = 30 then
  (if gK M1 l0 = 30 then
  (bI (evM zcod d 262 [.ref l0] M1) fun x2 M2 =>
  if M2.1.1 = M1.1.1 then
  (bI (evM zcod d 271 [.ref (l0 + 2), .int l1, .int l2, .int x2] M2) fun x3 M3 =>
  if M3.1.1 = M2.1.1 then
  (evk zcod none d zc_J0_indexOf_7cf53 36 [] [.int x3] M3) else none) else none) else none) else none) else none) else none :=
  (blk_ok zcod none d zc_J0_indexOf_7cf53 [(1, .invokevirtual 492, 4, [265, 0, 1, 30, 907, 908, 909, 120], none), (4, .ifCond .eq 19, 7, [23], none), (7, .aload_n 0, 8, [], none), (8, .getfield 9, 11, [30, 0, 0, 901], none), (11, .iload_n 1, 12, [], none), (12, .iload_n 2, 13, [], none), (13, .aload_n 0, 14, [], none), (14, .invokevirtual 505, 17, [262, 0, 1, 30, 922, 118, 119, 120], none), (17, .invokestatic 637, 20, [271, 4, 1, 0, 923, 924, 912], none), (20, .goto 16, 23, [36], none)] (0, .aload_n 0, 1, [], none) (by decide +kernel) _ _ _).trans rfl
theorem B_J0_indexOf_7cf53_23 (d : Nat) (M : zM) (l0 : Nat) (l1 : Int32) (l2 : Int32) :
  evk zcod none d zc_J0_indexOf_7cf53 23 [(0, .ref l0), (1, .int l1), (2, .int l2)] [] M =
  if gK M l0 = 30 then
  (if gK M l0 = 30 then
  (bI (evM zcod d 262 [.ref l0] M) fun x1 M1 =>
  if M1.1.1 = M.1.1 then
  (none) else none) else none) else none :=
  (blk_ok zcod none d zc_J0_indexOf_7cf53 [(24, .getfield 9, 27, [30, 0, 0, 901], none), (27, .iload_n 1, 28, [], none), (28, .iload_n 2, 29, [], none), (29, .aload_n 0, 30, [], none), (30, .invokevirtual 505, 33, [262, 0, 1, 30, 922, 118, 119, 120], none), (33, .nop, 36, [], none)] (23, .aload_n 0, 24, [], some [0, 1, 2]) (by decide +kernel) _ _ _).trans rfl
theorem B_J0_indexOf_7cf53_36 (d : Nat) (M : zM) (s0 : Int32) :
  evk zcod none d zc_J0_indexOf_7cf53 36 [] [.int s0] M =
  some (some (.int s0), M) :=
  (blk_ok zcod none d zc_J0_indexOf_7cf53 [] (36, .ireturn, 37, [0], some []) (by decide +kernel) _ _ _).trans rfl
theorem E_J1_indexOf_4cfef (d : Nat) (M : zM) (l0 : Nat) (l1 : Int32) (l2 : Int32) (l3 : Int32) : evM zcod (d + 1) 271 [.ref l0, .int l1, .int l2, .int l3] M = evk zcod none d zc_J1_indexOf_4cfef 0 [(0, .ref l0), (1, .int l1), (2, .int l2), (3, .int l3)] [] M := evM_eq zcod d 271 _ M (Nat.le_of_ble_eq_true rfl)
theorem B_J1_indexOf_4cfef_0 (d : Nat) (M : zM) (l0 : Nat) (l1 : Int32) (l2 : Int32) (l3 : Int32) :
  evk zcod none d zc_J1_indexOf_4cfef 0 [(0, .ref l0), (1, .int l1), (2, .int l2), (3, .int l3)] [] M =
  bI (evM zcod d 272 [.int l1] M) fun x1 M1 =>
  if M1.1.1 = M.1.1 then
  (if ¬ x1 = 0 then
  evk zcod none d zc_J1_indexOf_4cfef 9 [(0, .ref l0), (1, .int l1), (2, .int l2), (3, .int l3)] [] M1
  else
  some (some (.int (-1 : Int32)), M1)) else none :=
  (blk_ok zcod none d zc_J1_indexOf_4cfef [(1, .invokestatic 88, 4, [272, 1, 1, 0, 925, 926, 912], none), (4, .ifCond .ne 5, 7, [9], none), (7, .iconst (-1), 8, [], none), (8, .ireturn, 9, [0], none)] (0, .iload_n 1, 1, [], none) (by decide +kernel) _ _ _).trans rfl
theorem B_J1_indexOf_4cfef_9 (d : Nat) (M : zM) (l0 : Nat) (l1 : Int32) (l2 : Int32) (l3 : Int32) :
  evk zcod none d zc_J1_indexOf_4cfef 9 [(0, .ref l0), (1, .int l1), (2, .int l2), (3, .int l3)] [] M =
  bI (evM zcod d 274 [.int l2, .int (0 : Int32)] M) fun x1 M1 =>
  if M1.1.1 = M.1.1 then
  (if gK M1 l0 = 31 then
  (bI (evM zcod d 275 [.int l3, .int (Int32.ofNat (zby l0).length)] M1) fun x2 M2 =>
  if M2.1.1 = M1.1.1 then
  (if x1 < x2 then
  evk zcod none d zc_J1_indexOf_4cfef 29 [(0, .ref l0), (1, .int l1), (2, .int x1), (3, .int x2)] [] M2
  else
  some (some (.int (-1 : Int32)), M2)) else none) else none) else none :=
  (blk_ok zcod none d zc_J1_indexOf_4cfef [(10, .iconst 0, 11, [], none), (11, .invokestatic 92, 14, [274, 2, 1, 0, 927, 410, 17], none), (14, .istore_n 2, 15, [], none), (15, .iload_n 3, 16, [], none), (16, .aload_n 0, 17, [], none), (17, .arraylength, 18, [31], none), (18, .invokestatic 38, 21, [275, 2, 1, 0, 928, 16, 17], none), (21, .istore_n 3, 22, [], none), (22, .iload_n 2, 23, [], none), (23, .iload_n 3, 24, [], none), (24, .if_icmp .lt 5, 27, [29], none), (27, .iconst (-1), 28, [], none), (28, .ireturn, 29, [0], none)] (9, .iload_n 2, 10, [], some [0, 1, 2, 3]) (by decide +kernel) _ _ _).trans rfl
theorem B_J1_indexOf_4cfef_29 (d : Nat) (M : zM) (l0 : Nat) (l1 : Int32) (l2 : Int32) (l3 : Int32) :
  evk zcod none d zc_J1_indexOf_4cfef 29 [(0, .ref l0), (1, .int l1), (2, .int l2), (3, .int l3)] [] M =
  bI (evM zcod d 273 [.ref l0, .int l1, .int l2, .int l3] M) fun x1 M1 =>
  if M1.1.1 = M.1.1 then
  (some (some (.int x1), M1)) else none :=
  (blk_ok zcod none d zc_J1_indexOf_4cfef [(30, .iload_n 1, 31, [], none), (31, .iload_n 2, 32, [], none), (32, .iload_n 3, 33, [], none), (33, .invokestatic 95, 36, [273, 4, 1, 0, 929, 930, 912], none), (36, .ireturn, 37, [0], none)] (29, .aload_n 0, 30, [], some [0, 1, 2, 3]) (by decide +kernel) _ _ _).trans rfl
theorem E_J1_canEncode_9a6ad (d : Nat) (M : zM) (l0 : Int32) : evM zcod (d + 1) 272 [.int l0] M = evk zcod none d zc_J1_canEncode_9a6ad 0 [(0, .int l0)] [] M := evM_eq zcod d 272 _ M (Nat.le_of_ble_eq_true rfl)
theorem B_J1_canEncode_9a6ad_0 (d : Nat) (M : zM) (l0 : Int32) :
  evk zcod none d zc_J1_canEncode_9a6ad 0 [(0, .int l0)] [] M =
  if l0 < 0 then
  evk zcod none d zc_J1_canEncode_9a6ad 15 [] [] M
  else
  if (255 : Int32) < l0 then
  evk zcod none d zc_J1_canEncode_9a6ad 15 [] [] M
  else
  evk zcod none d zc_J1_canEncode_9a6ad 16 [] [.int (1 : Int32)] M :=
  (blk_ok zcod none d zc_J1_canEncode_9a6ad [(1, .ifCond .lt 14, 4, [15], none), (4, .iload_n 0, 5, [], none), (5, .sipush 255, 8, [], none), (8, .if_icmp .gt 7, 11, [15], none), (11, .iconst 1, 12, [], none), (12, .goto 4, 15, [16], none)] (0, .iload_n 0, 1, [], none) (by decide +kernel) _ _ _).trans rfl
theorem B_J1_canEncode_9a6ad_15 (d : Nat) (M : zM)  :
  evk zcod none d zc_J1_canEncode_9a6ad 15 [] [] M =
  evk zcod none d zc_J1_canEncode_9a6ad 16 [] [.int (0 : Int32)] M :=
  (blk_ok zcod none d zc_J1_canEncode_9a6ad [] (15, .iconst 0, 16, [], some []) (by decide +kernel) _ _ _).trans rfl
theorem B_J1_canEncode_9a6ad_16 (d : Nat) (M : zM) (s0 : Int32) :
  evk zcod none d zc_J1_canEncode_9a6ad 16 [] [.int s0] M =
  if s0 = 0 ∨ s0 = 1 then some (some (.int s0), M) else none :=
  (blk_ok zcod none d zc_J1_canEncode_9a6ad [] (16, .ireturn, 17, [1], some []) (by decide +kernel) _ _ _).trans rfl
theorem E_J1_indexOfChar_4cfef (d : Nat) (M : zM) (l0 : Nat) (l1 : Int32) (l2 : Int32) (l3 : Int32) : evM zcod (d + 1) 273 [.ref l0, .int l1, .int l2, .int l3] M = evk zcod none d zc_J1_indexOfChar_4cfef 0 [(0, .ref l0), (1, .int l1), (2, .int l2), (3, .int l3)] [] M := evM_eq zcod d 273 _ M (Nat.le_of_ble_eq_true rfl)
theorem B_J1_indexOfChar_4cfef_0 (d : Nat) (M : zM) (l0 : Nat) (l1 : Int32) (l2 : Int32) (l3 : Int32) :
  evk zcod none d zc_J1_indexOfChar_4cfef 0 [(0, .ref l0), (1, .int l1), (2, .int l2), (3, .int l3)] [] M =
  evk zcod none d zc_J1_indexOfChar_4cfef 7 [(0, .ref l0), (3, .int l3), (4, .int l1.toInt8.toInt32), (5, .int l2)] [] M :=
  (blk_ok zcod none d zc_J1_indexOfChar_4cfef [(1, .i2b, 2, [], none), (2, .istore 4, 4, [], none), (4, .iload_n 2, 5, [], none), (5, .istore 5, 7, [], none)] (0, .iload_n 1, 1, [], none) (by decide +kernel) _ _ _).trans rfl
theorem B_J1_indexOfChar_4cfef_7 (d : Nat) (M : zM) (l0 : Nat) (l3 : Int32) (l4 : Int32) (l5 : Int32) :
  evk zcod none d zc_J1_indexOfChar_4cfef 7 [(0, .ref l0), (3, .int l3), (4, .int l4), (5, .int l5)] [] M =
  if l3 ≤ l5 then
  evk zcod none d zc_J1_indexOfChar_4cfef 31 [] [] M
  else
  if gK M l0 = 31 ∧ zin l5 (zby l0).length then
  (if ¬ ((zby l0).getD (zix l5) 0) = l4 then
  evk zcod none d zc_J1_indexOfChar_4cfef 25 [(0, .ref l0), (3, .int l3), (4, .int l4), (5, .int l5)] [] M
  else
  some (some (.int l5), M)) else none :=
  (blk_ok zcod none d zc_J1_indexOfChar_4cfef [(9, .iload_n 3, 10, [], none), (10, .if_icmp .ge 21, 13, [31], none), (13, .aload_n 0, 14, [], none), (14, .iload 5, 16, [], none), (16, .baload, 17, [31], none), (17, .iload 4, 19, [], none), (19, .if_icmp .ne 6, 22, [25], none), (22, .iload 5, 24, [], none), (24, .ireturn, 25, [0], none)] (7, .iload 5, 9, [], some [0, 3, 4, 5]) (by decide +kernel) _ _ _).trans rfl
theorem B_J1_indexOfChar_4cfef_25 (d : Nat) (M : zM) (l0 : Nat) (l3 : Int32) (l4 : Int32) (l5 : Int32) :
  evk zcod none d zc_J1_indexOfChar_4cfef 25 [(0, .ref l0), (3, .int l3), (4, .int l4), (5, .int l5)] [] M =
  evk zcod none d zc_J1_indexOfChar_4cfef 7 [(0, .ref l0), (3, .int l3), (4, .int l4), (5, .int (l5 + 1))] [] M :=
  (blk_ok zcod none d zc_J1_indexOfChar_4cfef [(28, .goto (-21), 31, [7], none)] (25, .iinc 5 1, 28, [], some [0, 3, 4, 5]) (by decide +kernel) _ _ _).trans rfl
theorem B_J1_indexOfChar_4cfef_31 (d : Nat) (M : zM)  :
  evk zcod none d zc_J1_indexOfChar_4cfef 31 [] [] M =
  some (some (.int (-1 : Int32)), M) :=
  (blk_ok zcod none d zc_J1_indexOfChar_4cfef [(32, .ireturn, 33, [0], none)] (31, .iconst (-1), 32, [], some []) (by decide +kernel) _ _ _).trans rfl
theorem E_J9_max_7cf53 (d : Nat) (M : zM) (l0 : Int32) (l1 : Int32) : evM zcod (d + 1) 274 [.int l0, .int l1] M = evk zcod none d zc_J9_max_7cf53 0 [(0, .int l0), (1, .int l1)] [] M := evM_eq zcod d 274 _ M (Nat.le_of_ble_eq_true rfl)
theorem B_J9_max_7cf53_0 (d : Nat) (M : zM) (l0 : Int32) (l1 : Int32) :
  evk zcod none d zc_J9_max_7cf53 0 [(0, .int l0), (1, .int l1)] [] M =
  if l0 < l1 then
  evk zcod none d zc_J9_max_7cf53 9 [(1, .int l1)] [] M
  else
  evk zcod none d zc_J9_max_7cf53 10 [] [.int l0] M :=
  (blk_ok zcod none d zc_J9_max_7cf53 [(1, .iload_n 1, 2, [], none), (2, .if_icmp .lt 7, 5, [9], none), (5, .iload_n 0, 6, [], none), (6, .goto 4, 9, [10], none)] (0, .iload_n 0, 1, [], none) (by decide +kernel) _ _ _).trans rfl
theorem B_J9_max_7cf53_9 (d : Nat) (M : zM) (l1 : Int32) :
  evk zcod none d zc_J9_max_7cf53 9 [(1, .int l1)] [] M =
  evk zcod none d zc_J9_max_7cf53 10 [] [.int l1] M :=
  (blk_ok zcod none d zc_J9_max_7cf53 [] (9, .iload_n 1, 10, [], some [1]) (by decide +kernel) _ _ _).trans rfl
theorem B_J9_max_7cf53_10 (d : Nat) (M : zM) (s0 : Int32) :
  evk zcod none d zc_J9_max_7cf53 10 [] [.int s0] M =
  some (some (.int s0), M) :=
  (blk_ok zcod none d zc_J9_max_7cf53 [] (10, .ireturn, 11, [0], some []) (by decide +kernel) _ _ _).trans rfl
theorem E_J9_min_7cf53 (d : Nat) (M : zM) (l0 : Int32) (l1 : Int32) : evM zcod (d + 1) 275 [.int l0, .int l1] M = evk zcod none d zc_J9_min_7cf53 0 [(0, .int l0), (1, .int l1)] [] M := evM_eq zcod d 275 _ M (Nat.le_of_ble_eq_true rfl)
theorem B_J9_min_7cf53_0 (d : Nat) (M : zM) (l0 : Int32) (l1 : Int32) :
  evk zcod none d zc_J9_min_7cf53 0 [(0, .int l0), (1, .int l1)] [] M =
  if l1 < l0 then
  evk zcod none d zc_J9_min_7cf53 9 [(1, .int l1)] [] M
  else
  evk zcod none d zc_J9_min_7cf53 10 [] [.int l0] M :=
  (blk_ok zcod none d zc_J9_min_7cf53 [(1, .iload_n 1, 2, [], none), (2, .if_icmp .gt 7, 5, [9], none), (5, .iload_n 0, 6, [], none), (6, .goto 4, 9, [10], none)] (0, .iload_n 0, 1, [], none) (by decide +kernel) _ _ _).trans rfl
theorem B_J9_min_7cf53_9 (d : Nat) (M : zM) (l1 : Int32) :
  evk zcod none d zc_J9_min_7cf53 9 [(1, .int l1)] [] M =
  evk zcod none d zc_J9_min_7cf53 10 [] [.int l1] M :=
  (blk_ok zcod none d zc_J9_min_7cf53 [] (9, .iload_n 1, 10, [], some [1]) (by decide +kernel) _ _ _).trans rfl
theorem B_J9_min_7cf53_10 (d : Nat) (M : zM) (s0 : Int32) :
  evk zcod none d zc_J9_min_7cf53 10 [] [.int s0] M =
  some (some (.int s0), M) :=
  (blk_ok zcod none d zc_J9_min_7cf53 [] (10, .ireturn, 11, [0], some []) (by decide +kernel) _ _ _).trans rfl
theorem E_J9_abs_0f7a4 (d : Nat) (M : zM) (l0 : Int32) : evM zcod (d + 1) 276 [.int l0] M = evk zcod none d zc_J9_abs_0f7a4 0 [(0, .int l0)] [] M := evM_eq zcod d 276 _ M (Nat.le_of_ble_eq_true rfl)
theorem B_J9_abs_0f7a4_0 (d : Nat) (M : zM) (l0 : Int32) :
  evk zcod none d zc_J9_abs_0f7a4 0 [(0, .int l0)] [] M =
  if 0 ≤ l0 then
  evk zcod none d zc_J9_abs_0f7a4 9 [(0, .int l0)] [] M
  else
  evk zcod none d zc_J9_abs_0f7a4 10 [] [.int (-l0)] M :=
  (blk_ok zcod none d zc_J9_abs_0f7a4 [(1, .ifCond .ge 8, 4, [9], none), (4, .iload_n 0, 5, [], none), (5, .ineg, 6, [], none), (6, .goto 4, 9, [10], none)] (0, .iload_n 0, 1, [], none) (by decide +kernel) _ _ _).trans rfl
theorem B_J9_abs_0f7a4_9 (d : Nat) (M : zM) (l0 : Int32) :
  evk zcod none d zc_J9_abs_0f7a4 9 [(0, .int l0)] [] M =
  evk zcod none d zc_J9_abs_0f7a4 10 [] [.int l0] M :=
  (blk_ok zcod none d zc_J9_abs_0f7a4 [] (9, .iload_n 0, 10, [], some [0]) (by decide +kernel) _ _ _).trans rfl
theorem B_J9_abs_0f7a4_10 (d : Nat) (M : zM) (s0 : Int32) :
  evk zcod none d zc_J9_abs_0f7a4 10 [] [.int s0] M =
  some (some (.int s0), M) :=
  (blk_ok zcod none d zc_J9_abs_0f7a4 [] (10, .ireturn, 11, [0], some []) (by decide +kernel) _ _ _).trans rfl
theorem E_J6_bitCount_0f7a4 (d : Nat) (M : zM) (l0 : Int32) : evM zcod (d + 1) 277 [.int l0] M = evk zcod none d zc_J6_bitCount_0f7a4 0 [(0, .int l0)] [] M := evM_eq zcod d 277 _ M (Nat.le_of_ble_eq_true rfl)
theorem B_J6_bitCount_0f7a4_0 (d : Nat) (M : zM) (l0 : Int32) :
  evk zcod none d zc_J6_bitCount_0f7a4 0 [(0, .int l0)] [] M =
  some (some (.int ((((((((l0 - ((l0.toUInt32 >>> ((1 : Int32).toUInt32 &&& 31)).toInt32 &&& (Int32.ofNat 1431655765))) &&& (Int32.ofNat 858993459)) + (((l0 - ((l0.toUInt32 >>> ((1 : Int32).toUInt32 &&& 31)).toInt32 &&& (Int32.ofNat 1431655765))).toUInt32 >>> ((2 : Int32).toUInt32 &&& 31)).toInt32 &&& (Int32.ofNat 858993459))) + ((((l0 - ((l0.toUInt32 >>> ((1 : Int32).toUInt32 &&& 31)).toInt32 &&& (Int32.ofNat 1431655765))) &&& (Int32.ofNat 858993459)) + (((l0 - ((l0.toUInt32 >>> ((1 : Int32).toUInt32 &&& 31)).toInt32 &&& (Int32.ofNat 1431655765))).toUInt32 >>> ((2 : Int32).toUInt32 &&& 31)).toInt32 &&& (Int32.ofNat 858993459))).toUInt32 >>> ((4 : Int32).toUInt32 &&& 31)).toInt32) &&& (Int32.ofNat 252645135)) + ((((((l0 - ((l0.toUInt32 >>> ((1 : Int32).toUInt32 &&& 31)).toInt32 &&& (Int32.ofNat 1431655765))) &&& (Int32.ofNat 858993459)) + (((l0 - ((l0.toUInt32 >>> ((1 : Int32).toUInt32 &&& 31)).toInt32 &&& (Int32.ofNat 1431655765))).toUInt32 >>> ((2 : Int32).toUInt32 &&& 31)).toInt32 &&& (Int32.ofNat 858993459))) + ((((l0 - ((l0.toUInt32 >>> ((1 : Int32).toUInt32 &&& 31)).toInt32 &&& (Int32.ofNat 1431655765))) &&& (Int32.ofNat 858993459)) + (((l0 - ((l0.toUInt32 >>> ((1 : Int32).toUInt32 &&& 31)).toInt32 &&& (Int32.ofNat 1431655765))).toUInt32 >>> ((2 : Int32).toUInt32 &&& 31)).toInt32 &&& (Int32.ofNat 858993459))).toUInt32 >>> ((4 : Int32).toUInt32 &&& 31)).toInt32) &&& (Int32.ofNat 252645135)).toUInt32 >>> ((8 : Int32).toUInt32 &&& 31)).toInt32) + (((((((l0 - ((l0.toUInt32 >>> ((1 : Int32).toUInt32 &&& 31)).toInt32 &&& (Int32.ofNat 1431655765))) &&& (Int32.ofNat 858993459)) + (((l0 - ((l0.toUInt32 >>> ((1 : Int32).toUInt32 &&& 31)).toInt32 &&& (Int32.ofNat 1431655765))).toUInt32 >>> ((2 : Int32).toUInt32 &&& 31)).toInt32 &&& (Int32.ofNat 858993459))) + ((((l0 - ((l0.toUInt32 >>> ((1 : Int32).toUInt32 &&& 31)).toInt32 &&& (Int32.ofNat 1431655765))) &&& (Int32.ofNat 858993459)) + (((l0 - ((l0.toUInt32 >>> ((1 : Int32).toUInt32 &&& 31)).toInt32 &&& (Int32.ofNat 1431655765))).toUInt32 >>> ((2 : Int32).toUInt32 &&& 31)).toInt32 &&& (Int32.ofNat 858993459))).toUInt32 >>> ((4 : Int32).toUInt32 &&& 31)).toInt32) &&& (Int32.ofNat 252645135)) + ((((((l0 - ((l0.toUInt32 >>> ((1 : Int32).toUInt32 &&& 31)).toInt32 &&& (Int32.ofNat 1431655765))) &&& (Int32.ofNat 858993459)) + (((l0 - ((l0.toUInt32 >>> ((1 : Int32).toUInt32 &&& 31)).toInt32 &&& (Int32.ofNat 1431655765))).toUInt32 >>> ((2 : Int32).toUInt32 &&& 31)).toInt32 &&& (Int32.ofNat 858993459))) + ((((l0 - ((l0.toUInt32 >>> ((1 : Int32).toUInt32 &&& 31)).toInt32 &&& (Int32.ofNat 1431655765))) &&& (Int32.ofNat 858993459)) + (((l0 - ((l0.toUInt32 >>> ((1 : Int32).toUInt32 &&& 31)).toInt32 &&& (Int32.ofNat 1431655765))).toUInt32 >>> ((2 : Int32).toUInt32 &&& 31)).toInt32 &&& (Int32.ofNat 858993459))).toUInt32 >>> ((4 : Int32).toUInt32 &&& 31)).toInt32) &&& (Int32.ofNat 252645135)).toUInt32 >>> ((8 : Int32).toUInt32 &&& 31)).toInt32).toUInt32 >>> ((16 : Int32).toUInt32 &&& 31)).toInt32) &&& (63 : Int32))), M) :=
  (blk_ok zcod none d zc_J6_bitCount_0f7a4 [(1, .iload_n 0, 2, [], none), (2, .iconst 1, 3, [], none), (3, .iushr, 4, [], none), (4, .ldc_w 265, 7, [0, 1431655765, 931], none), (7, .iand, 8, [], none), (8, .isub, 9, [], none), (9, .istore_n 0, 10, [], none), (10, .iload_n 0, 11, [], none), (11, .ldc_w 266, 14, [0, 858993459, 932], none), (14, .iand, 15, [], none), (15, .iload_n 0, 16, [], none), (16, .iconst 2, 17, [], none), (17, .iushr, 18, [], none), (18, .ldc_w 266, 21, [0, 858993459, 932], none), (21, .iand, 22, [], none), (22, .iadd, 23, [], none), (23, .istore_n 0, 24, [], none), (24, .iload_n 0, 25, [], none), (25, .iload_n 0, 26, [], none), (26, .iconst 4, 27, [], none), (27, .iushr, 28, [], none), (28, .iadd, 29, [], none), (29, .ldc_w 267, 32, [0, 252645135, 933], none), (32, .iand, 33, [], none), (33, .istore_n 0, 34, [], none), (34, .iload_n 0, 35, [], none), (35, .iload_n 0, 36, [], none), (36, .bipush 8, 38, [], none), (38, .iushr, 39, [], none), (39, .iadd, 40, [], none), (40, .istore_n 0, 41, [], none), (41, .iload_n 0, 42, [], none), (42, .iload_n 0, 43, [], none), (43, .bipush 16, 45, [], none), (45, .iushr, 46, [], none), (46, .iadd, 47, [], none), (47, .istore_n 0, 48, [], none), (48, .iload_n 0, 49, [], none), (49, .bipush 63, 51, [], none), (51, .iand, 52, [], none), (52, .ireturn, 53, [0], none)] (0, .iload_n 0, 1, [], none) (by decide +kernel) _ _ _).trans rfl
