/-! block equations over (S, I, L): 95.blki -/
set_option maxRecDepth 20000 in
set_option maxHeartbeats 4000000 in
theorem B_law_16 (d : Nat) (S : mS) (I : mI) (L : mJ) (L0 : Nat) (xs : Nat → Int32) (l0 : Nat) (l1 : Nat) (l2 : Nat) :
  evk zcod (some (L0, xs)) d zc_law 16 [(0, .ref l0), (1, .ref l1), (2, .ref l2)] [] (S, I, L) =
  evk zcod (some (L0, xs)) d zc_law 18 [(0, .ref l0), (1, .ref l1), (2, .ref l2), (3, .int (nI 0))] [] (S, I, L) :=
  (blk_ok zcod (some (L0, xs)) d zc_law [(17, .istore_n 3, 18, [], none)] (16, .iconst 0, 17, [], some [0, 1, 2]) (by decide +kernel) _ _ _).trans rfl
set_option maxRecDepth 20000 in
set_option maxHeartbeats 4000000 in
theorem B_law_18 (d : Nat) (S : mS) (I : mI) (L : mJ) (L0 : Nat) (xs : Nat → Int32) (l0 : Nat) (l1 : Nat) (l2 : Nat) (l3 : Int32) :
  evk zcod (some (L0, xs)) d zc_law 18 [(0, .ref l0), (1, .ref l1), (2, .ref l2), (3, .int l3)] [] (S, I, L) =
  if l0 = 1 then
 (if ((nI L0) - (nI 6)) < l3 then
 evk zcod (some (L0, xs)) d zc_law 1194 [] [] (S, I, L)
 else
 if l0 = 1 ∧ zin l3 L0 then
 (if ((xs (zix l3)) &&& (nI 31)) = (nI 0) then evk zcod (some (L0, xs)) d zc_law 176 [(0, .ref l0), (1, .ref l1), (2, .ref l2), (3, .int l3)] [] (S, I, L) else
 if ((xs (zix l3)) &&& (nI 31)) = (nI 1) then evk zcod (some (L0, xs)) d zc_law 239 [(0, .ref l0), (1, .ref l1), (2, .ref l2), (3, .int l3)] [] (S, I, L) else
 if ((xs (zix l3)) &&& (nI 31)) = (nI 2) then evk zcod (some (L0, xs)) d zc_law 262 [(0, .ref l0), (1, .ref l1), (2, .ref l2), (3, .int l3)] [] (S, I, L) else
 if ((xs (zix l3)) &&& (nI 31)) = (nI 3) then evk zcod (some (L0, xs)) d zc_law 275 [(0, .ref l0), (1, .ref l1), (2, .ref l2), (3, .int l3)] [] (S, I, L) else
 if ((xs (zix l3)) &&& (nI 31)) = (nI 4) then evk zcod (some (L0, xs)) d zc_law 288 [(0, .ref l0), (1, .ref l1), (2, .ref l2), (3, .int l3)] [] (S, I, L) else
 if ((xs (zix l3)) &&& (nI 31)) = (nI 5) then evk zcod (some (L0, xs)) d zc_law 321 [(0, .ref l0), (1, .ref l1), (2, .ref l2), (3, .int l3)] [] (S, I, L) else
 if ((xs (zix l3)) &&& (nI 31)) = (nI 6) then evk zcod (some (L0, xs)) d zc_law 354 [(0, .ref l0), (1, .ref l1), (2, .ref l2), (3, .int l3)] [] (S, I, L) else
 if ((xs (zix l3)) &&& (nI 31)) = (nI 7) then evk zcod (some (L0, xs)) d zc_law 377 [(0, .ref l0), (1, .ref l1), (2, .ref l2), (3, .int l3)] [] (S, I, L) else
 if ((xs (zix l3)) &&& (nI 31)) = (nI 8) then evk zcod (some (L0, xs)) d zc_law 410 [(0, .ref l0), (1, .ref l1), (2, .ref l2), (3, .int l3)] [] (S, I, L) else
 if ((xs (zix l3)) &&& (nI 31)) = (nI 9) then evk zcod (some (L0, xs)) d zc_law 453 [(0, .ref l0), (1, .ref l1), (2, .ref l2), (3, .int l3)] [] (S, I, L) else
 if ((xs (zix l3)) &&& (nI 31)) = (nI 10) then evk zcod (some (L0, xs)) d zc_law 486 [(0, .ref l0), (1, .ref l1), (2, .ref l2), (3, .int l3)] [] (S, I, L) else
 if ((xs (zix l3)) &&& (nI 31)) = (nI 11) then evk zcod (some (L0, xs)) d zc_law 519 [(0, .ref l0), (1, .ref l1), (2, .ref l2), (3, .int l3)] [] (S, I, L) else
 if ((xs (zix l3)) &&& (nI 31)) = (nI 12) then evk zcod (some (L0, xs)) d zc_law 568 [(0, .ref l0), (1, .ref l1), (2, .ref l2), (3, .int l3)] [] (S, I, L) else
 if ((xs (zix l3)) &&& (nI 31)) = (nI 13) then evk zcod (some (L0, xs)) d zc_law 591 [(0, .ref l0), (1, .ref l1), (2, .ref l2), (3, .int l3)] [] (S, I, L) else
 if ((xs (zix l3)) &&& (nI 31)) = (nI 14) then evk zcod (some (L0, xs)) d zc_law 604 [(0, .ref l0), (1, .ref l1), (2, .ref l2), (3, .int l3)] [] (S, I, L) else
 if ((xs (zix l3)) &&& (nI 31)) = (nI 15) then evk zcod (some (L0, xs)) d zc_law 657 [(0, .ref l0), (1, .ref l1), (2, .ref l2), (3, .int l3)] [] (S, I, L) else
 if ((xs (zix l3)) &&& (nI 31)) = (nI 16) then evk zcod (some (L0, xs)) d zc_law 700 [(0, .ref l0), (1, .ref l1), (2, .ref l2), (3, .int l3)] [] (S, I, L) else
 if ((xs (zix l3)) &&& (nI 31)) = (nI 17) then evk zcod (some (L0, xs)) d zc_law 743 [(0, .ref l0), (1, .ref l1), (2, .ref l2), (3, .int l3)] [] (S, I, L) else
 if ((xs (zix l3)) &&& (nI 31)) = (nI 18) then evk zcod (some (L0, xs)) d zc_law 766 [(0, .ref l0), (1, .ref l1), (2, .ref l2), (3, .int l3)] [] (S, I, L) else
 if ((xs (zix l3)) &&& (nI 31)) = (nI 19) then evk zcod (some (L0, xs)) d zc_law 799 [(0, .ref l0), (1, .ref l1), (2, .ref l2), (3, .int l3)] [] (S, I, L) else
 if ((xs (zix l3)) &&& (nI 31)) = (nI 20) then evk zcod (some (L0, xs)) d zc_law 822 [(0, .ref l0), (1, .ref l1), (2, .ref l2), (3, .int l3)] [] (S, I, L) else
 if ((xs (zix l3)) &&& (nI 31)) = (nI 21) then evk zcod (some (L0, xs)) d zc_law 835 [(0, .ref l0), (1, .ref l1), (2, .ref l2), (3, .int l3)] [] (S, I, L) else
 if ((xs (zix l3)) &&& (nI 31)) = (nI 22) then evk zcod (some (L0, xs)) d zc_law 878 [(0, .ref l0), (1, .ref l1), (2, .ref l2), (3, .int l3)] [] (S, I, L) else
 if ((xs (zix l3)) &&& (nI 31)) = (nI 23) then evk zcod (some (L0, xs)) d zc_law 921 [(0, .ref l0), (1, .ref l1), (2, .ref l2), (3, .int l3)] [] (S, I, L) else
 if ((xs (zix l3)) &&& (nI 31)) = (nI 24) then evk zcod (some (L0, xs)) d zc_law 944 [(0, .ref l0), (1, .ref l1), (2, .ref l2), (3, .int l3)] [] (S, I, L) else
 if ((xs (zix l3)) &&& (nI 31)) = (nI 25) then evk zcod (some (L0, xs)) d zc_law 987 [(0, .ref l0), (1, .ref l1), (2, .ref l2), (3, .int l3)] [] (S, I, L) else
 if ((xs (zix l3)) &&& (nI 31)) = (nI 26) then evk zcod (some (L0, xs)) d zc_law 1050 [(0, .ref l0), (1, .ref l1), (2, .ref l2), (3, .int l3)] [] (S, I, L) else
 if ((xs (zix l3)) &&& (nI 31)) = (nI 27) then evk zcod (some (L0, xs)) d zc_law 1063 [(0, .ref l0), (1, .ref l1), (2, .ref l2), (3, .int l3)] [] (S, I, L) else
 if ((xs (zix l3)) &&& (nI 31)) = (nI 28) then evk zcod (some (L0, xs)) d zc_law 1096 [(0, .ref l0), (1, .ref l1), (2, .ref l2), (3, .int l3)] [] (S, I, L) else
 if ((xs (zix l3)) &&& (nI 31)) = (nI 29) then evk zcod (some (L0, xs)) d zc_law 1119 [(0, .ref l0), (1, .ref l1), (2, .ref l2), (3, .int l3)] [] (S, I, L) else
 if ((xs (zix l3)) &&& (nI 31)) = (nI 30) then evk zcod (some (L0, xs)) d zc_law 1142 [(0, .ref l0), (1, .ref l1), (2, .ref l2), (3, .int l3)] [] (S, I, L) else
 if ((xs (zix l3)) &&& (nI 31)) = (nI 31) then evk zcod (some (L0, xs)) d zc_law 1165 [(0, .ref l0), (1, .ref l1), (2, .ref l2), (3, .int l3)] [] (S, I, L) else
 evk zcod (some (L0, xs)) d zc_law 1188 [(0, .ref l0), (1, .ref l1), (2, .ref l2), (3, .int l3)] [] (S, I, L)) else none) else none :=
  (blk_ok zcod (some (L0, xs)) d zc_law [(19, .aload_n 0, 20, [], none), (20, .arraylength, 21, [40], none), (21, .bipush 6, 23, [], none), (23, .isub, 24, [], none), (24, .if_icmp .gt 1170, 27, [1194], none), (27, .aload_n 0, 28, [], none), (28, .iload_n 3, 29, [], none), (29, .iaload, 30, [40], none), (30, .bipush 31, 32, [], none), (32, .iand, 33, [], none), (33, .tableswitch 1155 0 31 #[143, 206, 229, 242, 255, 288, 321, 344, 377, 420, 453, 486, 535, 558, 571, 624, 667, 710, 733, 766, 789, 802, 845, 888, 911, 954, 1017, 1030, 1063, 1086, 1109, 1132], 176, [1188, 176, 239, 262, 275, 288, 321, 354, 377, 410, 453, 486, 519, 568, 591, 604, 657, 700, 743, 766, 799, 822, 835, 878, 921, 944, 987, 1050, 1063, 1096, 1119, 1142, 1165], none)] (18, .iload_n 3, 19, [], some [0, 1, 2, 3]) (by decide +kernel) _ _ _).trans rfl
set_option maxRecDepth 20000 in
set_option maxHeartbeats 4000000 in
theorem B_law_176 (d : Nat) (S : mS) (I : mI) (L : mJ) (L0 : Nat) (xs : Nat → Int32) (l0 : Nat) (l1 : Nat) (l2 : Nat) (l3 : Int32) :
  evk zcod (some (L0, xs)) d zc_law 176 [(0, .ref l0), (1, .ref l1), (2, .ref l2), (3, .int l3)] [] (S, I, L) =
  if l0 = 1 ∧ zin (l3 + (nI 1)) L0 then
 (if l0 = 1 ∧ zin (l3 + (nI 2)) L0 then
 (if l0 = 1 ∧ zin (l3 + (nI 3)) L0 then
 (if l0 = 1 ∧ zin (l3 + (nI 4)) L0 then
 (if l0 = 1 ∧ zin (l3 + (nI 5)) L0 then
 (if kK S l1 = 11 then
 (bI (evM zcod d 113 [.ref l1, .int (xs (zix (l3 + (nI 1)))), .int (xs (zix (l3 + (nI 2)))), .int (xs (zix (l3 + (nI 3)))), .int (xs (zix (l3 + (nI 4)))), .int (xs (zix (l3 + (nI 5))))] (S, I, L)) fun x1 M1 =>
 if M1.1.1 = S.1 then
 (if l0 = 1 ∧ zin (l3 + (nI 1)) L0 then
 (if l0 = 1 ∧ zin (l3 + (nI 2)) L0 then
 (if l0 = 1 ∧ zin (l3 + (nI 3)) L0 then
 (if l0 = 1 ∧ zin (l3 + (nI 4)) L0 then
 (if l0 = 1 ∧ zin (l3 + (nI 5)) L0 then
 (if kK M1.1 l2 = 12 then
 (bI (evM zcod d 156 [.ref l2, .int (xs (zix (l3 + (nI 1)))), .int (xs (zix (l3 + (nI 2)))), .int (xs (zix (l3 + (nI 3)))), .int (xs (zix (l3 + (nI 4)))), .int (xs (zix (l3 + (nI 5))))] M1) fun x2 M2 =>
 if M2.1.1 = M1.1.1 then
 (if x1 = x2 then
 evk zcod (some (L0, xs)) d zc_law 1188 [(0, .ref l0), (1, .ref l1), (2, .ref l2), (3, .int l3)] [] M2
 else
 some (some (.int (nI 0)), M2)) else none) else none) else none) else none) else none) else none) else none) else none) else none) else none) else none) else none) else none) else none :=
  (blk_ok zcod (some (L0, xs)) d zc_law [(177, .aload_n 0, 178, [], none), (178, .iload_n 3, 179, [], none), (179, .iconst 1, 180, [], none), (180, .iadd, 181, [], none), (181, .iaload, 182, [40], none), (182, .aload_n 0, 183, [], none), (183, .iload_n 3, 184, [], none), (184, .iconst 2, 185, [], none), (185, .iadd, 186, [], none), (186, .iaload, 187, [40], none), (187, .aload_n 0, 188, [], none), (188, .iload_n 3, 189, [], none), (189, .iconst 3, 190, [], none), (190, .iadd, 191, [], none), (191, .iaload, 192, [40], none), (192, .aload_n 0, 193, [], none), (193, .iload_n 3, 194, [], none), (194, .iconst 4, 195, [], none), (195, .iadd, 196, [], none), (196, .iaload, 197, [40], none), (197, .aload_n 0, 198, [], none), (198, .iload_n 3, 199, [], none), (199, .iconst 5, 200, [], none), (200, .iadd, 201, [], none), (201, .iaload, 202, [40], none), (202, .invokevirtual 13, 205, [113, 5, 1, 11, 942, 943, 944, 222], none), (205, .aload_n 2, 206, [], none), (206, .aload_n 0, 207, [], none), (207, .iload_n 3, 208, [], none), (208, .iconst 1, 209, [], none), (209, .iadd, 210, [], none), (210, .iaload, 211, [40], none), (211, .aload_n 0, 212, [], none), (212, .iload_n 3, 213, [], none), (213, .iconst 2, 214, [], none), (214, .iadd, 215, [], none), (215, .iaload, 216, [40], none), (216, .aload_n 0, 217, [], none), (217, .iload_n 3, 218, [], none), (218, .iconst 3, 219, [], none), (219, .iadd, 220, [], none), (220, .iaload, 221, [40], none), (221, .aload_n 0, 222, [], none), (222, .iload_n 3, 223, [], none), (223, .iconst 4, 224, [], none), (224, .iadd, 225, [], none), (225, .iaload, 226, [40], none), (226, .aload_n 0, 227, [], none), (227, .iload_n 3, 228, [], none), (228, .iconst 5, 229, [], none), (229, .iadd, 230, [], none), (230, .iaload, 231, [40], none), (231, .invokevirtual 17, 234, [156, 5, 1, 12, 945, 946, 947, 662], none), (234, .if_icmp .eq 954, 237, [1188], none), (237, .iconst 0, 238, [], none), (238, .ireturn, 239, [1], none)] (176, .aload_n 1, 177, [], some [0, 1, 2, 3]) (by decide +kernel) _ _ _).trans rfl
set_option maxRecDepth 20000 in
set_option maxHeartbeats 4000000 in
theorem B_law_239 (d : Nat) (S : mS) (I : mI) (L : mJ) (L0 : Nat) (xs : Nat → Int32) (l0 : Nat) (l1 : Nat) (l2 : Nat) (l3 : Int32) :
  evk zcod (some (L0, xs)) d zc_law 239 [(0, .ref l0), (1, .ref l1), (2, .ref l2), (3, .int l3)] [] (S, I, L) =
  if l0 = 1 ∧ zin (l3 + (nI 1)) L0 then
 (if kK S l1 = 11 then
 (bI (evM zcod d 114 [.ref l1, .int (xs (zix (l3 + (nI 1))))] (S, I, L)) fun x1 M1 =>
 if M1.1.1 = S.1 then
 (if l0 = 1 ∧ zin (l3 + (nI 1)) L0 then
 (if kK M1.1 l2 = 12 then
 (bI (evM zcod d 158 [.ref l2, .int (xs (zix (l3 + (nI 1))))] M1) fun x2 M2 =>
 if M2.1.1 = M1.1.1 then
 (if x1 = x2 then
 evk zcod (some (L0, xs)) d zc_law 1188 [(0, .ref l0), (1, .ref l1), (2, .ref l2), (3, .int l3)] [] M2
 else
 some (some (.int (nI 0)), M2)) else none) else none) else none) else none) else none) else none :=
  (blk_ok zcod (some (L0, xs)) d zc_law [(240, .aload_n 0, 241, [], none), (241, .iload_n 3, 242, [], none), (242, .iconst 1, 243, [], none), (243, .iadd, 244, [], none), (244, .iaload, 245, [40], none), (245, .invokevirtual 18, 248, [114, 1, 1, 11, 948, 949, 950, 222], none), (248, .aload_n 2, 249, [], none), (249, .aload_n 0, 250, [], none), (250, .iload_n 3, 251, [], none), (251, .iconst 1, 252, [], none), (252, .iadd, 253, [], none), (253, .iaload, 254, [40], none), (254, .invokevirtual 22, 257, [158, 1, 1, 12, 951, 952, 953, 662], none), (257, .if_icmp .eq 931, 260, [1188], none), (260, .iconst 0, 261, [], none), (261, .ireturn, 262, [1], none)] (239, .aload_n 1, 240, [], some [0, 1, 2, 3]) (by decide +kernel) _ _ _).trans rfl
set_option maxRecDepth 20000 in
set_option maxHeartbeats 4000000 in
theorem B_law_262 (d : Nat) (S : mS) (I : mI) (L : mJ) (L0 : Nat) (xs : Nat → Int32) (l0 : Nat) (l1 : Nat) (l2 : Nat) (l3 : Int32) :
  evk zcod (some (L0, xs)) d zc_law 262 [(0, .ref l0), (1, .ref l1), (2, .ref l2), (3, .int l3)] [] (S, I, L) =
  if kK S l1 = 11 then
 (bI (evM zcod d 115 [.ref l1] (S, I, L)) fun x1 M1 =>
 if M1.1.1 = S.1 then
 (if kK M1.1 l2 = 12 then
 (bI (evM zcod d 173 [.ref l2] M1) fun x2 M2 =>
 if M2.1.1 = M1.1.1 then
 (if x1 = x2 then
 evk zcod (some (L0, xs)) d zc_law 1188 [(0, .ref l0), (1, .ref l1), (2, .ref l2), (3, .int l3)] [] M2
 else
 some (some (.int (nI 0)), M2)) else none) else none) else none) else none :=
  (blk_ok zcod (some (L0, xs)) d zc_law [(263, .invokevirtual 23, 266, [115, 0, 1, 11, 954, 955, 956, 222], none), (266, .aload_n 2, 267, [], none), (267, .invokevirtual 27, 270, [173, 0, 1, 12, 957, 958, 959, 662], none), (270, .if_icmp .eq 918, 273, [1188], none), (273, .iconst 0, 274, [], none), (274, .ireturn, 275, [1], none)] (262, .aload_n 1, 263, [], some [0, 1, 2, 3]) (by decide +kernel) _ _ _).trans rfl
set_option maxRecDepth 20000 in
set_option maxHeartbeats 4000000 in
theorem B_law_275 (d : Nat) (S : mS) (I : mI) (L : mJ) (L0 : Nat) (xs : Nat → Int32) (l0 : Nat) (l1 : Nat) (l2 : Nat) (l3 : Int32) :
  evk zcod (some (L0, xs)) d zc_law 275 [(0, .ref l0), (1, .ref l1), (2, .ref l2), (3, .int l3)] [] (S, I, L) =
  if kK S l1 = 11 then
 (bI (evM zcod d 116 [.ref l1] (S, I, L)) fun x1 M1 =>
 if M1.1.1 = S.1 then
 (if kK M1.1 l2 = 12 then
 (bI (evM zcod d 174 [.ref l2] M1) fun x2 M2 =>
 if M2.1.1 = M1.1.1 then
 (if x1 = x2 then
 evk zcod (some (L0, xs)) d zc_law 1188 [(0, .ref l0), (1, .ref l1), (2, .ref l2), (3, .int l3)] [] M2
 else
 some (some (.int (nI 0)), M2)) else none) else none) else none) else none :=
  (blk_ok zcod (some (L0, xs)) d zc_law [(276, .invokevirtual 28, 279, [116, 0, 1, 11, 960, 961, 962, 222], none), (279, .aload_n 2, 280, [], none), (280, .invokevirtual 31, 283, [174, 0, 1, 12, 963, 964, 965, 662], none), (283, .if_icmp .eq 905, 286, [1188], none), (286, .iconst 0, 287, [], none), (287, .ireturn, 288, [1], none)] (275, .aload_n 1, 276, [], some [0, 1, 2, 3]) (by decide +kernel) _ _ _).trans rfl
set_option maxRecDepth 20000 in
set_option maxHeartbeats 4000000 in
theorem B_law_288 (d : Nat) (S : mS) (I : mI) (L : mJ) (L0 : Nat) (xs : Nat → Int32) (l0 : Nat) (l1 : Nat) (l2 : Nat) (l3 : Int32) :
  evk zcod (some (L0, xs)) d zc_law 288 [(0, .ref l0), (1, .ref l1), (2, .ref l2), (3, .int l3)] [] (S, I, L) =
  if l0 = 1 ∧ zin (l3 + (nI 1)) L0 then
 (if l0 = 1 ∧ zin (l3 + (nI 2)) L0 then
 (if kK S l1 = 11 then
 (bI (evM zcod d 117 [.ref l1, .int (xs (zix (l3 + (nI 1)))), .int (xs (zix (l3 + (nI 2))))] (S, I, L)) fun x1 M1 =>
 if M1.1.1 = S.1 then
 (if l0 = 1 ∧ zin (l3 + (nI 1)) L0 then
 (if l0 = 1 ∧ zin (l3 + (nI 2)) L0 then
 (if kK M1.1 l2 = 12 then
 (bI (evM zcod d 218 [.ref l2, .int (xs (zix (l3 + (nI 1)))), .int (xs (zix (l3 + (nI 2))))] M1) fun x2 M2 =>
 if M2.1.1 = M1.1.1 then
 (if x1 = x2 then
 evk zcod (some (L0, xs)) d zc_law 1188 [(0, .ref l0), (1, .ref l1), (2, .ref l2), (3, .int l3)] [] M2
 else
 some (some (.int (nI 0)), M2)) else none) else none) else none) else none) else none) else none) else none) else none :=
  (blk_ok zcod (some (L0, xs)) d zc_law [(289, .aload_n 0, 290, [], none), (290, .iload_n 3, 291, [], none), (291, .iconst 1, 292, [], none), (292, .iadd, 293, [], none), (293, .iaload, 294, [40], none), (294, .aload_n 0, 295, [], none), (295, .iload_n 3, 296, [], none), (296, .iconst 2, 297, [], none), (297, .iadd, 298, [], none), (298, .iaload, 299, [40], none), (299, .invokevirtual 32, 302, [117, 2, 1, 11, 966, 967, 968, 222], none), (302, .aload_n 2, 303, [], none), (303, .aload_n 0, 304, [], none), (304, .iload_n 3, 305, [], none), (305, .iconst 1, 306, [], none), (306, .iadd, 307, [], none), (307, .iaload, 308, [40], none), (308, .aload_n 0, 309, [], none), (309, .iload_n 3, 310, [], none), (310, .iconst 2, 311, [], none), (311, .iadd, 312, [], none), (312, .iaload, 313, [40], none), (313, .invokevirtual 36, 316, [218, 2, 1, 12, 969, 970, 971, 662], none), (316, .if_icmp .eq 872, 319, [1188], none), (319, .iconst 0, 320, [], none), (320, .ireturn, 321, [1], none)] (288, .aload_n 1, 289, [], some [0, 1, 2, 3]) (by decide +kernel) _ _ _).trans rfl
set_option maxRecDepth 20000 in
set_option maxHeartbeats 4000000 in
theorem B_law_321 (d : Nat) (S : mS) (I : mI) (L : mJ) (L0 : Nat) (xs : Nat → Int32) (l0 : Nat) (l1 : Nat) (l2 : Nat) (l3 : Int32) :
  evk zcod (some (L0, xs)) d zc_law 321 [(0, .ref l0), (1, .ref l1), (2, .ref l2), (3, .int l3)] [] (S, I, L) =
  if l0 = 1 ∧ zin (l3 + (nI 1)) L0 then
 (if l0 = 1 ∧ zin (l3 + (nI 2)) L0 then
 (if kK S l1 = 11 then
 (bI (evM zcod d 118 [.ref l1, .int (xs (zix (l3 + (nI 1)))), .int (xs (zix (l3 + (nI 2))))] (S, I, L)) fun x1 M1 =>
 if M1.1.1 = S.1 then
 (if l0 = 1 ∧ zin (l3 + (nI 1)) L0 then
 (if l0 = 1 ∧ zin (l3 + (nI 2)) L0 then
 (if kK M1.1 l2 = 12 then
 (bI (evM zcod d 219 [.ref l2, .int (xs (zix (l3 + (nI 1)))), .int (xs (zix (l3 + (nI 2))))] M1) fun x2 M2 =>
 if M2.1.1 = M1.1.1 then
 (if x1 = x2 then
 evk zcod (some (L0, xs)) d zc_law 1188 [(0, .ref l0), (1, .ref l1), (2, .ref l2), (3, .int l3)] [] M2
 else
 some (some (.int (nI 0)), M2)) else none) else none) else none) else none) else none) else none) else none) else none :=
  (blk_ok zcod (some (L0, xs)) d zc_law [(322, .aload_n 0, 323, [], none), (323, .iload_n 3, 324, [], none), (324, .iconst 1, 325, [], none), (325, .iadd, 326, [], none), (326, .iaload, 327, [40], none), (327, .aload_n 0, 328, [], none), (328, .iload_n 3, 329, [], none), (329, .iconst 2, 330, [], none), (330, .iadd, 331, [], none), (331, .iaload, 332, [40], none), (332, .invokevirtual 37, 335, [118, 2, 1, 11, 972, 973, 974, 222], none), (335, .aload_n 2, 336, [], none), (336, .aload_n 0, 337, [], none), (337, .iload_n 3, 338, [], none), (338, .iconst 1, 339, [], none), (339, .iadd, 340, [], none), (340, .iaload, 341, [40], none), (341, .aload_n 0, 342, [], none), (342, .iload_n 3, 343, [], none), (343, .iconst 2, 344, [], none), (344, .iadd, 345, [], none), (345, .iaload, 346, [40], none), (346, .invokevirtual 40, 349, [219, 2, 1, 12, 975, 976, 977, 662], none), (349, .if_icmp .eq 839, 352, [1188], none), (352, .iconst 0, 353, [], none), (353, .ireturn, 354, [1], none)] (321, .aload_n 1, 322, [], some [0, 1, 2, 3]) (by decide +kernel) _ _ _).trans rfl
set_option maxRecDepth 20000 in
set_option maxHeartbeats 4000000 in
theorem B_law_354 (d : Nat) (S : mS) (I : mI) (L : mJ) (L0 : Nat) (xs : Nat → Int32) (l0 : Nat) (l1 : Nat) (l2 : Nat) (l3 : Int32) :
  evk zcod (some (L0, xs)) d zc_law 354 [(0, .ref l0), (1, .ref l1), (2, .ref l2), (3, .int l3)] [] (S, I, L) =
  if l0 = 1 ∧ zin (l3 + (nI 1)) L0 then
 (if kK S l1 = 11 then
 (bI (evM zcod d 119 [.ref l1, .int (xs (zix (l3 + (nI 1))))] (S, I, L)) fun x1 M1 =>
 if M1.1.1 = S.1 then
 (if l0 = 1 ∧ zin (l3 + (nI 1)) L0 then
 (if kK M1.1 l2 = 12 then
 (bI (evM zcod d 220 [.ref l2, .int (xs (zix (l3 + (nI 1))))] M1) fun x2 M2 =>
 if M2.1.1 = M1.1.1 then
 (if x1 = x2 then
 evk zcod (some (L0, xs)) d zc_law 1188 [(0, .ref l0), (1, .ref l1), (2, .ref l2), (3, .int l3)] [] M2
 else
 some (some (.int (nI 0)), M2)) else none) else none) else none) else none) else none) else none :=
  (blk_ok zcod (some (L0, xs)) d zc_law [(355, .aload_n 0, 356, [], none), (356, .iload_n 3, 357, [], none), (357, .iconst 1, 358, [], none), (358, .iadd, 359, [], none), (359, .iaload, 360, [40], none), (360, .invokevirtual 41, 363, [119, 1, 1, 11, 978, 979, 980, 222], none), (363, .aload_n 2, 364, [], none), (364, .aload_n 0, 365, [], none), (365, .iload_n 3, 366, [], none), (366, .iconst 1, 367, [], none), (367, .iadd, 368, [], none), (368, .iaload, 369, [40], none), (369, .invokevirtual 44, 372, [220, 1, 1, 12, 981, 982, 983, 662], none), (372, .if_icmp .eq 816, 375, [1188], none), (375, .iconst 0, 376, [], none), (376, .ireturn, 377, [1], none)] (354, .aload_n 1, 355, [], some [0, 1, 2, 3]) (by decide +kernel) _ _ _).trans rfl
set_option maxRecDepth 20000 in
set_option maxHeartbeats 4000000 in
theorem B_law_377 (d : Nat) (S : mS) (I : mI) (L : mJ) (L0 : Nat) (xs : Nat → Int32) (l0 : Nat) (l1 : Nat) (l2 : Nat) (l3 : Int32) :
  evk zcod (some (L0, xs)) d zc_law 377 [(0, .ref l0), (1, .ref l1), (2, .ref l2), (3, .int l3)] [] (S, I, L) =
  if l0 = 1 ∧ zin (l3 + (nI 1)) L0 then
 (if l0 = 1 ∧ zin (l3 + (nI 2)) L0 then
 (if kK S l1 = 11 then
 (bI (evM zcod d 120 [.ref l1, .int (xs (zix (l3 + (nI 1)))), .int (xs (zix (l3 + (nI 2))))] (S, I, L)) fun x1 M1 =>
 if M1.1.1 = S.1 then
 (if l0 = 1 ∧ zin (l3 + (nI 1)) L0 then
 (if l0 = 1 ∧ zin (l3 + (nI 2)) L0 then
 (if kK M1.1 l2 = 12 then
 (bI (evM zcod d 221 [.ref l2, .int (xs (zix (l3 + (nI 1)))), .int (xs (zix (l3 + (nI 2))))] M1) fun x2 M2 =>
 if M2.1.1 = M1.1.1 then
 (if x1 = x2 then
 evk zcod (some (L0, xs)) d zc_law 1188 [(0, .ref l0), (1, .ref l1), (2, .ref l2), (3, .int l3)] [] M2
 else
 some (some (.int (nI 0)), M2)) else none) else none) else none) else none) else none) else none) else none) else none :=
  (blk_ok zcod (some (L0, xs)) d zc_law [(378, .aload_n 0, 379, [], none), (379, .iload_n 3, 380, [], none), (380, .iconst 1, 381, [], none), (381, .iadd, 382, [], none), (382, .iaload, 383, [40], none), (383, .aload_n 0, 384, [], none), (384, .iload_n 3, 385, [], none), (385, .iconst 2, 386, [], none), (386, .iadd, 387, [], none), (387, .iaload, 388, [40], none), (388, .invokevirtual 45, 391, [120, 2, 1, 11, 984, 985, 986, 222], none), (391, .aload_n 2, 392, [], none), (392, .aload_n 0, 393, [], none), (393, .iload_n 3, 394, [], none), (394, .iconst 1, 395, [], none), (395, .iadd, 396, [], none), (396, .iaload, 397, [40], none), (397, .aload_n 0, 398, [], none), (398, .iload_n 3, 399, [], none), (399, .iconst 2, 400, [], none), (400, .iadd, 401, [], none), (401, .iaload, 402, [40], none), (402, .invokevirtual 48, 405, [221, 2, 1, 12, 987, 988, 989, 662], none), (405, .if_icmp .eq 783, 408, [1188], none), (408, .iconst 0, 409, [], none), (409, .ireturn, 410, [1], none)] (377, .aload_n 1, 378, [], some [0, 1, 2, 3]) (by decide +kernel) _ _ _).trans rfl
set_option maxRecDepth 20000 in
set_option maxHeartbeats 4000000 in
theorem B_law_410 (d : Nat) (S : mS) (I : mI) (L : mJ) (L0 : Nat) (xs : Nat → Int32) (l0 : Nat) (l1 : Nat) (l2 : Nat) (l3 : Int32) :
  evk zcod (some (L0, xs)) d zc_law 410 [(0, .ref l0), (1, .ref l1), (2, .ref l2), (3, .int l3)] [] (S, I, L) =
  if l0 = 1 ∧ zin (l3 + (nI 1)) L0 then
 (if l0 = 1 ∧ zin (l3 + (nI 2)) L0 then
 (if l0 = 1 ∧ zin (l3 + (nI 3)) L0 then
 (if kK S l1 = 11 then
 (bI (evM zcod d 121 [.ref l1, .int (xs (zix (l3 + (nI 1)))), .int (xs (zix (l3 + (nI 2)))), .int (xs (zix (l3 + (nI 3))))] (S, I, L)) fun x1 M1 =>
 if M1.1.1 = S.1 then
 (if l0 = 1 ∧ zin (l3 + (nI 1)) L0 then
 (if l0 = 1 ∧ zin (l3 + (nI 2)) L0 then
 (if l0 = 1 ∧ zin (l3 + (nI 3)) L0 then
 (if kK M1.1 l2 = 12 then
 (bI (evM zcod d 222 [.ref l2, .int (xs (zix (l3 + (nI 1)))), .int (xs (zix (l3 + (nI 2)))), .int (xs (zix (l3 + (nI 3))))] M1) fun x2 M2 =>
 if M2.1.1 = M1.1.1 then
 (if x1 = x2 then
 evk zcod (some (L0, xs)) d zc_law 1188 [(0, .ref l0), (1, .ref l1), (2, .ref l2), (3, .int l3)] [] M2
 else
 some (some (.int (nI 0)), M2)) else none) else none) else none) else none) else none) else none) else none) else none) else none) else none :=
  (blk_ok zcod (some (L0, xs)) d zc_law [(411, .aload_n 0, 412, [], none), (412, .iload_n 3, 413, [], none), (413, .iconst 1, 414, [], none), (414, .iadd, 415, [], none), (415, .iaload, 416, [40], none), (416, .aload_n 0, 417, [], none), (417, .iload_n 3, 418, [], none), (418, .iconst 2, 419, [], none), (419, .iadd, 420, [], none), (420, .iaload, 421, [40], none), (421, .aload_n 0, 422, [], none), (422, .iload_n 3, 423, [], none), (423, .iconst 3, 424, [], none), (424, .iadd, 425, [], none), (425, .iaload, 426, [40], none), (426, .invokevirtual 49, 429, [121, 3, 1, 11, 990, 991, 992, 222], none), (429, .aload_n 2, 430, [], none), (430, .aload_n 0, 431, [], none), (431, .iload_n 3, 432, [], none), (432, .iconst 1, 433, [], none), (433, .iadd, 434, [], none), (434, .iaload, 435, [40], none), (435, .aload_n 0, 436, [], none), (436, .iload_n 3, 437, [], none), (437, .iconst 2, 438, [], none), (438, .iadd, 439, [], none), (439, .iaload, 440, [40], none), (440, .aload_n 0, 441, [], none), (441, .iload_n 3, 442, [], none), (442, .iconst 3, 443, [], none), (443, .iadd, 444, [], none), (444, .iaload, 445, [40], none), (445, .invokevirtual 53, 448, [222, 3, 1, 12, 993, 994, 995, 662], none), (448, .if_icmp .eq 740, 451, [1188], none), (451, .iconst 0, 452, [], none), (452, .ireturn, 453, [1], none)] (410, .aload_n 1, 411, [], some [0, 1, 2, 3]) (by decide +kernel) _ _ _).trans rfl
set_option maxRecDepth 20000 in
set_option maxHeartbeats 4000000 in
theorem B_law_453 (d : Nat) (S : mS) (I : mI) (L : mJ) (L0 : Nat) (xs : Nat → Int32) (l0 : Nat) (l1 : Nat) (l2 : Nat) (l3 : Int32) :
  evk zcod (some (L0, xs)) d zc_law 453 [(0, .ref l0), (1, .ref l1), (2, .ref l2), (3, .int l3)] [] (S, I, L) =
  if l0 = 1 ∧ zin (l3 + (nI 1)) L0 then
 (if l0 = 1 ∧ zin (l3 + (nI 2)) L0 then
 (if kK S l1 = 11 then
 (bI (evM zcod d 122 [.ref l1, .int (xs (zix (l3 + (nI 1)))), .int (xs (zix (l3 + (nI 2))))] (S, I, L)) fun x1 M1 =>
 if M1.1.1 = S.1 then
 (if l0 = 1 ∧ zin (l3 + (nI 1)) L0 then
 (if l0 = 1 ∧ zin (l3 + (nI 2)) L0 then
 (if kK M1.1 l2 = 12 then
 (bI (evM zcod d 226 [.ref l2, .int (xs (zix (l3 + (nI 1)))), .int (xs (zix (l3 + (nI 2))))] M1) fun x2 M2 =>
 if M2.1.1 = M1.1.1 then
 (if x1 = x2 then
 evk zcod (some (L0, xs)) d zc_law 1188 [(0, .ref l0), (1, .ref l1), (2, .ref l2), (3, .int l3)] [] M2
 else
 some (some (.int (nI 0)), M2)) else none) else none) else none) else none) else none) else none) else none) else none :=
  (blk_ok zcod (some (L0, xs)) d zc_law [(454, .aload_n 0, 455, [], none), (455, .iload_n 3, 456, [], none), (456, .iconst 1, 457, [], none), (457, .iadd, 458, [], none), (458, .iaload, 459, [40], none), (459, .aload_n 0, 460, [], none), (460, .iload_n 3, 461, [], none), (461, .iconst 2, 462, [], none), (462, .iadd, 463, [], none), (463, .iaload, 464, [40], none), (464, .invokevirtual 54, 467, [122, 2, 1, 11, 996, 997, 998, 222], none), (467, .aload_n 2, 468, [], none), (468, .aload_n 0, 469, [], none), (469, .iload_n 3, 470, [], none), (470, .iconst 1, 471, [], none), (471, .iadd, 472, [], none), (472, .iaload, 473, [40], none), (473, .aload_n 0, 474, [], none), (474, .iload_n 3, 475, [], none), (475, .iconst 2, 476, [], none), (476, .iadd, 477, [], none), (477, .iaload, 478, [40], none), (478, .invokevirtual 57, 481, [226, 2, 1, 12, 999, 1000, 1001, 662], none), (481, .if_icmp .eq 707, 484, [1188], none), (484, .iconst 0, 485, [], none), (485, .ireturn, 486, [1], none)] (453, .aload_n 1, 454, [], some [0, 1, 2, 3]) (by decide +kernel) _ _ _).trans rfl
set_option maxRecDepth 20000 in
set_option maxHeartbeats 4000000 in
theorem B_law_486 (d : Nat) (S : mS) (I : mI) (L : mJ) (L0 : Nat) (xs : Nat → Int32) (l0 : Nat) (l1 : Nat) (l2 : Nat) (l3 : Int32) :
  evk zcod (some (L0, xs)) d zc_law 486 [(0, .ref l0), (1, .ref l1), (2, .ref l2), (3, .int l3)] [] (S, I, L) =
  if l0 = 1 ∧ zin (l3 + (nI 1)) L0 then
 (if l0 = 1 ∧ zin (l3 + (nI 2)) L0 then
 (if kK S l1 = 11 then
 (bI (evM zcod d 123 [.ref l1, .int (xs (zix (l3 + (nI 1)))), .int (xs (zix (l3 + (nI 2))))] (S, I, L)) fun x1 M1 =>
 if M1.1.1 = S.1 then
 (if l0 = 1 ∧ zin (l3 + (nI 1)) L0 then
 (if l0 = 1 ∧ zin (l3 + (nI 2)) L0 then
 (if kK M1.1 l2 = 12 then
 (bI (evM zcod d 227 [.ref l2, .int (xs (zix (l3 + (nI 1)))), .int (xs (zix (l3 + (nI 2))))] M1) fun x2 M2 =>
 if M2.1.1 = M1.1.1 then
 (if x1 = x2 then
 evk zcod (some (L0, xs)) d zc_law 1188 [(0, .ref l0), (1, .ref l1), (2, .ref l2), (3, .int l3)] [] M2
 else
 some (some (.int (nI 0)), M2)) else none) else none) else none) else none) else none) else none) else none) else none :=
  (blk_ok zcod (some (L0, xs)) d zc_law [(487, .aload_n 0, 488, [], none), (488, .iload_n 3, 489, [], none), (489, .iconst 1, 490, [], none), (490, .iadd, 491, [], none), (491, .iaload, 492, [40], none), (492, .aload_n 0, 493, [], none), (493, .iload_n 3, 494, [], none), (494, .iconst 2, 495, [], none), (495, .iadd, 496, [], none), (496, .iaload, 497, [40], none), (497, .invokevirtual 58, 500, [123, 2, 1, 11, 1002, 1003, 1004, 222], none), (500, .aload_n 2, 501, [], none), (501, .aload_n 0, 502, [], none), (502, .iload_n 3, 503, [], none), (503, .iconst 1, 504, [], none), (504, .iadd, 505, [], none), (505, .iaload, 506, [40], none), (506, .aload_n 0, 507, [], none), (507, .iload_n 3, 508, [], none), (508, .iconst 2, 509, [], none), (509, .iadd, 510, [], none), (510, .iaload, 511, [40], none), (511, .invokevirtual 62, 514, [227, 2, 1, 12, 1005, 1006, 1007, 662], none), (514, .if_icmp .eq 674, 517, [1188], none), (517, .iconst 0, 518, [], none), (518, .ireturn, 519, [1], none)] (486, .aload_n 1, 487, [], some [0, 1, 2, 3]) (by decide +kernel) _ _ _).trans rfl
set_option maxRecDepth 20000 in
set_option maxHeartbeats 4000000 in
theorem B_law_519 (d : Nat) (S : mS) (I : mI) (L : mJ) (L0 : Nat) (xs : Nat → Int32) (l0 : Nat) (l1 : Nat) (l2 : Nat) (l3 : Int32) :
  evk zcod (some (L0, xs)) d zc_law 519 [(0, .ref l0), (1, .ref l1), (2, .ref l2), (3, .int l3)] [] (S, I, L) =
  if l0 = 1 ∧ zin (l3 + (nI 1)) L0 then
 (if l0 = 1 ∧ zin (l3 + (nI 2)) L0 then
 (if (xs (zix (l3 + (nI 2)))) = (nI 0) then
 evk zcod (some (L0, xs)) d zc_law 537 [(0, .ref l0), (1, .ref l1), (2, .ref l2), (3, .int l3)] [.int (xs (zix (l3 + (nI 1)))), .ref l1] (S, I, L)
 else
 evk zcod (some (L0, xs)) d zc_law 538 [(0, .ref l0), (1, .ref l1), (2, .ref l2), (3, .int l3)] [.int (nI 1), .int (xs (zix (l3 + (nI 1)))), .ref l1] (S, I, L)) else none) else none :=
  (blk_ok zcod (some (L0, xs)) d zc_law [(520, .aload_n 0, 521, [], none), (521, .iload_n 3, 522, [], none), (522, .iconst 1, 523, [], none), (523, .iadd, 524, [], none), (524, .iaload, 525, [40], none), (525, .aload_n 0, 526, [], none), (526, .iload_n 3, 527, [], none), (527, .iconst 2, 528, [], none), (528, .iadd, 529, [], none), (529, .iaload, 530, [40], none), (530, .ifCond .eq 7, 533, [537], none), (533, .iconst 1, 534, [], none), (534, .goto 4, 537, [538], none)] (519, .aload_n 1, 520, [], some [0, 1, 2, 3]) (by decide +kernel) _ _ _).trans rfl
set_option maxRecDepth 20000 in
set_option maxHeartbeats 4000000 in
theorem B_law_537 (d : Nat) (S : mS) (I : mI) (L : mJ) (L0 : Nat) (xs : Nat → Int32) (l0 : Nat) (l1 : Nat) (l2 : Nat) (l3 : Int32) (s0 : Nat) (s1 : Int32) :
  evk zcod (some (L0, xs)) d zc_law 537 [(0, .ref l0), (1, .ref l1), (2, .ref l2), (3, .int l3)] [.int s1, .ref s0] (S, I, L) =
  evk zcod (some (L0, xs)) d zc_law 538 [(0, .ref l0), (1, .ref l1), (2, .ref l2), (3, .int l3)] [.int (nI 0), .int s1, .ref s0] (S, I, L) :=
  (blk_ok zcod (some (L0, xs)) d zc_law [] (537, .iconst 0, 538, [], some [0, 1, 2, 3]) (by decide +kernel) _ _ _).trans rfl
set_option maxRecDepth 20000 in
set_option maxHeartbeats 4000000 in
theorem B_law_538 (d : Nat) (S : mS) (I : mI) (L : mJ) (L0 : Nat) (xs : Nat → Int32) (l0 : Nat) (l1 : Nat) (l2 : Nat) (l3 : Int32) (s0 : Nat) (s1 : Int32) (s2 : Int32) :
  evk zcod (some (L0, xs)) d zc_law 538 [(0, .ref l0), (1, .ref l1), (2, .ref l2), (3, .int l3)] [.int s2, .int s1, .ref s0] (S, I, L) =
  if kK S s0 = 11 then
 (bI (evM zcod d 124 [.ref s0, .int s1, .int s2] (S, I, L)) fun x1 M1 =>
 if M1.1.1 = S.1 then
 (if l0 = 1 ∧ zin (l3 + (nI 1)) L0 then
 (if l0 = 1 ∧ zin (l3 + (nI 2)) L0 then
 (if (xs (zix (l3 + (nI 2)))) = (nI 0) then
 evk zcod (some (L0, xs)) d zc_law 559 [(0, .ref l0), (1, .ref l1), (2, .ref l2), (3, .int l3)] [.int (xs (zix (l3 + (nI 1)))), .ref l2, .int x1] M1
 else
 evk zcod (some (L0, xs)) d zc_law 560 [(0, .ref l0), (1, .ref l1), (2, .ref l2), (3, .int l3)] [.int (nI 1), .int (xs (zix (l3 + (nI 1)))), .ref l2, .int x1] M1) else none) else none) else none) else none :=
  (blk_ok zcod (some (L0, xs)) d zc_law [(541, .aload_n 2, 542, [], none), (542, .aload_n 0, 543, [], none), (543, .iload_n 3, 544, [], none), (544, .iconst 1, 545, [], none), (545, .iadd, 546, [], none), (546, .iaload, 547, [40], none), (547, .aload_n 0, 548, [], none), (548, .iload_n 3, 549, [], none), (549, .iconst 2, 550, [], none), (550, .iadd, 551, [], none), (551, .iaload, 552, [40], none), (552, .ifCond .eq 7, 555, [559], none), (555, .iconst 1, 556, [], none), (556, .goto 4, 559, [560], none)] (538, .invokevirtual 63, 541, [124, 2, 1, 11, 1008, 1009, 1010, 222], some [0, 1, 2, 3]) (by decide +kernel) _ _ _).trans rfl
set_option maxRecDepth 20000 in
set_option maxHeartbeats 4000000 in
theorem B_law_559 (d : Nat) (S : mS) (I : mI) (L : mJ) (L0 : Nat) (xs : Nat → Int32) (l0 : Nat) (l1 : Nat) (l2 : Nat) (l3 : Int32) (s0 : Int32) (s1 : Nat) (s2 : Int32) :
  evk zcod (some (L0, xs)) d zc_law 559 [(0, .ref l0), (1, .ref l1), (2, .ref l2), (3, .int l3)] [.int s2, .ref s1, .int s0] (S, I, L) =
  evk zcod (some (L0, xs)) d zc_law 560 [(0, .ref l0), (1, .ref l1), (2, .ref l2), (3, .int l3)] [.int (nI 0), .int s2, .ref s1, .int s0] (S, I, L) :=
  (blk_ok zcod (some (L0, xs)) d zc_law [] (559, .iconst 0, 560, [], some [0, 1, 2, 3]) (by decide +kernel) _ _ _).trans rfl
set_option maxRecDepth 20000 in
set_option maxHeartbeats 4000000 in
theorem B_law_560 (d : Nat) (S : mS) (I : mI) (L : mJ) (L0 : Nat) (xs : Nat → Int32) (l0 : Nat) (l1 : Nat) (l2 : Nat) (l3 : Int32) (s0 : Int32) (s1 : Nat) (s2 : Int32) (s3 : Int32) :
  evk zcod (some (L0, xs)) d zc_law 560 [(0, .ref l0), (1, .ref l1), (2, .ref l2), (3, .int l3)] [.int s3, .int s2, .ref s1, .int s0] (S, I, L) =
  if kK S s1 = 12 then
 (bI (evM zcod d 228 [.ref s1, .int s2, .int s3] (S, I, L)) fun x1 M1 =>
 if M1.1.1 = S.1 then
 (if s0 = x1 then
 evk zcod (some (L0, xs)) d zc_law 1188 [(0, .ref l0), (1, .ref l1), (2, .ref l2), (3, .int l3)] [] M1
 else
 some (some (.int (nI 0)), M1)) else none) else none :=
  (blk_ok zcod (some (L0, xs)) d zc_law [(563, .if_icmp .eq 625, 566, [1188], none), (566, .iconst 0, 567, [], none), (567, .ireturn, 568, [1], none)] (560, .invokevirtual 67, 563, [228, 2, 1, 12, 1011, 1012, 1013, 662], some [0, 1, 2, 3]) (by decide +kernel) _ _ _).trans rfl
set_option maxRecDepth 20000 in
set_option maxHeartbeats 4000000 in
theorem B_law_568 (d : Nat) (S : mS) (I : mI) (L : mJ) (L0 : Nat) (xs : Nat → Int32) (l0 : Nat) (l1 : Nat) (l2 : Nat) (l3 : Int32) :
  evk zcod (some (L0, xs)) d zc_law 568 [(0, .ref l0), (1, .ref l1), (2, .ref l2), (3, .int l3)] [] (S, I, L) =
  if l0 = 1 ∧ zin (l3 + (nI 1)) L0 then
 (if kK S l1 = 11 then
 (bI (evM zcod d 125 [.ref l1, .int (xs (zix (l3 + (nI 1))))] (S, I, L)) fun x1 M1 =>
 if M1.1.1 = S.1 then
 (if l0 = 1 ∧ zin (l3 + (nI 1)) L0 then
 (if kK M1.1 l2 = 12 then
 (bI (evM zcod d 229 [.ref l2, .int (xs (zix (l3 + (nI 1))))] M1) fun x2 M2 =>
 if M2.1.1 = M1.1.1 then
 (if x1 = x2 then
 evk zcod (some (L0, xs)) d zc_law 1188 [(0, .ref l0), (1, .ref l1), (2, .ref l2), (3, .int l3)] [] M2
 else
 some (some (.int (nI 0)), M2)) else none) else none) else none) else none) else none) else none :=
  (blk_ok zcod (some (L0, xs)) d zc_law [(569, .aload_n 0, 570, [], none), (570, .iload_n 3, 571, [], none), (571, .iconst 1, 572, [], none), (572, .iadd, 573, [], none), (573, .iaload, 574, [40], none), (574, .invokevirtual 68, 577, [125, 1, 1, 11, 1014, 1015, 1016, 222], none), (577, .aload_n 2, 578, [], none), (578, .aload_n 0, 579, [], none), (579, .iload_n 3, 580, [], none), (580, .iconst 1, 581, [], none), (581, .iadd, 582, [], none), (582, .iaload, 583, [40], none), (583, .invokevirtual 71, 586, [229, 1, 1, 12, 1017, 1018, 1019, 662], none), (586, .if_icmp .eq 602, 589, [1188], none), (589, .iconst 0, 590, [], none), (590, .ireturn, 591, [1], none)] (568, .aload_n 1, 569, [], some [0, 1, 2, 3]) (by decide +kernel) _ _ _).trans rfl
set_option maxRecDepth 20000 in
set_option maxHeartbeats 4000000 in
theorem B_law_591 (d : Nat) (S : mS) (I : mI) (L : mJ) (L0 : Nat) (xs : Nat → Int32) (l0 : Nat) (l1 : Nat) (l2 : Nat) (l3 : Int32) :
  evk zcod (some (L0, xs)) d zc_law 591 [(0, .ref l0), (1, .ref l1), (2, .ref l2), (3, .int l3)] [] (S, I, L) =
  if kK S l1 = 11 then
 (bI (evM zcod d 126 [.ref l1] (S, I, L)) fun x1 M1 =>
 if M1.1.1 = S.1 then
 (if kK M1.1 l2 = 12 then
 (bI (evM zcod d 230 [.ref l2] M1) fun x2 M2 =>
 if M2.1.1 = M1.1.1 then
 (if x1 = x2 then
 evk zcod (some (L0, xs)) d zc_law 1188 [(0, .ref l0), (1, .ref l1), (2, .ref l2), (3, .int l3)] [] M2
 else
 some (some (.int (nI 0)), M2)) else none) else none) else none) else none :=
  (blk_ok zcod (some (L0, xs)) d zc_law [(592, .invokevirtual 72, 595, [126, 0, 1, 11, 1020, 1021, 1022, 222], none), (595, .aload_n 2, 596, [], none), (596, .invokevirtual 76, 599, [230, 0, 1, 12, 1023, 1024, 1025, 662], none), (599, .if_icmp .eq 589, 602, [1188], none), (602, .iconst 0, 603, [], none), (603, .ireturn, 604, [1], none)] (591, .aload_n 1, 592, [], some [0, 1, 2, 3]) (by decide +kernel) _ _ _).trans rfl
set_option maxRecDepth 20000 in
set_option maxHeartbeats 4000000 in
theorem B_law_604 (d : Nat) (S : mS) (I : mI) (L : mJ) (L0 : Nat) (xs : Nat → Int32) (l0 : Nat) (l1 : Nat) (l2 : Nat) (l3 : Int32) :
  evk zcod (some (L0, xs)) d zc_law 604 [(0, .ref l0), (1, .ref l1), (2, .ref l2), (3, .int l3)] [] (S, I, L) =
  if l0 = 1 ∧ zin (l3 + (nI 1)) L0 then
 (if l0 = 1 ∧ zin (l3 + (nI 2)) L0 then
 (if l0 = 1 ∧ zin (l3 + (nI 3)) L0 then
 (if l0 = 1 ∧ zin (l3 + (nI 4)) L0 then
 (if kK S l1 = 11 then
 (bI (evM zcod d 127 [.ref l1, .int (xs (zix (l3 + (nI 1)))), .int (xs (zix (l3 + (nI 2)))), .int (xs (zix (l3 + (nI 3)))), .int (xs (zix (l3 + (nI 4))))] (S, I, L)) fun x1 M1 =>
 if M1.1.1 = S.1 then
 (if l0 = 1 ∧ zin (l3 + (nI 1)) L0 then
 (if l0 = 1 ∧ zin (l3 + (nI 2)) L0 then
 (if l0 = 1 ∧ zin (l3 + (nI 3)) L0 then
 (if l0 = 1 ∧ zin (l3 + (nI 4)) L0 then
 (if kK M1.1 l2 = 12 then
 (bI (evM zcod d 235 [.ref l2, .int (xs (zix (l3 + (nI 1)))), .int (xs (zix (l3 + (nI 2)))), .int (xs (zix (l3 + (nI 3)))), .int (xs (zix (l3 + (nI 4))))] M1) fun x2 M2 =>
 if M2.1.1 = M1.1.1 then
 (if x1 = x2 then
 evk zcod (some (L0, xs)) d zc_law 1188 [(0, .ref l0), (1, .ref l1), (2, .ref l2), (3, .int l3)] [] M2
 else
 some (some (.int (nI 0)), M2)) else none) else none) else none) else none) else none) else none) else none) else none) else none) else none) else none) else none :=
  (blk_ok zcod (some (L0, xs)) d zc_law [(605, .aload_n 0, 606, [], none), (606, .iload_n 3, 607, [], none), (607, .iconst 1, 608, [], none), (608, .iadd, 609, [], none), (609, .iaload, 610, [40], none), (610, .aload_n 0, 611, [], none), (611, .iload_n 3, 612, [], none), (612, .iconst 2, 613, [], none), (613, .iadd, 614, [], none), (614, .iaload, 615, [40], none), (615, .aload_n 0, 616, [], none), (616, .iload_n 3, 617, [], none), (617, .iconst 3, 618, [], none), (618, .iadd, 619, [], none), (619, .iaload, 620, [40], none), (620, .aload_n 0, 621, [], none), (621, .iload_n 3, 622, [], none), (622, .iconst 4, 623, [], none), (623, .iadd, 624, [], none), (624, .iaload, 625, [40], none), (625, .invokevirtual 77, 628, [127, 4, 1, 11, 1026, 1027, 1028, 222], none), (628, .aload_n 2, 629, [], none), (629, .aload_n 0, 630, [], none), (630, .iload_n 3, 631, [], none), (631, .iconst 1, 632, [], none), (632, .iadd, 633, [], none), (633, .iaload, 634, [40], none), (634, .aload_n 0, 635, [], none), (635, .iload_n 3, 636, [], none), (636, .iconst 2, 637, [], none), (637, .iadd, 638, [], none), (638, .iaload, 639, [40], none), (639, .aload_n 0, 640, [], none), (640, .iload_n 3, 641, [], none), (641, .iconst 3, 642, [], none), (642, .iadd, 643, [], none), (643, .iaload, 644, [40], none), (644, .aload_n 0, 645, [], none), (645, .iload_n 3, 646, [], none), (646, .iconst 4, 647, [], none), (647, .iadd, 648, [], none), (648, .iaload, 649, [40], none), (649, .invokevirtual 81, 652, [235, 4, 1, 12, 1029, 1030, 1031, 662], none), (652, .if_icmp .eq 536, 655, [1188], none), (655, .iconst 0, 656, [], none), (656, .ireturn, 657, [1], none)] (604, .aload_n 1, 605, [], some [0, 1, 2, 3]) (by decide +kernel) _ _ _).trans rfl
set_option maxRecDepth 20000 in
set_option maxHeartbeats 4000000 in
theorem B_law_657 (d : Nat) (S : mS) (I : mI) (L : mJ) (L0 : Nat) (xs : Nat → Int32) (l0 : Nat) (l1 : Nat) (l2 : Nat) (l3 : Int32) :
  evk zcod (some (L0, xs)) d zc_law 657 [(0, .ref l0), (1, .ref l1), (2, .ref l2), (3, .int l3)] [] (S, I, L) =
  if l0 = 1 ∧ zin (l3 + (nI 1)) L0 then
 (if l0 = 1 ∧ zin (l3 + (nI 2)) L0 then
 (if l0 = 1 ∧ zin (l3 + (nI 3)) L0 then
 (if kK S l1 = 11 then
 (bI (evM zcod d 128 [.ref l1, .int (xs (zix (l3 + (nI 1)))), .int (xs (zix (l3 + (nI 2)))), .int (xs (zix (l3 + (nI 3))))] (S, I, L)) fun x1 M1 =>
 if M1.1.1 = S.1 then
 (if l0 = 1 ∧ zin (l3 + (nI 1)) L0 then
 (if l0 = 1 ∧ zin (l3 + (nI 2)) L0 then
 (if l0 = 1 ∧ zin (l3 + (nI 3)) L0 then
 (if kK M1.1 l2 = 12 then
 (bI (evM zcod d 236 [.ref l2, .int (xs (zix (l3 + (nI 1)))), .int (xs (zix (l3 + (nI 2)))), .int (xs (zix (l3 + (nI 3))))] M1) fun x2 M2 =>
 if M2.1.1 = M1.1.1 then
 (if x1 = x2 then
 evk zcod (some (L0, xs)) d zc_law 1188 [(0, .ref l0), (1, .ref l1), (2, .ref l2), (3, .int l3)] [] M2
 else
 some (some (.int (nI 0)), M2)) else none) else none) else none) else none) else none) else none) else none) else none) else none) else none :=
  (blk_ok zcod (some (L0, xs)) d zc_law [(658, .aload_n 0, 659, [], none), (659, .iload_n 3, 660, [], none), (660, .iconst 1, 661, [], none), (661, .iadd, 662, [], none), (662, .iaload, 663, [40], none), (663, .aload_n 0, 664, [], none), (664, .iload_n 3, 665, [], none), (665, .iconst 2, 666, [], none), (666, .iadd, 667, [], none), (667, .iaload, 668, [40], none), (668, .aload_n 0, 669, [], none), (669, .iload_n 3, 670, [], none), (670, .iconst 3, 671, [], none), (671, .iadd, 672, [], none), (672, .iaload, 673, [40], none), (673, .invokevirtual 82, 676, [128, 3, 1, 11, 1032, 1033, 1034, 222], none), (676, .aload_n 2, 677, [], none), (677, .aload_n 0, 678, [], none), (678, .iload_n 3, 679, [], none), (679, .iconst 1, 680, [], none), (680, .iadd, 681, [], none), (681, .iaload, 682, [40], none), (682, .aload_n 0, 683, [], none), (683, .iload_n 3, 684, [], none), (684, .iconst 2, 685, [], none), (685, .iadd, 686, [], none), (686, .iaload, 687, [40], none), (687, .aload_n 0, 688, [], none), (688, .iload_n 3, 689, [], none), (689, .iconst 3, 690, [], none), (690, .iadd, 691, [], none), (691, .iaload, 692, [40], none), (692, .invokevirtual 85, 695, [236, 3, 1, 12, 1035, 1036, 1037, 662], none), (695, .if_icmp .eq 493, 698, [1188], none), (698, .iconst 0, 699, [], none), (699, .ireturn, 700, [1], none)] (657, .aload_n 1, 658, [], some [0, 1, 2, 3]) (by decide +kernel) _ _ _).trans rfl
set_option maxRecDepth 20000 in
set_option maxHeartbeats 4000000 in
theorem B_law_700 (d : Nat) (S : mS) (I : mI) (L : mJ) (L0 : Nat) (xs : Nat → Int32) (l0 : Nat) (l1 : Nat) (l2 : Nat) (l3 : Int32) :
  evk zcod (some (L0, xs)) d zc_law 700 [(0, .ref l0), (1, .ref l1), (2, .ref l2), (3, .int l3)] [] (S, I, L) =
  if l0 = 1 ∧ zin (l3 + (nI 1)) L0 then
 (if l0 = 1 ∧ zin (l3 + (nI 2)) L0 then
 (if l0 = 1 ∧ zin (l3 + (nI 3)) L0 then
 (if kK S l1 = 11 then
 (bI (evM zcod d 129 [.ref l1, .int (xs (zix (l3 + (nI 1)))), .int (xs (zix (l3 + (nI 2)))), .int (xs (zix (l3 + (nI 3))))] (S, I, L)) fun x1 M1 =>
 if M1.1.1 = S.1 then
 (if l0 = 1 ∧ zin (l3 + (nI 1)) L0 then
 (if l0 = 1 ∧ zin (l3 + (nI 2)) L0 then
 (if l0 = 1 ∧ zin (l3 + (nI 3)) L0 then
 (if kK M1.1 l2 = 12 then
 (bI (evM zcod d 237 [.ref l2, .int (xs (zix (l3 + (nI 1)))), .int (xs (zix (l3 + (nI 2)))), .int (xs (zix (l3 + (nI 3))))] M1) fun x2 M2 =>
 if M2.1.1 = M1.1.1 then
 (if x1 = x2 then
 evk zcod (some (L0, xs)) d zc_law 1188 [(0, .ref l0), (1, .ref l1), (2, .ref l2), (3, .int l3)] [] M2
 else
 some (some (.int (nI 0)), M2)) else none) else none) else none) else none) else none) else none) else none) else none) else none) else none :=
  (blk_ok zcod (some (L0, xs)) d zc_law [(701, .aload_n 0, 702, [], none), (702, .iload_n 3, 703, [], none), (703, .iconst 1, 704, [], none), (704, .iadd, 705, [], none), (705, .iaload, 706, [40], none), (706, .aload_n 0, 707, [], none), (707, .iload_n 3, 708, [], none), (708, .iconst 2, 709, [], none), (709, .iadd, 710, [], none), (710, .iaload, 711, [40], none), (711, .aload_n 0, 712, [], none), (712, .iload_n 3, 713, [], none), (713, .iconst 3, 714, [], none), (714, .iadd, 715, [], none), (715, .iaload, 716, [40], none), (716, .invokevirtual 86, 719, [129, 3, 1, 11, 1038, 1039, 1040, 222], none), (719, .aload_n 2, 720, [], none), (720, .aload_n 0, 721, [], none), (721, .iload_n 3, 722, [], none), (722, .iconst 1, 723, [], none), (723, .iadd, 724, [], none), (724, .iaload, 725, [40], none), (725, .aload_n 0, 726, [], none), (726, .iload_n 3, 727, [], none), (727, .iconst 2, 728, [], none), (728, .iadd, 729, [], none), (729, .iaload, 730, [40], none), (730, .aload_n 0, 731, [], none), (731, .iload_n 3, 732, [], none), (732, .iconst 3, 733, [], none), (733, .iadd, 734, [], none), (734, .iaload, 735, [40], none), (735, .invokevirtual 89, 738, [237, 3, 1, 12, 1041, 1042, 1043, 662], none), (738, .if_icmp .eq 450, 741, [1188], none), (741, .iconst 0, 742, [], none), (742, .ireturn, 743, [1], none)] (700, .aload_n 1, 701, [], some [0, 1, 2, 3]) (by decide +kernel) _ _ _).trans rfl
set_option maxRecDepth 20000 in
set_option maxHeartbeats 4000000 in
theorem B_law_743 (d : Nat) (S : mS) (I : mI) (L : mJ) (L0 : Nat) (xs : Nat → Int32) (l0 : Nat) (l1 : Nat) (l2 : Nat) (l3 : Int32) :
  evk zcod (some (L0, xs)) d zc_law 743 [(0, .ref l0), (1, .ref l1), (2, .ref l2), (3, .int l3)] [] (S, I, L) =
  if l0 = 1 ∧ zin (l3 + (nI 1)) L0 then
 (if kK S l1 = 11 then
 (bI (evM zcod d 130 [.ref l1, .int (xs (zix (l3 + (nI 1))))] (S, I, L)) fun x1 M1 =>
 if M1.1.1 = S.1 then
 (if l0 = 1 ∧ zin (l3 + (nI 1)) L0 then
 (if kK M1.1 l2 = 12 then
 (bI (evM zcod d 238 [.ref l2, .int (xs (zix (l3 + (nI 1))))] M1) fun x2 M2 =>
 if M2.1.1 = M1.1.1 then
 (if x1 = x2 then
 evk zcod (some (L0, xs)) d zc_law 1188 [(0, .ref l0), (1, .ref l1), (2, .ref l2), (3, .int l3)] [] M2
 else
 some (some (.int (nI 0)), M2)) else none) else none) else none) else none) else none) else none :=
  (blk_ok zcod (some (L0, xs)) d zc_law [(744, .aload_n 0, 745, [], none), (745, .iload_n 3, 746, [], none), (746, .iconst 1, 747, [], none), (747, .iadd, 748, [], none), (748, .iaload, 749, [40], none), (749, .invokevirtual 90, 752, [130, 1, 1, 11, 1044, 1045, 1046, 222], none), (752, .aload_n 2, 753, [], none), (753, .aload_n 0, 754, [], none), (754, .iload_n 3, 755, [], none), (755, .iconst 1, 756, [], none), (756, .iadd, 757, [], none), (757, .iaload, 758, [40], none), (758, .invokevirtual 93, 761, [238, 1, 1, 12, 1047, 1048, 1049, 662], none), (761, .if_icmp .eq 427, 764, [1188], none), (764, .iconst 0, 765, [], none), (765, .ireturn, 766, [1], none)] (743, .aload_n 1, 744, [], some [0, 1, 2, 3]) (by decide +kernel) _ _ _).trans rfl
set_option maxRecDepth 20000 in
set_option maxHeartbeats 4000000 in
theorem B_law_766 (d : Nat) (S : mS) (I : mI) (L : mJ) (L0 : Nat) (xs : Nat → Int32) (l0 : Nat) (l1 : Nat) (l2 : Nat) (l3 : Int32) :
  evk zcod (some (L0, xs)) d zc_law 766 [(0, .ref l0), (1, .ref l1), (2, .ref l2), (3, .int l3)] [] (S, I, L) =
  if l0 = 1 ∧ zin (l3 + (nI 1)) L0 then
 (if l0 = 1 ∧ zin (l3 + (nI 2)) L0 then
 (if kK S l1 = 11 then
 (bI (evM zcod d 131 [.ref l1, .int (xs (zix (l3 + (nI 1)))), .int (xs (zix (l3 + (nI 2))))] (S, I, L)) fun x1 M1 =>
 if M1.1.1 = S.1 then
 (if l0 = 1 ∧ zin (l3 + (nI 1)) L0 then
 (if l0 = 1 ∧ zin (l3 + (nI 2)) L0 then
 (if kK M1.1 l2 = 12 then
 (bI (evM zcod d 239 [.ref l2, .int (xs (zix (l3 + (nI 1)))), .int (xs (zix (l3 + (nI 2))))] M1) fun x2 M2 =>
 if M2.1.1 = M1.1.1 then
 (if x1 = x2 then
 evk zcod (some (L0, xs)) d zc_law 1188 [(0, .ref l0), (1, .ref l1), (2, .ref l2), (3, .int l3)] [] M2
 else
 some (some (.int (nI 0)), M2)) else none) else none) else none) else none) else none) else none) else none) else none :=
  (blk_ok zcod (some (L0, xs)) d zc_law [(767, .aload_n 0, 768, [], none), (768, .iload_n 3, 769, [], none), (769, .iconst 1, 770, [], none), (770, .iadd, 771, [], none), (771, .iaload, 772, [40], none), (772, .aload_n 0, 773, [], none), (773, .iload_n 3, 774, [], none), (774, .iconst 2, 775, [], none), (775, .iadd, 776, [], none), (776, .iaload, 777, [40], none), (777, .invokevirtual 94, 780, [131, 2, 1, 11, 1050, 1051, 1052, 222], none), (780, .aload_n 2, 781, [], none), (781, .aload_n 0, 782, [], none), (782, .iload_n 3, 783, [], none), (783, .iconst 1, 784, [], none), (784, .iadd, 785, [], none), (785, .iaload, 786, [40], none), (786, .aload_n 0, 787, [], none), (787, .iload_n 3, 788, [], none), (788, .iconst 2, 789, [], none), (789, .iadd, 790, [], none), (790, .iaload, 791, [40], none), (791, .invokevirtual 97, 794, [239, 2, 1, 12, 1053, 1054, 1055, 662], none), (794, .if_icmp .eq 394, 797, [1188], none), (797, .iconst 0, 798, [], none), (798, .ireturn, 799, [1], none)] (766, .aload_n 1, 767, [], some [0, 1, 2, 3]) (by decide +kernel) _ _ _).trans rfl
set_option maxRecDepth 20000 in
set_option maxHeartbeats 4000000 in
theorem B_law_799 (d : Nat) (S : mS) (I : mI) (L : mJ) (L0 : Nat) (xs : Nat → Int32) (l0 : Nat) (l1 : Nat) (l2 : Nat) (l3 : Int32) :
  evk zcod (some (L0, xs)) d zc_law 799 [(0, .ref l0), (1, .ref l1), (2, .ref l2), (3, .int l3)] [] (S, I, L) =
  if l0 = 1 ∧ zin (l3 + (nI 1)) L0 then
 (if kK S l1 = 11 then
 (bI (evM zcod d 132 [.ref l1, .int (xs (zix (l3 + (nI 1))))] (S, I, L)) fun x1 M1 =>
 if M1.1.1 = S.1 then
 (if l0 = 1 ∧ zin (l3 + (nI 1)) L0 then
 (if kK M1.1 l2 = 12 then
 (bI (evM zcod d 244 [.ref l2, .int (xs (zix (l3 + (nI 1))))] M1) fun x2 M2 =>
 if M2.1.1 = M1.1.1 then
 (if x1 = x2 then
 evk zcod (some (L0, xs)) d zc_law 1188 [(0, .ref l0), (1, .ref l1), (2, .ref l2), (3, .int l3)] [] M2
 else
 some (some (.int (nI 0)), M2)) else none) else none) else none) else none) else none) else none :=
  (blk_ok zcod (some (L0, xs)) d zc_law [(800, .aload_n 0, 801, [], none), (801, .iload_n 3, 802, [], none), (802, .iconst 1, 803, [], none), (803, .iadd, 804, [], none), (804, .iaload, 805, [40], none), (805, .invokevirtual 98, 808, [132, 1, 1, 11, 1056, 1057, 1058, 222], none), (808, .aload_n 2, 809, [], none), (809, .aload_n 0, 810, [], none), (810, .iload_n 3, 811, [], none), (811, .iconst 1, 812, [], none), (812, .iadd, 813, [], none), (813, .iaload, 814, [40], none), (814, .invokevirtual 101, 817, [244, 1, 1, 12, 1059, 1060, 1061, 662], none), (817, .if_icmp .eq 371, 820, [1188], none), (820, .iconst 0, 821, [], none), (821, .ireturn, 822, [1], none)] (799, .aload_n 1, 800, [], some [0, 1, 2, 3]) (by decide +kernel) _ _ _).trans rfl
set_option maxRecDepth 20000 in
set_option maxHeartbeats 4000000 in
theorem B_law_822 (d : Nat) (S : mS) (I : mI) (L : mJ) (L0 : Nat) (xs : Nat → Int32) (l0 : Nat) (l1 : Nat) (l2 : Nat) (l3 : Int32) :
  evk zcod (some (L0, xs)) d zc_law 822 [(0, .ref l0), (1, .ref l1), (2, .ref l2), (3, .int l3)] [] (S, I, L) =
  if kK S l1 = 11 then
 (bI (evM zcod d 133 [.ref l1] (S, I, L)) fun x1 M1 =>
 if M1.1.1 = S.1 then
 (if kK M1.1 l2 = 12 then
 (bI (evM zcod d 246 [.ref l2] M1) fun x2 M2 =>
 if M2.1.1 = M1.1.1 then
 (if x1 = x2 then
 evk zcod (some (L0, xs)) d zc_law 1188 [(0, .ref l0), (1, .ref l1), (2, .ref l2), (3, .int l3)] [] M2
 else
 some (some (.int (nI 0)), M2)) else none) else none) else none) else none :=
  (blk_ok zcod (some (L0, xs)) d zc_law [(823, .invokevirtual 102, 826, [133, 0, 1, 11, 1062, 1063, 1064, 222], none), (826, .aload_n 2, 827, [], none), (827, .invokevirtual 105, 830, [246, 0, 1, 12, 1065, 1066, 1067, 662], none), (830, .if_icmp .eq 358, 833, [1188], none), (833, .iconst 0, 834, [], none), (834, .ireturn, 835, [1], none)] (822, .aload_n 1, 823, [], some [0, 1, 2, 3]) (by decide +kernel) _ _ _).trans rfl
set_option maxRecDepth 20000 in
set_option maxHeartbeats 4000000 in
theorem B_law_835 (d : Nat) (S : mS) (I : mI) (L : mJ) (L0 : Nat) (xs : Nat → Int32) (l0 : Nat) (l1 : Nat) (l2 : Nat) (l3 : Int32) :
  evk zcod (some (L0, xs)) d zc_law 835 [(0, .ref l0), (1, .ref l1), (2, .ref l2), (3, .int l3)] [] (S, I, L) =
  if l0 = 1 ∧ zin (l3 + (nI 1)) L0 then
 (if l0 = 1 ∧ zin (l3 + (nI 2)) L0 then
 (if l0 = 1 ∧ zin (l3 + (nI 3)) L0 then
 (if kK S l1 = 11 then
 (bI (evM zcod d 134 [.ref l1, .int (xs (zix (l3 + (nI 1)))), .int (xs (zix (l3 + (nI 2)))), .int (xs (zix (l3 + (nI 3))))] (S, I, L)) fun x1 M1 =>
 if M1.1.1 = S.1 then
 (if l0 = 1 ∧ zin (l3 + (nI 1)) L0 then
 (if l0 = 1 ∧ zin (l3 + (nI 2)) L0 then
 (if l0 = 1 ∧ zin (l3 + (nI 3)) L0 then
 (if kK M1.1 l2 = 12 then
 (bI (evM zcod d 247 [.ref l2, .int (xs (zix (l3 + (nI 1)))), .int (xs (zix (l3 + (nI 2)))), .int (xs (zix (l3 + (nI 3))))] M1) fun x2 M2 =>
 if M2.1.1 = M1.1.1 then
 (if x1 = x2 then
 evk zcod (some (L0, xs)) d zc_law 1188 [(0, .ref l0), (1, .ref l1), (2, .ref l2), (3, .int l3)] [] M2
 else
 some (some (.int (nI 0)), M2)) else none) else none) else none) else none) else none) else none) else none) else none) else none) else none :=
  (blk_ok zcod (some (L0, xs)) d zc_law [(836, .aload_n 0, 837, [], none), (837, .iload_n 3, 838, [], none), (838, .iconst 1, 839, [], none), (839, .iadd, 840, [], none), (840, .iaload, 841, [40], none), (841, .aload_n 0, 842, [], none), (842, .iload_n 3, 843, [], none), (843, .iconst 2, 844, [], none), (844, .iadd, 845, [], none), (845, .iaload, 846, [40], none), (846, .aload_n 0, 847, [], none), (847, .iload_n 3, 848, [], none), (848, .iconst 3, 849, [], none), (849, .iadd, 850, [], none), (850, .iaload, 851, [40], none), (851, .invokevirtual 106, 854, [134, 3, 1, 11, 1068, 1069, 1070, 222], none), (854, .aload_n 2, 855, [], none), (855, .aload_n 0, 856, [], none), (856, .iload_n 3, 857, [], none), (857, .iconst 1, 858, [], none), (858, .iadd, 859, [], none), (859, .iaload, 860, [40], none), (860, .aload_n 0, 861, [], none), (861, .iload_n 3, 862, [], none), (862, .iconst 2, 863, [], none), (863, .iadd, 864, [], none), (864, .iaload, 865, [40], none), (865, .aload_n 0, 866, [], none), (866, .iload_n 3, 867, [], none), (867, .iconst 3, 868, [], none), (868, .iadd, 869, [], none), (869, .iaload, 870, [40], none), (870, .invokevirtual 109, 873, [247, 3, 1, 12, 1071, 1072, 1073, 662], none), (873, .if_icmp .eq 315, 876, [1188], none), (876, .iconst 0, 877, [], none), (877, .ireturn, 878, [1], none)] (835, .aload_n 1, 836, [], some [0, 1, 2, 3]) (by decide +kernel) _ _ _).trans rfl
set_option maxRecDepth 20000 in
set_option maxHeartbeats 4000000 in
theorem B_law_878 (d : Nat) (S : mS) (I : mI) (L : mJ) (L0 : Nat) (xs : Nat → Int32) (l0 : Nat) (l1 : Nat) (l2 : Nat) (l3 : Int32) :
  evk zcod (some (L0, xs)) d zc_law 878 [(0, .ref l0), (1, .ref l1), (2, .ref l2), (3, .int l3)] [] (S, I, L) =
  if l0 = 1 ∧ zin (l3 + (nI 1)) L0 then
 (if l0 = 1 ∧ zin (l3 + (nI 2)) L0 then
 (if l0 = 1 ∧ zin (l3 + (nI 3)) L0 then
 (if kK S l1 = 11 then
 (bI (evM zcod d 135 [.ref l1, .int (xs (zix (l3 + (nI 1)))), .int (xs (zix (l3 + (nI 2)))), .int (xs (zix (l3 + (nI 3))))] (S, I, L)) fun x1 M1 =>
 if M1.1.1 = S.1 then
 (if l0 = 1 ∧ zin (l3 + (nI 1)) L0 then
 (if l0 = 1 ∧ zin (l3 + (nI 2)) L0 then
 (if l0 = 1 ∧ zin (l3 + (nI 3)) L0 then
 (if kK M1.1 l2 = 12 then
 (bI (evM zcod d 249 [.ref l2, .int (xs (zix (l3 + (nI 1)))), .int (xs (zix (l3 + (nI 2)))), .int (xs (zix (l3 + (nI 3))))] M1) fun x2 M2 =>
 if M2.1.1 = M1.1.1 then
 (if x1 = x2 then
 evk zcod (some (L0, xs)) d zc_law 1188 [(0, .ref l0), (1, .ref l1), (2, .ref l2), (3, .int l3)] [] M2
 else
 some (some (.int (nI 0)), M2)) else none) else none) else none) else none) else none) else none) else none) else none) else none) else none :=
  (blk_ok zcod (some (L0, xs)) d zc_law [(879, .aload_n 0, 880, [], none), (880, .iload_n 3, 881, [], none), (881, .iconst 1, 882, [], none), (882, .iadd, 883, [], none), (883, .iaload, 884, [40], none), (884, .aload_n 0, 885, [], none), (885, .iload_n 3, 886, [], none), (886, .iconst 2, 887, [], none), (887, .iadd, 888, [], none), (888, .iaload, 889, [40], none), (889, .aload_n 0, 890, [], none), (890, .iload_n 3, 891, [], none), (891, .iconst 3, 892, [], none), (892, .iadd, 893, [], none), (893, .iaload, 894, [40], none), (894, .invokevirtual 110, 897, [135, 3, 1, 11, 1074, 1075, 1076, 222], none), (897, .aload_n 2, 898, [], none), (898, .aload_n 0, 899, [], none), (899, .iload_n 3, 900, [], none), (900, .iconst 1, 901, [], none), (901, .iadd, 902, [], none), (902, .iaload, 903, [40], none), (903, .aload_n 0, 904, [], none), (904, .iload_n 3, 905, [], none), (905, .iconst 2, 906, [], none), (906, .iadd, 907, [], none), (907, .iaload, 908, [40], none), (908, .aload_n 0, 909, [], none), (909, .iload_n 3, 910, [], none), (910, .iconst 3, 911, [], none), (911, .iadd, 912, [], none), (912, .iaload, 913, [40], none), (913, .invokevirtual 113, 916, [249, 3, 1, 12, 1077, 1078, 1079, 662], none), (916, .if_icmp .eq 272, 919, [1188], none), (919, .iconst 0, 920, [], none), (920, .ireturn, 921, [1], none)] (878, .aload_n 1, 879, [], some [0, 1, 2, 3]) (by decide +kernel) _ _ _).trans rfl
set_option maxRecDepth 20000 in
set_option maxHeartbeats 4000000 in
theorem B_law_921 (d : Nat) (S : mS) (I : mI) (L : mJ) (L0 : Nat) (xs : Nat → Int32) (l0 : Nat) (l1 : Nat) (l2 : Nat) (l3 : Int32) :
  evk zcod (some (L0, xs)) d zc_law 921 [(0, .ref l0), (1, .ref l1), (2, .ref l2), (3, .int l3)] [] (S, I, L) =
  if l0 = 1 ∧ zin (l3 + (nI 1)) L0 then
 (if kK S l1 = 11 then
 (bI (evM zcod d 136 [.ref l1, .int (xs (zix (l3 + (nI 1))))] (S, I, L)) fun x1 M1 =>
 if M1.1.1 = S.1 then
 (if l0 = 1 ∧ zin (l3 + (nI 1)) L0 then
 (if kK M1.1 l2 = 12 then
 (bI (evM zcod d 250 [.ref l2, .int (xs (zix (l3 + (nI 1))))] M1) fun x2 M2 =>
 if M2.1.1 = M1.1.1 then
 (if x1 = x2 then
 evk zcod (some (L0, xs)) d zc_law 1188 [(0, .ref l0), (1, .ref l1), (2, .ref l2), (3, .int l3)] [] M2
 else
 some (some (.int (nI 0)), M2)) else none) else none) else none) else none) else none) else none :=
  (blk_ok zcod (some (L0, xs)) d zc_law [(922, .aload_n 0, 923, [], none), (923, .iload_n 3, 924, [], none), (924, .iconst 1, 925, [], none), (925, .iadd, 926, [], none), (926, .iaload, 927, [40], none), (927, .invokevirtual 114, 930, [136, 1, 1, 11, 1080, 1081, 1082, 222], none), (930, .aload_n 2, 931, [], none), (931, .aload_n 0, 932, [], none), (932, .iload_n 3, 933, [], none), (933, .iconst 1, 934, [], none), (934, .iadd, 935, [], none), (935, .iaload, 936, [40], none), (936, .invokevirtual 117, 939, [250, 1, 1, 12, 1083, 1084, 1085, 662], none), (939, .if_icmp .eq 249, 942, [1188], none), (942, .iconst 0, 943, [], none), (943, .ireturn, 944, [1], none)] (921, .aload_n 1, 922, [], some [0, 1, 2, 3]) (by decide +kernel) _ _ _).trans rfl
set_option maxRecDepth 20000 in
set_option maxHeartbeats 4000000 in
theorem B_law_944 (d : Nat) (S : mS) (I : mI) (L : mJ) (L0 : Nat) (xs : Nat → Int32) (l0 : Nat) (l1 : Nat) (l2 : Nat) (l3 : Int32) :
  evk zcod (some (L0, xs)) d zc_law 944 [(0, .ref l0), (1, .ref l1), (2, .ref l2), (3, .int l3)] [] (S, I, L) =
  if l0 = 1 ∧ zin (l3 + (nI 1)) L0 then
 (if l0 = 1 ∧ zin (l3 + (nI 2)) L0 then
 (if l0 = 1 ∧ zin (l3 + (nI 3)) L0 then
 (if kK S l1 = 11 then
 (bI (evM zcod d 137 [.ref l1, .int (xs (zix (l3 + (nI 1)))), .int (xs (zix (l3 + (nI 2)))), .int (xs (zix (l3 + (nI 3))))] (S, I, L)) fun x1 M1 =>
 if M1.1.1 = S.1 then
 (if l0 = 1 ∧ zin (l3 + (nI 1)) L0 then
 (if l0 = 1 ∧ zin (l3 + (nI 2)) L0 then
 (if l0 = 1 ∧ zin (l3 + (nI 3)) L0 then
 (if kK M1.1 l2 = 12 then
 (bI (evM zcod d 251 [.ref l2, .int (xs (zix (l3 + (nI 1)))), .int (xs (zix (l3 + (nI 2)))), .int (xs (zix (l3 + (nI 3))))] M1) fun x2 M2 =>
 if M2.1.1 = M1.1.1 then
 (if x1 = x2 then
 evk zcod (some (L0, xs)) d zc_law 1188 [(0, .ref l0), (1, .ref l1), (2, .ref l2), (3, .int l3)] [] M2
 else
 some (some (.int (nI 0)), M2)) else none) else none) else none) else none) else none) else none) else none) else none) else none) else none :=
  (blk_ok zcod (some (L0, xs)) d zc_law [(945, .aload_n 0, 946, [], none), (946, .iload_n 3, 947, [], none), (947, .iconst 1, 948, [], none), (948, .iadd, 949, [], none), (949, .iaload, 950, [40], none), (950, .aload_n 0, 951, [], none), (951, .iload_n 3, 952, [], none), (952, .iconst 2, 953, [], none), (953, .iadd, 954, [], none), (954, .iaload, 955, [40], none), (955, .aload_n 0, 956, [], none), (956, .iload_n 3, 957, [], none), (957, .iconst 3, 958, [], none), (958, .iadd, 959, [], none), (959, .iaload, 960, [40], none), (960, .invokevirtual 118, 963, [137, 3, 1, 11, 1086, 1087, 1088, 222], none), (963, .aload_n 2, 964, [], none), (964, .aload_n 0, 965, [], none), (965, .iload_n 3, 966, [], none), (966, .iconst 1, 967, [], none), (967, .iadd, 968, [], none), (968, .iaload, 969, [40], none), (969, .aload_n 0, 970, [], none), (970, .iload_n 3, 971, [], none), (971, .iconst 2, 972, [], none), (972, .iadd, 973, [], none), (973, .iaload, 974, [40], none), (974, .aload_n 0, 975, [], none), (975, .iload_n 3, 976, [], none), (976, .iconst 3, 977, [], none), (977, .iadd, 978, [], none), (978, .iaload, 979, [40], none), (979, .invokevirtual 121, 982, [251, 3, 1, 12, 1089, 1090, 1091, 662], none), (982, .if_icmp .eq 206, 985, [1188], none), (985, .iconst 0, 986, [], none), (986, .ireturn, 987, [1], none)] (944, .aload_n 1, 945, [], some [0, 1, 2, 3]) (by decide +kernel) _ _ _).trans rfl
set_option maxRecDepth 20000 in
set_option maxHeartbeats 4000000 in
theorem B_law_987 (d : Nat) (S : mS) (I : mI) (L : mJ) (L0 : Nat) (xs : Nat → Int32) (l0 : Nat) (l1 : Nat) (l2 : Nat) (l3 : Int32) :
  evk zcod (some (L0, xs)) d zc_law 987 [(0, .ref l0), (1, .ref l1), (2, .ref l2), (3, .int l3)] [] (S, I, L) =
  if l0 = 1 ∧ zin (l3 + (nI 1)) L0 then
 (if l0 = 1 ∧ zin (l3 + (nI 2)) L0 then
 (if l0 = 1 ∧ zin (l3 + (nI 3)) L0 then
 (if l0 = 1 ∧ zin (l3 + (nI 4)) L0 then
 (if l0 = 1 ∧ zin (l3 + (nI 5)) L0 then
 (if kK S l1 = 11 then
 (bI (evM zcod d 138 [.ref l1, .int (xs (zix (l3 + (nI 1)))), .int (xs (zix (l3 + (nI 2)))), .int (xs (zix (l3 + (nI 3)))), .int (xs (zix (l3 + (nI 4)))), .int (xs (zix (l3 + (nI 5))))] (S, I, L)) fun x1 M1 =>
 if M1.1.1 = S.1 then
 (if l0 = 1 ∧ zin (l3 + (nI 1)) L0 then
 (if l0 = 1 ∧ zin (l3 + (nI 2)) L0 then
 (if l0 = 1 ∧ zin (l3 + (nI 3)) L0 then
 (if l0 = 1 ∧ zin (l3 + (nI 4)) L0 then
 (if l0 = 1 ∧ zin (l3 + (nI 5)) L0 then
 (if kK M1.1 l2 = 12 then
 (bI (evM zcod d 253 [.ref l2, .int (xs (zix (l3 + (nI 1)))), .int (xs (zix (l3 + (nI 2)))), .int (xs (zix (l3 + (nI 3)))), .int (xs (zix (l3 + (nI 4)))), .int (xs (zix (l3 + (nI 5))))] M1) fun x2 M2 =>
 if M2.1.1 = M1.1.1 then
 (if x1 = x2 then
 evk zcod (some (L0, xs)) d zc_law 1188 [(0, .ref l0), (1, .ref l1), (2, .ref l2), (3, .int l3)] [] M2
 else
 some (some (.int (nI 0)), M2)) else none) else none) else none) else none) else none) else none) else none) else none) else none) else none) else none) else none) else none) else none :=
  (blk_ok zcod (some (L0, xs)) d zc_law [(988, .aload_n 0, 989, [], none), (989, .iload_n 3, 990, [], none), (990, .iconst 1, 991, [], none), (991, .iadd, 992, [], none), (992, .iaload, 993, [40], none), (993, .aload_n 0, 994, [], none), (994, .iload_n 3, 995, [], none), (995, .iconst 2, 996, [], none), (996, .iadd, 997, [], none), (997, .iaload, 998, [40], none), (998, .aload_n 0, 999, [], none), (999, .iload_n 3, 1000, [], none), (1000, .iconst 3, 1001, [], none), (1001, .iadd, 1002, [], none), (1002, .iaload, 1003, [40], none), (1003, .aload_n 0, 1004, [], none), (1004, .iload_n 3, 1005, [], none), (1005, .iconst 4, 1006, [], none), (1006, .iadd, 1007, [], none), (1007, .iaload, 1008, [40], none), (1008, .aload_n 0, 1009, [], none), (1009, .iload_n 3, 1010, [], none), (1010, .iconst 5, 1011, [], none), (1011, .iadd, 1012, [], none), (1012, .iaload, 1013, [40], none), (1013, .invokevirtual 122, 1016, [138, 5, 1, 11, 1092, 1093, 1094, 222], none), (1016, .aload_n 2, 1017, [], none), (1017, .aload_n 0, 1018, [], none), (1018, .iload_n 3, 1019, [], none), (1019, .iconst 1, 1020, [], none), (1020, .iadd, 1021, [], none), (1021, .iaload, 1022, [40], none), (1022, .aload_n 0, 1023, [], none), (1023, .iload_n 3, 1024, [], none), (1024, .iconst 2, 1025, [], none), (1025, .iadd, 1026, [], none), (1026, .iaload, 1027, [40], none), (1027, .aload_n 0, 1028, [], none), (1028, .iload_n 3, 1029, [], none), (1029, .iconst 3, 1030, [], none), (1030, .iadd, 1031, [], none), (1031, .iaload, 1032, [40], none), (1032, .aload_n 0, 1033, [], none), (1033, .iload_n 3, 1034, [], none), (1034, .iconst 4, 1035, [], none), (1035, .iadd, 1036, [], none), (1036, .iaload, 1037, [40], none), (1037, .aload_n 0, 1038, [], none), (1038, .iload_n 3, 1039, [], none), (1039, .iconst 5, 1040, [], none), (1040, .iadd, 1041, [], none), (1041, .iaload, 1042, [40], none), (1042, .invokevirtual 125, 1045, [253, 5, 1, 12, 1095, 1096, 1097, 662], none), (1045, .if_icmp .eq 143, 1048, [1188], none), (1048, .iconst 0, 1049, [], none), (1049, .ireturn, 1050, [1], none)] (987, .aload_n 1, 988, [], some [0, 1, 2, 3]) (by decide +kernel) _ _ _).trans rfl
set_option maxRecDepth 20000 in
set_option maxHeartbeats 4000000 in
theorem B_law_1050 (d : Nat) (S : mS) (I : mI) (L : mJ) (L0 : Nat) (xs : Nat → Int32) (l0 : Nat) (l1 : Nat) (l2 : Nat) (l3 : Int32) :
  evk zcod (some (L0, xs)) d zc_law 1050 [(0, .ref l0), (1, .ref l1), (2, .ref l2), (3, .int l3)] [] (S, I, L) =
  if kK S l1 = 11 then
 (bI (evM zcod d 139 [.ref l1] (S, I, L)) fun x1 M1 =>
 if M1.1.1 = S.1 then
 (if kK M1.1 l2 = 12 then
 (bI (evM zcod d 254 [.ref l2] M1) fun x2 M2 =>
 if M2.1.1 = M1.1.1 then
 (if x1 = x2 then
 evk zcod (some (L0, xs)) d zc_law 1188 [(0, .ref l0), (1, .ref l1), (2, .ref l2), (3, .int l3)] [] M2
 else
 some (some (.int (nI 0)), M2)) else none) else none) else none) else none :=
  (blk_ok zcod (some (L0, xs)) d zc_law [(1051, .invokevirtual 126, 1054, [139, 0, 1, 11, 1098, 1099, 1100, 222], none), (1054, .aload_n 2, 1055, [], none), (1055, .invokevirtual 129, 1058, [254, 0, 1, 12, 1101, 1102, 1103, 662], none), (1058, .if_icmp .eq 130, 1061, [1188], none), (1061, .iconst 0, 1062, [], none), (1062, .ireturn, 1063, [1], none)] (1050, .aload_n 1, 1051, [], some [0, 1, 2, 3]) (by decide +kernel) _ _ _).trans rfl
set_option maxRecDepth 20000 in
set_option maxHeartbeats 4000000 in
theorem B_law_1063 (d : Nat) (S : mS) (I : mI) (L : mJ) (L0 : Nat) (xs : Nat → Int32) (l0 : Nat) (l1 : Nat) (l2 : Nat) (l3 : Int32) :
  evk zcod (some (L0, xs)) d zc_law 1063 [(0, .ref l0), (1, .ref l1), (2, .ref l2), (3, .int l3)] [] (S, I, L) =
  if l0 = 1 ∧ zin (l3 + (nI 1)) L0 then
 (if l0 = 1 ∧ zin (l3 + (nI 2)) L0 then
 (if kK S l1 = 11 then
 (bI (evM zcod d 140 [.ref l1, .int (xs (zix (l3 + (nI 1)))), .int (xs (zix (l3 + (nI 2))))] (S, I, L)) fun x1 M1 =>
 if M1.1.1 = S.1 then
 (if l0 = 1 ∧ zin (l3 + (nI 1)) L0 then
 (if l0 = 1 ∧ zin (l3 + (nI 2)) L0 then
 (if kK M1.1 l2 = 12 then
 (bI (evM zcod d 257 [.ref l2, .int (xs (zix (l3 + (nI 1)))), .int (xs (zix (l3 + (nI 2))))] M1) fun x2 M2 =>
 if M2.1.1 = M1.1.1 then
 (if x1 = x2 then
 evk zcod (some (L0, xs)) d zc_law 1188 [(0, .ref l0), (1, .ref l1), (2, .ref l2), (3, .int l3)] [] M2
 else
 some (some (.int (nI 0)), M2)) else none) else none) else none) else none) else none) else none) else none) else none :=
  (blk_ok zcod (some (L0, xs)) d zc_law [(1064, .aload_n 0, 1065, [], none), (1065, .iload_n 3, 1066, [], none), (1066, .iconst 1, 1067, [], none), (1067, .iadd, 1068, [], none), (1068, .iaload, 1069, [40], none), (1069, .aload_n 0, 1070, [], none), (1070, .iload_n 3, 1071, [], none), (1071, .iconst 2, 1072, [], none), (1072, .iadd, 1073, [], none), (1073, .iaload, 1074, [40], none), (1074, .invokevirtual 130, 1077, [140, 2, 1, 11, 1104, 1105, 1106, 222], none), (1077, .aload_n 2, 1078, [], none), (1078, .aload_n 0, 1079, [], none), (1079, .iload_n 3, 1080, [], none), (1080, .iconst 1, 1081, [], none), (1081, .iadd, 1082, [], none), (1082, .iaload, 1083, [40], none), (1083, .aload_n 0, 1084, [], none), (1084, .iload_n 3, 1085, [], none), (1085, .iconst 2, 1086, [], none), (1086, .iadd, 1087, [], none), (1087, .iaload, 1088, [40], none), (1088, .invokevirtual 133, 1091, [257, 2, 1, 12, 1107, 1108, 1109, 662], none), (1091, .if_icmp .eq 97, 1094, [1188], none), (1094, .iconst 0, 1095, [], none), (1095, .ireturn, 1096, [1], none)] (1063, .aload_n 1, 1064, [], some [0, 1, 2, 3]) (by decide +kernel) _ _ _).trans rfl
set_option maxRecDepth 20000 in
set_option maxHeartbeats 4000000 in
theorem B_law_1096 (d : Nat) (S : mS) (I : mI) (L : mJ) (L0 : Nat) (xs : Nat → Int32) (l0 : Nat) (l1 : Nat) (l2 : Nat) (l3 : Int32) :
  evk zcod (some (L0, xs)) d zc_law 1096 [(0, .ref l0), (1, .ref l1), (2, .ref l2), (3, .int l3)] [] (S, I, L) =
  if l0 = 1 ∧ zin (l3 + (nI 1)) L0 then
 (if kK S l1 = 11 then
 (bI (evM zcod d 141 [.ref l1, .int (xs (zix (l3 + (nI 1))))] (S, I, L)) fun x1 M1 =>
 if M1.1.1 = S.1 then
 (if l0 = 1 ∧ zin (l3 + (nI 1)) L0 then
 (if kK M1.1 l2 = 12 then
 (bI (evM zcod d 258 [.ref l2, .int (xs (zix (l3 + (nI 1))))] M1) fun x2 M2 =>
 if M2.1.1 = M1.1.1 then
 (if x1 = x2 then
 evk zcod (some (L0, xs)) d zc_law 1188 [(0, .ref l0), (1, .ref l1), (2, .ref l2), (3, .int l3)] [] M2
 else
 some (some (.int (nI 0)), M2)) else none) else none) else none) else none) else none) else none :=
  (blk_ok zcod (some (L0, xs)) d zc_law [(1097, .aload_n 0, 1098, [], none), (1098, .iload_n 3, 1099, [], none), (1099, .iconst 1, 1100, [], none), (1100, .iadd, 1101, [], none), (1101, .iaload, 1102, [40], none), (1102, .invokevirtual 134, 1105, [141, 1, 1, 11, 1110, 1111, 1112, 222], none), (1105, .aload_n 2, 1106, [], none), (1106, .aload_n 0, 1107, [], none), (1107, .iload_n 3, 1108, [], none), (1108, .iconst 1, 1109, [], none), (1109, .iadd, 1110, [], none), (1110, .iaload, 1111, [40], none), (1111, .invokevirtual 137, 1114, [258, 1, 1, 12, 1113, 1114, 1115, 662], none), (1114, .if_icmp .eq 74, 1117, [1188], none), (1117, .iconst 0, 1118, [], none), (1118, .ireturn, 1119, [1], none)] (1096, .aload_n 1, 1097, [], some [0, 1, 2, 3]) (by decide +kernel) _ _ _).trans rfl
set_option maxRecDepth 20000 in
set_option maxHeartbeats 4000000 in
theorem B_law_1119 (d : Nat) (S : mS) (I : mI) (L : mJ) (L0 : Nat) (xs : Nat → Int32) (l0 : Nat) (l1 : Nat) (l2 : Nat) (l3 : Int32) :
  evk zcod (some (L0, xs)) d zc_law 1119 [(0, .ref l0), (1, .ref l1), (2, .ref l2), (3, .int l3)] [] (S, I, L) =
  if l0 = 1 ∧ zin (l3 + (nI 1)) L0 then
 (if kK S l1 = 11 then
 (bI (evM zcod d 142 [.ref l1, .int (xs (zix (l3 + (nI 1))))] (S, I, L)) fun x1 M1 =>
 if M1.1.1 = S.1 then
 (if l0 = 1 ∧ zin (l3 + (nI 1)) L0 then
 (if kK M1.1 l2 = 12 then
 (bI (evM zcod d 259 [.ref l2, .int (xs (zix (l3 + (nI 1))))] M1) fun x2 M2 =>
 if M2.1.1 = M1.1.1 then
 (if x1 = x2 then
 evk zcod (some (L0, xs)) d zc_law 1188 [(0, .ref l0), (1, .ref l1), (2, .ref l2), (3, .int l3)] [] M2
 else
 some (some (.int (nI 0)), M2)) else none) else none) else none) else none) else none) else none :=
  (blk_ok zcod (some (L0, xs)) d zc_law [(1120, .aload_n 0, 1121, [], none), (1121, .iload_n 3, 1122, [], none), (1122, .iconst 1, 1123, [], none), (1123, .iadd, 1124, [], none), (1124, .iaload, 1125, [40], none), (1125, .invokevirtual 138, 1128, [142, 1, 1, 11, 1116, 1117, 1118, 222], none), (1128, .aload_n 2, 1129, [], none), (1129, .aload_n 0, 1130, [], none), (1130, .iload_n 3, 1131, [], none), (1131, .iconst 1, 1132, [], none), (1132, .iadd, 1133, [], none), (1133, .iaload, 1134, [40], none), (1134, .invokevirtual 142, 1137, [259, 1, 1, 12, 1119, 1120, 1121, 662], none), (1137, .if_icmp .eq 51, 1140, [1188], none), (1140, .iconst 0, 1141, [], none), (1141, .ireturn, 1142, [1], none)] (1119, .aload_n 1, 1120, [], some [0, 1, 2, 3]) (by decide +kernel) _ _ _).trans rfl
set_option maxRecDepth 20000 in
set_option maxHeartbeats 4000000 in
theorem B_law_1142 (d : Nat) (S : mS) (I : mI) (L : mJ) (L0 : Nat) (xs : Nat → Int32) (l0 : Nat) (l1 : Nat) (l2 : Nat) (l3 : Int32) :
  evk zcod (some (L0, xs)) d zc_law 1142 [(0, .ref l0), (1, .ref l1), (2, .ref l2), (3, .int l3)] [] (S, I, L) =
  if l0 = 1 ∧ zin (l3 + (nI 1)) L0 then
 (if kK S l1 = 11 then
 (bI (evM zcod d 143 [.ref l1, .int (xs (zix (l3 + (nI 1))))] (S, I, L)) fun x1 M1 =>
 if M1.1.1 = S.1 then
 (if l0 = 1 ∧ zin (l3 + (nI 1)) L0 then
 (if kK M1.1 l2 = 12 then
 (bI (evM zcod d 260 [.ref l2, .int (xs (zix (l3 + (nI 1))))] M1) fun x2 M2 =>
 if M2.1.1 = M1.1.1 then
 (if x1 = x2 then
 evk zcod (some (L0, xs)) d zc_law 1188 [(0, .ref l0), (1, .ref l1), (2, .ref l2), (3, .int l3)] [] M2
 else
 some (some (.int (nI 0)), M2)) else none) else none) else none) else none) else none) else none :=
  (blk_ok zcod (some (L0, xs)) d zc_law [(1143, .aload_n 0, 1144, [], none), (1144, .iload_n 3, 1145, [], none), (1145, .iconst 1, 1146, [], none), (1146, .iadd, 1147, [], none), (1147, .iaload, 1148, [40], none), (1148, .invokevirtual 143, 1151, [143, 1, 1, 11, 1122, 1123, 1124, 222], none), (1151, .aload_n 2, 1152, [], none), (1152, .aload_n 0, 1153, [], none), (1153, .iload_n 3, 1154, [], none), (1154, .iconst 1, 1155, [], none), (1155, .iadd, 1156, [], none), (1156, .iaload, 1157, [40], none), (1157, .invokevirtual 146, 1160, [260, 1, 1, 12, 1125, 1126, 1127, 662], none), (1160, .if_icmp .eq 28, 1163, [1188], none), (1163, .iconst 0, 1164, [], none), (1164, .ireturn, 1165, [1], none)] (1142, .aload_n 1, 1143, [], some [0, 1, 2, 3]) (by decide +kernel) _ _ _).trans rfl
set_option maxRecDepth 20000 in
set_option maxHeartbeats 4000000 in
theorem B_law_1165 (d : Nat) (S : mS) (I : mI) (L : mJ) (L0 : Nat) (xs : Nat → Int32) (l0 : Nat) (l1 : Nat) (l2 : Nat) (l3 : Int32) :
  evk zcod (some (L0, xs)) d zc_law 1165 [(0, .ref l0), (1, .ref l1), (2, .ref l2), (3, .int l3)] [] (S, I, L) =
  if l0 = 1 ∧ zin (l3 + (nI 1)) L0 then
 (if kK S l1 = 11 then
 (bI (evM zcod d 144 [.ref l1, .int (xs (zix (l3 + (nI 1))))] (S, I, L)) fun x1 M1 =>
 if M1.1.1 = S.1 then
 (if l0 = 1 ∧ zin (l3 + (nI 1)) L0 then
 (if kK M1.1 l2 = 12 then
 (bI (evM zcod d 261 [.ref l2, .int (xs (zix (l3 + (nI 1))))] M1) fun x2 M2 =>
 if M2.1.1 = M1.1.1 then
 (if x1 = x2 then
 evk zcod (some (L0, xs)) d zc_law 1188 [(0, .ref l0), (1, .ref l1), (2, .ref l2), (3, .int l3)] [] M2
 else
 some (some (.int (nI 0)), M2)) else none) else none) else none) else none) else none) else none :=
  (blk_ok zcod (some (L0, xs)) d zc_law [(1166, .aload_n 0, 1167, [], none), (1167, .iload_n 3, 1168, [], none), (1168, .iconst 1, 1169, [], none), (1169, .iadd, 1170, [], none), (1170, .iaload, 1171, [40], none), (1171, .invokevirtual 147, 1174, [144, 1, 1, 11, 1128, 1129, 1130, 222], none), (1174, .aload_n 2, 1175, [], none), (1175, .aload_n 0, 1176, [], none), (1176, .iload_n 3, 1177, [], none), (1177, .iconst 1, 1178, [], none), (1178, .iadd, 1179, [], none), (1179, .iaload, 1180, [40], none), (1180, .invokevirtual 150, 1183, [261, 1, 1, 12, 1131, 1132, 1133, 662], none), (1183, .if_icmp .eq 5, 1186, [1188], none), (1186, .iconst 0, 1187, [], none), (1187, .ireturn, 1188, [1], none)] (1165, .aload_n 1, 1166, [], some [0, 1, 2, 3]) (by decide +kernel) _ _ _).trans rfl
set_option maxRecDepth 20000 in
set_option maxHeartbeats 4000000 in
theorem B_law_1188 (d : Nat) (S : mS) (I : mI) (L : mJ) (L0 : Nat) (xs : Nat → Int32) (l0 : Nat) (l1 : Nat) (l2 : Nat) (l3 : Int32) :
  evk zcod (some (L0, xs)) d zc_law 1188 [(0, .ref l0), (1, .ref l1), (2, .ref l2), (3, .int l3)] [] (S, I, L) =
  evk zcod (some (L0, xs)) d zc_law 18 [(0, .ref l0), (1, .ref l1), (2, .ref l2), (3, .int (l3 + (nI 6)))] [] (S, I, L) :=
  (blk_ok zcod (some (L0, xs)) d zc_law [(1191, .goto (-1173), 1194, [18], none)] (1188, .iinc 3 6, 1191, [], some [0, 1, 2, 3]) (by decide +kernel) _ _ _).trans rfl
set_option maxRecDepth 20000 in
set_option maxHeartbeats 4000000 in
theorem B_law_1194 (d : Nat) (S : mS) (I : mI) (L : mJ) (L0 : Nat) (xs : Nat → Int32)  :
  evk zcod (some (L0, xs)) d zc_law 1194 [] [] (S, I, L) =
  some (some (.int (nI 1)), (S, I, L)) :=
  (blk_ok zcod (some (L0, xs)) d zc_law [(1195, .ireturn, 1196, [1], none)] (1194, .iconst 1, 1195, [], some []) (by decide +kernel) _ _ _).trans rfl
theorem B_L_law_0 (d : Nat) (M : zM) (L : Nat) (xs : Nat → Int32) (l0 : Nat) :
  evk zcod (some (L, xs)) d zc_law 0 [(0, .ref l0)] [] M =
  if okS M [(0, .ref l0)] [] = true then
  (if 0 < (M.1.1 + 7) ∧ okS (alc M 11 14) [(0, .ref l0)] [.ref (M.1.1 + 7)] = true then
  (bV (evM zcod d 112 [.ref (M.1.1 + 7)] (alc M 11 14)) fun M1 =>
  evk zcod (some (L, xs)) d zc_law 8 [(0, .ref l0), (1, .ref (M.1.1 + 7))] [] M1) else none) else none :=
  (blk_ok zcod (some (L, xs)) d zc_law [(3, .dup, 4, [], none), (4, .invokespecial 9, 7, [112, 0, 0, 936, 937, 222], none), (7, .astore_n 1, 8, [], none)] (0, .new 7, 3, [11, 14, 934, 935, 222], none) (by decide +kernel) _ _ _).trans rfl
theorem B_L_law_8 (d : Nat) (M : zM) (L : Nat) (xs : Nat → Int32) (l0 : Nat) (l1 : Nat) :
  evk zcod (some (L, xs)) d zc_law 8 [(0, .ref l0), (1, .ref l1)] [] M =
  if okS M [(0, .ref l0), (1, .ref l1)] [] = true then
  (if 0 < (M.1.1 + 7) ∧ okS (alc M 12 82) [(0, .ref l0), (1, .ref l1)] [.ref (M.1.1 + 7)] = true then
  (bV (evM zcod d 155 [.ref (M.1.1 + 7)] (alc M 12 82)) fun M1 =>
  evk zcod (some (L, xs)) d zc_law 16 [(0, .ref l0), (1, .ref l1), (2, .ref (M.1.1 + 7))] [] M1) else none) else none :=
  (blk_ok zcod (some (L, xs)) d zc_law [(11, .dup, 12, [], none), (12, .invokespecial 12, 15, [155, 0, 0, 940, 941, 662], none), (15, .astore_n 2, 16, [], none)] (8, .new 10, 11, [12, 82, 938, 939, 662], some [0, 1]) (by decide +kernel) _ _ _).trans rfl
