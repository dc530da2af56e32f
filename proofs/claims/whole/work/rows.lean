section
-- ===== PART A: goes FIRST, ahead of the names: the tables' words, and 'selects' of the private methods out of them =====
/-- a private method of a class that the tables say can be made, by its rows of tables_1 -/
def lw_okq (q : MethodName × Nat) : Prop := (q.1.cls ≠ "java/lang/invoke/MethodHandle" ∧ q.1.cls ≠ "java/lang/invoke/VarHandle") ∧ Cond.instantiable q.1.cls q.2 ∈ tables_1 ∧ Cond.privateMethod q.1 ∈ tables_1 ∧ Cond.instanceMethod q.1 ∈ tables_1
theorem lw_p0 : lw_okq (⟨"SilkRise", "appendBytes", "(I)V"⟩, 14) := ⟨⟨by decide +kernel, by decide +kernel⟩, List.mem_of_getElem? (i := 23) (by decide +kernel), List.mem_of_getElem? (i := 467) (by decide +kernel), List.mem_of_getElem? (i := 468) (by decide +kernel)⟩
theorem lw_p1 : lw_okq (⟨"SilkRise$Tokens", "scanOne", "()V"⟩, 8) := ⟨⟨by decide +kernel, by decide +kernel⟩, List.mem_of_getElem? (i := 177) (by decide +kernel), List.mem_of_getElem? (i := 494) (by decide +kernel), List.mem_of_getElem? (i := 495) (by decide +kernel)⟩
theorem lw_p2 : lw_okq (⟨"SilkRise$Tokens", "byteAt", "(I)I"⟩, 8) := ⟨⟨by decide +kernel, by decide +kernel⟩, List.mem_of_getElem? (i := 177) (by decide +kernel), List.mem_of_getElem? (i := 498) (by decide +kernel), List.mem_of_getElem? (i := 499) (by decide +kernel)⟩
theorem lw_p3 : lw_okq (⟨"SilkRise$Tokens", "add", "(IIJ)V"⟩, 8) := ⟨⟨by decide +kernel, by decide +kernel⟩, List.mem_of_getElem? (i := 177) (by decide +kernel), List.mem_of_getElem? (i := 505) (by decide +kernel), List.mem_of_getElem? (i := 506) (by decide +kernel)⟩
theorem lw_p4 : lw_okq (⟨"SilkRise$Tokens", "scanLetters", "()V"⟩, 8) := ⟨⟨by decide +kernel, by decide +kernel⟩, List.mem_of_getElem? (i := 177) (by decide +kernel), List.mem_of_getElem? (i := 512) (by decide +kernel), List.mem_of_getElem? (i := 513) (by decide +kernel)⟩
theorem lw_p5 : lw_okq (⟨"SilkRise$Tokens", "kindOf", "(J)I"⟩, 8) := ⟨⟨by decide +kernel, by decide +kernel⟩, List.mem_of_getElem? (i := 177) (by decide +kernel), List.mem_of_getElem? (i := 516) (by decide +kernel), List.mem_of_getElem? (i := 517) (by decide +kernel)⟩
theorem lw_p6 : lw_okq (⟨"SilkRise$Tokens", "scanDigits", "()V"⟩, 8) := ⟨⟨by decide +kernel, by decide +kernel⟩, List.mem_of_getElem? (i := 177) (by decide +kernel), List.mem_of_getElem? (i := 523) (by decide +kernel), List.mem_of_getElem? (i := 524) (by decide +kernel)⟩
theorem lw_p7 : lw_okq (⟨"SilkRise$Reader", "statement", "()V"⟩, 10) := ⟨⟨by decide +kernel, by decide +kernel⟩, List.mem_of_getElem? (i := 171) (by decide +kernel), List.mem_of_getElem? (i := 589) (by decide +kernel), List.mem_of_getElem? (i := 590) (by decide +kernel)⟩
theorem lw_p8 : lw_okq (⟨"SilkRise$Reader", "loadStatement", "()V"⟩, 10) := ⟨⟨by decide +kernel, by decide +kernel⟩, List.mem_of_getElem? (i := 171) (by decide +kernel), List.mem_of_getElem? (i := 593) (by decide +kernel), List.mem_of_getElem? (i := 594) (by decide +kernel)⟩
theorem lw_p9 : lw_okq (⟨"SilkRise$Reader", "takeFirst", "(LSilkRise$Things;)V"⟩, 10) := ⟨⟨by decide +kernel, by decide +kernel⟩, List.mem_of_getElem? (i := 171) (by decide +kernel), List.mem_of_getElem? (i := 597) (by decide +kernel), List.mem_of_getElem? (i := 598) (by decide +kernel)⟩
theorem lw_p10 : lw_okq (⟨"SilkRise$Reader", "fail", "(I)V"⟩, 10) := ⟨⟨by decide +kernel, by decide +kernel⟩, List.mem_of_getElem? (i := 171) (by decide +kernel), List.mem_of_getElem? (i := 605) (by decide +kernel), List.mem_of_getElem? (i := 606) (by decide +kernel)⟩
theorem lw_p11 : lw_okq (⟨"SilkRise$Reader", "take", "(I)Z"⟩, 10) := ⟨⟨by decide +kernel, by decide +kernel⟩, List.mem_of_getElem? (i := 171) (by decide +kernel), List.mem_of_getElem? (i := 613) (by decide +kernel), List.mem_of_getElem? (i := 614) (by decide +kernel)⟩
theorem lw_p12 : lw_okq (⟨"SilkRise$Reader", "takeName", "()V"⟩, 10) := ⟨⟨by decide +kernel, by decide +kernel⟩, List.mem_of_getElem? (i := 171) (by decide +kernel), List.mem_of_getElem? (i := 617) (by decide +kernel), List.mem_of_getElem? (i := 618) (by decide +kernel)⟩
theorem lw_p13 : lw_okq (⟨"SilkRise$Reader", "failLate", "(II)V"⟩, 10) := ⟨⟨by decide +kernel, by decide +kernel⟩, List.mem_of_getElem? (i := 171) (by decide +kernel), List.mem_of_getElem? (i := 625) (by decide +kernel), List.mem_of_getElem? (i := 626) (by decide +kernel)⟩
theorem lw_p14 : lw_okq (⟨"SilkRise$Reader", "takeNumber", "(III)I"⟩, 10) := ⟨⟨by decide +kernel, by decide +kernel⟩, List.mem_of_getElem? (i := 171) (by decide +kernel), List.mem_of_getElem? (i := 638) (by decide +kernel), List.mem_of_getElem? (i := 639) (by decide +kernel)⟩
theorem lw_p15 : lw_okq (⟨"SilkRise$Reader", "silkStatement", "()V"⟩, 10) := ⟨⟨by decide +kernel, by decide +kernel⟩, List.mem_of_getElem? (i := 171) (by decide +kernel), List.mem_of_getElem? (i := 644) (by decide +kernel), List.mem_of_getElem? (i := 645) (by decide +kernel)⟩
def lw_privs_1 : List (MethodName × Nat) := [(⟨"SilkRise", "appendBytes", "(I)V"⟩, 14), (⟨"SilkRise$Tokens", "scanOne", "()V"⟩, 8), (⟨"SilkRise$Tokens", "byteAt", "(I)I"⟩, 8), (⟨"SilkRise$Tokens", "add", "(IIJ)V"⟩, 8), (⟨"SilkRise$Tokens", "scanLetters", "()V"⟩, 8), (⟨"SilkRise$Tokens", "kindOf", "(J)I"⟩, 8), (⟨"SilkRise$Tokens", "scanDigits", "()V"⟩, 8), (⟨"SilkRise$Reader", "statement", "()V"⟩, 10), (⟨"SilkRise$Reader", "loadStatement", "()V"⟩, 10), (⟨"SilkRise$Reader", "takeFirst", "(LSilkRise$Things;)V"⟩, 10), (⟨"SilkRise$Reader", "fail", "(I)V"⟩, 10), (⟨"SilkRise$Reader", "take", "(I)Z"⟩, 10), (⟨"SilkRise$Reader", "takeName", "()V"⟩, 10), (⟨"SilkRise$Reader", "failLate", "(II)V"⟩, 10), (⟨"SilkRise$Reader", "takeNumber", "(III)I"⟩, 10), (⟨"SilkRise$Reader", "silkStatement", "()V"⟩, 10)]
theorem lw_r1 : ∀ q ∈ lw_privs_1, lw_okq q := List.forall_mem_cons.mpr ⟨lw_p0, List.forall_mem_cons.mpr ⟨lw_p1, List.forall_mem_cons.mpr ⟨lw_p2, List.forall_mem_cons.mpr ⟨lw_p3, List.forall_mem_cons.mpr ⟨lw_p4, List.forall_mem_cons.mpr ⟨lw_p5, List.forall_mem_cons.mpr ⟨lw_p6, List.forall_mem_cons.mpr ⟨lw_p7, List.forall_mem_cons.mpr ⟨lw_p8, List.forall_mem_cons.mpr ⟨lw_p9, List.forall_mem_cons.mpr ⟨lw_p10, List.forall_mem_cons.mpr ⟨lw_p11, List.forall_mem_cons.mpr ⟨lw_p12, List.forall_mem_cons.mpr ⟨lw_p13, List.forall_mem_cons.mpr ⟨lw_p14, List.forall_mem_cons.mpr ⟨lw_p15, fun _ h => absurd h List.not_mem_nil⟩⟩⟩⟩⟩⟩⟩⟩⟩⟩⟩⟩⟩⟩⟩⟩
theorem lw_p16 : lw_okq (⟨"SilkRise$Reader", "hookStatement", "()V"⟩, 10) := ⟨⟨by decide +kernel, by decide +kernel⟩, List.mem_of_getElem? (i := 171) (by decide +kernel), List.mem_of_getElem? (i := 648) (by decide +kernel), List.mem_of_getElem? (i := 649) (by decide +kernel)⟩
theorem lw_p17 : lw_okq (⟨"SilkRise$Reader", "setting", "(II)I"⟩, 10) := ⟨⟨by decide +kernel, by decide +kernel⟩, List.mem_of_getElem? (i := 171) (by decide +kernel), List.mem_of_getElem? (i := 652) (by decide +kernel), List.mem_of_getElem? (i := 653) (by decide +kernel)⟩
theorem lw_p18 : lw_okq (⟨"SilkRise$Reader", "lawStatement", "(I)V"⟩, 10) := ⟨⟨by decide +kernel, by decide +kernel⟩, List.mem_of_getElem? (i := 171) (by decide +kernel), List.mem_of_getElem? (i := 656) (by decide +kernel), List.mem_of_getElem? (i := 657) (by decide +kernel)⟩
theorem lw_p19 : lw_okq (⟨"SilkRise$Reader", "sum", "(I)V"⟩, 10) := ⟨⟨by decide +kernel, by decide +kernel⟩, List.mem_of_getElem? (i := 171) (by decide +kernel), List.mem_of_getElem? (i := 661) (by decide +kernel), List.mem_of_getElem? (i := 662) (by decide +kernel)⟩
theorem lw_p20 : lw_okq (⟨"SilkRise$Reader", "product", "(I)V"⟩, 10) := ⟨⟨by decide +kernel, by decide +kernel⟩, List.mem_of_getElem? (i := 171) (by decide +kernel), List.mem_of_getElem? (i := 665) (by decide +kernel), List.mem_of_getElem? (i := 666) (by decide +kernel)⟩
theorem lw_p21 : lw_okq (⟨"SilkRise$Reader", "unit", "(I)V"⟩, 10) := ⟨⟨by decide +kernel, by decide +kernel⟩, List.mem_of_getElem? (i := 171) (by decide +kernel), List.mem_of_getElem? (i := 669) (by decide +kernel), List.mem_of_getElem? (i := 670) (by decide +kernel)⟩
theorem lw_p22 : lw_okq (⟨"SilkRise$Sky", "look", "(IIIII)V"⟩, 3) := ⟨⟨by decide +kernel, by decide +kernel⟩, List.mem_of_getElem? (i := 295) (by decide +kernel), List.mem_of_getElem? (i := 776) (by decide +kernel), List.mem_of_getElem? (i := 777) (by decide +kernel)⟩
theorem lw_p23 : lw_okq (⟨"SilkRise$Sky", "valueOf", "(I)I"⟩, 3) := ⟨⟨by decide +kernel, by decide +kernel⟩, List.mem_of_getElem? (i := 295) (by decide +kernel), List.mem_of_getElem? (i := 780) (by decide +kernel), List.mem_of_getElem? (i := 781) (by decide +kernel)⟩
theorem lw_p24 : lw_okq (⟨"SilkRise$Sky", "varOf", "(I)I"⟩, 3) := ⟨⟨by decide +kernel, by decide +kernel⟩, List.mem_of_getElem? (i := 295) (by decide +kernel), List.mem_of_getElem? (i := 796) (by decide +kernel), List.mem_of_getElem? (i := 797) (by decide +kernel)⟩
theorem lw_p25 : lw_okq (⟨"SilkRise$Sky", "onStack", "(I)I"⟩, 3) := ⟨⟨by decide +kernel, by decide +kernel⟩, List.mem_of_getElem? (i := 295) (by decide +kernel), List.mem_of_getElem? (i := 800) (by decide +kernel), List.mem_of_getElem? (i := 801) (by decide +kernel)⟩
theorem lw_p26 : lw_okq (⟨"SilkRise", "isPair", "(II)Z"⟩, 14) := ⟨⟨by decide +kernel, by decide +kernel⟩, List.mem_of_getElem? (i := 23) (by decide +kernel), List.mem_of_getElem? (i := 828) (by decide +kernel), List.mem_of_getElem? (i := 829) (by decide +kernel)⟩
theorem lw_p27 : lw_okq (⟨"SilkRise$Air", "passOne", "(LSilkRise$State;Z)V"⟩, 3) := ⟨⟨by decide +kernel, by decide +kernel⟩, List.mem_of_getElem? (i := 311) (by decide +kernel), List.mem_of_getElem? (i := 883) (by decide +kernel), List.mem_of_getElem? (i := 884) (by decide +kernel)⟩
theorem lw_p28 : lw_okq (⟨"SilkRise$Air", "drift", "(LSilkRise$State;IZ)V"⟩, 3) := ⟨⟨by decide +kernel, by decide +kernel⟩, List.mem_of_getElem? (i := 311) (by decide +kernel), List.mem_of_getElem? (i := 891) (by decide +kernel), List.mem_of_getElem? (i := 892) (by decide +kernel)⟩
theorem lw_p29 : lw_okq (⟨"SilkRise$Air", "comeToRim", "(LSilkRise$State;I)V"⟩, 3) := ⟨⟨by decide +kernel, by decide +kernel⟩, List.mem_of_getElem? (i := 311) (by decide +kernel), List.mem_of_getElem? (i := 900) (by decide +kernel), List.mem_of_getElem? (i := 901) (by decide +kernel)⟩
theorem lw_p30 : lw_okq (⟨"SilkRise$Air", "busyHooks", "(LSilkRise$State;)I"⟩, 3) := ⟨⟨by decide +kernel, by decide +kernel⟩, List.mem_of_getElem? (i := 311) (by decide +kernel), List.mem_of_getElem? (i := 904) (by decide +kernel), List.mem_of_getElem? (i := 905) (by decide +kernel)⟩
theorem lw_p31 : lw_okq (⟨"SilkRise$Course", "endAt", "(II)V"⟩, 8) := ⟨⟨by decide +kernel, by decide +kernel⟩, List.mem_of_getElem? (i := 327) (by decide +kernel), List.mem_of_getElem? (i := 946) (by decide +kernel), List.mem_of_getElem? (i := 947) (by decide +kernel)⟩
def lw_privs_2 : List (MethodName × Nat) := [(⟨"SilkRise$Reader", "hookStatement", "()V"⟩, 10), (⟨"SilkRise$Reader", "setting", "(II)I"⟩, 10), (⟨"SilkRise$Reader", "lawStatement", "(I)V"⟩, 10), (⟨"SilkRise$Reader", "sum", "(I)V"⟩, 10), (⟨"SilkRise$Reader", "product", "(I)V"⟩, 10), (⟨"SilkRise$Reader", "unit", "(I)V"⟩, 10), (⟨"SilkRise$Sky", "look", "(IIIII)V"⟩, 3), (⟨"SilkRise$Sky", "valueOf", "(I)I"⟩, 3), (⟨"SilkRise$Sky", "varOf", "(I)I"⟩, 3), (⟨"SilkRise$Sky", "onStack", "(I)I"⟩, 3), (⟨"SilkRise", "isPair", "(II)Z"⟩, 14), (⟨"SilkRise$Air", "passOne", "(LSilkRise$State;Z)V"⟩, 3), (⟨"SilkRise$Air", "drift", "(LSilkRise$State;IZ)V"⟩, 3), (⟨"SilkRise$Air", "comeToRim", "(LSilkRise$State;I)V"⟩, 3), (⟨"SilkRise$Air", "busyHooks", "(LSilkRise$State;)I"⟩, 3), (⟨"SilkRise$Course", "endAt", "(II)V"⟩, 8)]
theorem lw_r2 : ∀ q ∈ lw_privs_2, lw_okq q := List.forall_mem_cons.mpr ⟨lw_p16, List.forall_mem_cons.mpr ⟨lw_p17, List.forall_mem_cons.mpr ⟨lw_p18, List.forall_mem_cons.mpr ⟨lw_p19, List.forall_mem_cons.mpr ⟨lw_p20, List.forall_mem_cons.mpr ⟨lw_p21, List.forall_mem_cons.mpr ⟨lw_p22, List.forall_mem_cons.mpr ⟨lw_p23, List.forall_mem_cons.mpr ⟨lw_p24, List.forall_mem_cons.mpr ⟨lw_p25, List.forall_mem_cons.mpr ⟨lw_p26, List.forall_mem_cons.mpr ⟨lw_p27, List.forall_mem_cons.mpr ⟨lw_p28, List.forall_mem_cons.mpr ⟨lw_p29, List.forall_mem_cons.mpr ⟨lw_p30, List.forall_mem_cons.mpr ⟨lw_p31, fun _ h => absurd h List.not_mem_nil⟩⟩⟩⟩⟩⟩⟩⟩⟩⟩⟩⟩⟩⟩⟩⟩
theorem lw_p32 : lw_okq (⟨"SilkRise", "comesTo", "(IIII)Z"⟩, 14) := ⟨⟨by decide +kernel, by decide +kernel⟩, List.mem_of_getElem? (i := 23) (by decide +kernel), List.mem_of_getElem? (i := 960) (by decide +kernel), List.mem_of_getElem? (i := 961) (by decide +kernel)⟩
theorem lw_p33 : lw_okq (⟨"SilkRise$Filling", "gainOf", "(II)I"⟩, 6) := ⟨⟨by decide +kernel, by decide +kernel⟩, List.mem_of_getElem? (i := 366) (by decide +kernel), List.mem_of_getElem? (i := 988) (by decide +kernel), List.mem_of_getElem? (i := 989) (by decide +kernel)⟩
theorem lw_p34 : lw_okq (⟨"SilkRise$Filling", "bestFrom", "(II)I"⟩, 6) := ⟨⟨by decide +kernel, by decide +kernel⟩, List.mem_of_getElem? (i := 366) (by decide +kernel), List.mem_of_getElem? (i := 999) (by decide +kernel), List.mem_of_getElem? (i := 1000) (by decide +kernel)⟩
theorem lw_p35 : lw_okq (⟨"SilkRise$Filling", "sumBy", "(III)I"⟩, 6) := ⟨⟨by decide +kernel, by decide +kernel⟩, List.mem_of_getElem? (i := 366) (by decide +kernel), List.mem_of_getElem? (i := 1003) (by decide +kernel), List.mem_of_getElem? (i := 1004) (by decide +kernel)⟩
theorem lw_p36 : lw_okq (⟨"SilkRise$Filling", "firstBest", "(II)I"⟩, 6) := ⟨⟨by decide +kernel, by decide +kernel⟩, List.mem_of_getElem? (i := 366) (by decide +kernel), List.mem_of_getElem? (i := 1016) (by decide +kernel), List.mem_of_getElem? (i := 1017) (by decide +kernel)⟩
theorem lw_p37 : lw_okq (⟨"SilkRise$Filling", "hooksFor", "(II)I"⟩, 6) := ⟨⟨by decide +kernel, by decide +kernel⟩, List.mem_of_getElem? (i := 366) (by decide +kernel), List.mem_of_getElem? (i := 1029) (by decide +kernel), List.mem_of_getElem? (i := 1030) (by decide +kernel)⟩
theorem lw_p38 : lw_okq (⟨"SilkRise", "gainBehind", "(III)I"⟩, 14) := ⟨⟨by decide +kernel, by decide +kernel⟩, List.mem_of_getElem? (i := 23) (by decide +kernel), List.mem_of_getElem? (i := 1047) (by decide +kernel), List.mem_of_getElem? (i := 1048) (by decide +kernel)⟩
theorem lw_p39 : lw_okq (⟨"SilkRise", "tryHours", "(II)V"⟩, 14) := ⟨⟨by decide +kernel, by decide +kernel⟩, List.mem_of_getElem? (i := 23) (by decide +kernel), List.mem_of_getElem? (i := 1055) (by decide +kernel), List.mem_of_getElem? (i := 1056) (by decide +kernel)⟩
theorem lw_p40 : lw_okq (⟨"SilkRise", "pullsKnownBy", "(I)I"⟩, 14) := ⟨⟨by decide +kernel, by decide +kernel⟩, List.mem_of_getElem? (i := 23) (by decide +kernel), List.mem_of_getElem? (i := 1081) (by decide +kernel), List.mem_of_getElem? (i := 1082) (by decide +kernel)⟩
theorem lw_p41 : lw_okq (⟨"SilkRise", "fitsKnown", "(II)Z"⟩, 14) := ⟨⟨by decide +kernel, by decide +kernel⟩, List.mem_of_getElem? (i := 23) (by decide +kernel), List.mem_of_getElem? (i := 1085) (by decide +kernel), List.mem_of_getElem? (i := 1086) (by decide +kernel)⟩
theorem lw_p42 : lw_okq (⟨"SilkRise$Past", "isSlot", "(I)Z"⟩, 5) := ⟨⟨by decide +kernel, by decide +kernel⟩, List.mem_of_getElem? (i := 393) (by decide +kernel), List.mem_of_getElem? (i := 1104) (by decide +kernel), List.mem_of_getElem? (i := 1105) (by decide +kernel)⟩
theorem lw_p43 : lw_okq (⟨"SilkRiseModel", "plain", "(I)V"⟩, 82) := ⟨⟨by decide +kernel, by decide +kernel⟩, List.mem_of_getElem? (i := 1131) (by decide +kernel), List.mem_of_getElem? (i := 1137) (by decide +kernel), List.mem_of_getElem? (i := 1138) (by decide +kernel)⟩
theorem lw_p44 : lw_okq (⟨"SilkRiseModel", "begins", "()V"⟩, 82) := ⟨⟨by decide +kernel, by decide +kernel⟩, List.mem_of_getElem? (i := 1131) (by decide +kernel), List.mem_of_getElem? (i := 1148) (by decide +kernel), List.mem_of_getElem? (i := 1149) (by decide +kernel)⟩
theorem lw_p45 : lw_okq (⟨"SilkRiseModel", "keepsRow", "()V"⟩, 82) := ⟨⟨by decide +kernel, by decide +kernel⟩, List.mem_of_getElem? (i := 1131) (by decide +kernel), List.mem_of_getElem? (i := 1152) (by decide +kernel), List.mem_of_getElem? (i := 1153) (by decide +kernel)⟩
theorem lw_p46 : lw_okq (⟨"SilkRiseModel", "put", "(I)V"⟩, 82) := ⟨⟨by decide +kernel, by decide +kernel⟩, List.mem_of_getElem? (i := 1131) (by decide +kernel), List.mem_of_getElem? (i := 1407) (by decide +kernel), List.mem_of_getElem? (i := 1408) (by decide +kernel)⟩
theorem lw_p47 : lw_okq (⟨"SilkRiseModel", "cut", "()V"⟩, 82) := ⟨⟨by decide +kernel, by decide +kernel⟩, List.mem_of_getElem? (i := 1131) (by decide +kernel), List.mem_of_getElem? (i := 1419) (by decide +kernel), List.mem_of_getElem? (i := 1420) (by decide +kernel)⟩
def lw_privs_3 : List (MethodName × Nat) := [(⟨"SilkRise", "comesTo", "(IIII)Z"⟩, 14), (⟨"SilkRise$Filling", "gainOf", "(II)I"⟩, 6), (⟨"SilkRise$Filling", "bestFrom", "(II)I"⟩, 6), (⟨"SilkRise$Filling", "sumBy", "(III)I"⟩, 6), (⟨"SilkRise$Filling", "firstBest", "(II)I"⟩, 6), (⟨"SilkRise$Filling", "hooksFor", "(II)I"⟩, 6), (⟨"SilkRise", "gainBehind", "(III)I"⟩, 14), (⟨"SilkRise", "tryHours", "(II)V"⟩, 14), (⟨"SilkRise", "pullsKnownBy", "(I)I"⟩, 14), (⟨"SilkRise", "fitsKnown", "(II)Z"⟩, 14), (⟨"SilkRise$Past", "isSlot", "(I)Z"⟩, 5), (⟨"SilkRiseModel", "plain", "(I)V"⟩, 82), (⟨"SilkRiseModel", "begins", "()V"⟩, 82), (⟨"SilkRiseModel", "keepsRow", "()V"⟩, 82), (⟨"SilkRiseModel", "put", "(I)V"⟩, 82), (⟨"SilkRiseModel", "cut", "()V"⟩, 82)]
theorem lw_r3 : ∀ q ∈ lw_privs_3, lw_okq q := List.forall_mem_cons.mpr ⟨lw_p32, List.forall_mem_cons.mpr ⟨lw_p33, List.forall_mem_cons.mpr ⟨lw_p34, List.forall_mem_cons.mpr ⟨lw_p35, List.forall_mem_cons.mpr ⟨lw_p36, List.forall_mem_cons.mpr ⟨lw_p37, List.forall_mem_cons.mpr ⟨lw_p38, List.forall_mem_cons.mpr ⟨lw_p39, List.forall_mem_cons.mpr ⟨lw_p40, List.forall_mem_cons.mpr ⟨lw_p41, List.forall_mem_cons.mpr ⟨lw_p42, List.forall_mem_cons.mpr ⟨lw_p43, List.forall_mem_cons.mpr ⟨lw_p44, List.forall_mem_cons.mpr ⟨lw_p45, List.forall_mem_cons.mpr ⟨lw_p46, List.forall_mem_cons.mpr ⟨lw_p47, fun _ h => absurd h List.not_mem_nil⟩⟩⟩⟩⟩⟩⟩⟩⟩⟩⟩⟩⟩⟩⟩⟩
theorem lw_p48 : lw_okq (⟨"SilkRiseModel", "byteAt", "(I)I"⟩, 82) := ⟨⟨by decide +kernel, by decide +kernel⟩, List.mem_of_getElem? (i := 1131) (by decide +kernel), List.mem_of_getElem? (i := 1423) (by decide +kernel), List.mem_of_getElem? (i := 1424) (by decide +kernel)⟩
theorem lw_p49 : lw_okq (⟨"SilkRiseModel", "token", "(IIIJ)V"⟩, 82) := ⟨⟨by decide +kernel, by decide +kernel⟩, List.mem_of_getElem? (i := 1131) (by decide +kernel), List.mem_of_getElem? (i := 1427) (by decide +kernel), List.mem_of_getElem? (i := 1428) (by decide +kernel)⟩
theorem lw_p50 : lw_okq (⟨"SilkRiseModel", "sign", "(III)I"⟩, 82) := ⟨⟨by decide +kernel, by decide +kernel⟩, List.mem_of_getElem? (i := 1131) (by decide +kernel), List.mem_of_getElem? (i := 1437) (by decide +kernel), List.mem_of_getElem? (i := 1438) (by decide +kernel)⟩
theorem lw_p51 : lw_okq (⟨"SilkRiseModel", "is", "(I)Z"⟩, 82) := ⟨⟨by decide +kernel, by decide +kernel⟩, List.mem_of_getElem? (i := 1131) (by decide +kernel), List.mem_of_getElem? (i := 1441) (by decide +kernel), List.mem_of_getElem? (i := 1442) (by decide +kernel)⟩
theorem lw_p52 : lw_okq (⟨"SilkRiseModel", "tellOne", "()V"⟩, 82) := ⟨⟨by decide +kernel, by decide +kernel⟩, List.mem_of_getElem? (i := 1131) (by decide +kernel), List.mem_of_getElem? (i := 1445) (by decide +kernel), List.mem_of_getElem? (i := 1446) (by decide +kernel)⟩
theorem lw_p53 : lw_okq (⟨"SilkRiseModel", "roomFor", "(II)V"⟩, 82) := ⟨⟨by decide +kernel, by decide +kernel⟩, List.mem_of_getElem? (i := 1131) (by decide +kernel), List.mem_of_getElem? (i := 1449) (by decide +kernel), List.mem_of_getElem? (i := 1450) (by decide +kernel)⟩
theorem lw_p54 : lw_okq (⟨"SilkRiseModel", "fail", "(I)V"⟩, 82) := ⟨⟨by decide +kernel, by decide +kernel⟩, List.mem_of_getElem? (i := 1131) (by decide +kernel), List.mem_of_getElem? (i := 1453) (by decide +kernel), List.mem_of_getElem? (i := 1454) (by decide +kernel)⟩
theorem lw_p55 : lw_okq (⟨"SilkRiseModel", "goesOn", "()V"⟩, 82) := ⟨⟨by decide +kernel, by decide +kernel⟩, List.mem_of_getElem? (i := 1131) (by decide +kernel), List.mem_of_getElem? (i := 1457) (by decide +kernel), List.mem_of_getElem? (i := 1458) (by decide +kernel)⟩
theorem lw_p56 : lw_okq (⟨"SilkRiseModel", "tellLoad", "()V"⟩, 82) := ⟨⟨by decide +kernel, by decide +kernel⟩, List.mem_of_getElem? (i := 1131) (by decide +kernel), List.mem_of_getElem? (i := 1461) (by decide +kernel), List.mem_of_getElem? (i := 1462) (by decide +kernel)⟩
theorem lw_p57 : lw_okq (⟨"SilkRiseModel", "named", "()I"⟩, 82) := ⟨⟨by decide +kernel, by decide +kernel⟩, List.mem_of_getElem? (i := 1131) (by decide +kernel), List.mem_of_getElem? (i := 1465) (by decide +kernel), List.mem_of_getElem? (i := 1466) (by decide +kernel)⟩
theorem lw_p58 : lw_okq (⟨"SilkRiseModel", "must", "(I)V"⟩, 82) := ⟨⟨by decide +kernel, by decide +kernel⟩, List.mem_of_getElem? (i := 1131) (by decide +kernel), List.mem_of_getElem? (i := 1469) (by decide +kernel), List.mem_of_getElem? (i := 1470) (by decide +kernel)⟩
theorem lw_p59 : lw_okq (⟨"SilkRiseModel", "wrong", "(II)V"⟩, 82) := ⟨⟨by decide +kernel, by decide +kernel⟩, List.mem_of_getElem? (i := 1131) (by decide +kernel), List.mem_of_getElem? (i := 1473) (by decide +kernel), List.mem_of_getElem? (i := 1474) (by decide +kernel)⟩
theorem lw_p60 : lw_okq (⟨"SilkRiseModel", "bounded", "(II)I"⟩, 82) := ⟨⟨by decide +kernel, by decide +kernel⟩, List.mem_of_getElem? (i := 1131) (by decide +kernel), List.mem_of_getElem? (i := 1477) (by decide +kernel), List.mem_of_getElem? (i := 1478) (by decide +kernel)⟩
theorem lw_p61 : lw_okq (⟨"SilkRiseModel", "ends", "(I)V"⟩, 82) := ⟨⟨by decide +kernel, by decide +kernel⟩, List.mem_of_getElem? (i := 1131) (by decide +kernel), List.mem_of_getElem? (i := 1481) (by decide +kernel), List.mem_of_getElem? (i := 1482) (by decide +kernel)⟩
theorem lw_p62 : lw_okq (⟨"SilkRiseModel", "tellSilk", "()V"⟩, 82) := ⟨⟨by decide +kernel, by decide +kernel⟩, List.mem_of_getElem? (i := 1131) (by decide +kernel), List.mem_of_getElem? (i := 1485) (by decide +kernel), List.mem_of_getElem? (i := 1486) (by decide +kernel)⟩
theorem lw_p63 : lw_okq (⟨"SilkRiseModel", "tellHook", "()V"⟩, 82) := ⟨⟨by decide +kernel, by decide +kernel⟩, List.mem_of_getElem? (i := 1131) (by decide +kernel), List.mem_of_getElem? (i := 1489) (by decide +kernel), List.mem_of_getElem? (i := 1490) (by decide +kernel)⟩
def lw_privs_4 : List (MethodName × Nat) := [(⟨"SilkRiseModel", "byteAt", "(I)I"⟩, 82), (⟨"SilkRiseModel", "token", "(IIIJ)V"⟩, 82), (⟨"SilkRiseModel", "sign", "(III)I"⟩, 82), (⟨"SilkRiseModel", "is", "(I)Z"⟩, 82), (⟨"SilkRiseModel", "tellOne", "()V"⟩, 82), (⟨"SilkRiseModel", "roomFor", "(II)V"⟩, 82), (⟨"SilkRiseModel", "fail", "(I)V"⟩, 82), (⟨"SilkRiseModel", "goesOn", "()V"⟩, 82), (⟨"SilkRiseModel", "tellLoad", "()V"⟩, 82), (⟨"SilkRiseModel", "named", "()I"⟩, 82), (⟨"SilkRiseModel", "must", "(I)V"⟩, 82), (⟨"SilkRiseModel", "wrong", "(II)V"⟩, 82), (⟨"SilkRiseModel", "bounded", "(II)I"⟩, 82), (⟨"SilkRiseModel", "ends", "(I)V"⟩, 82), (⟨"SilkRiseModel", "tellSilk", "()V"⟩, 82), (⟨"SilkRiseModel", "tellHook", "()V"⟩, 82)]
theorem lw_r4 : ∀ q ∈ lw_privs_4, lw_okq q := List.forall_mem_cons.mpr ⟨lw_p48, List.forall_mem_cons.mpr ⟨lw_p49, List.forall_mem_cons.mpr ⟨lw_p50, List.forall_mem_cons.mpr ⟨lw_p51, List.forall_mem_cons.mpr ⟨lw_p52, List.forall_mem_cons.mpr ⟨lw_p53, List.forall_mem_cons.mpr ⟨lw_p54, List.forall_mem_cons.mpr ⟨lw_p55, List.forall_mem_cons.mpr ⟨lw_p56, List.forall_mem_cons.mpr ⟨lw_p57, List.forall_mem_cons.mpr ⟨lw_p58, List.forall_mem_cons.mpr ⟨lw_p59, List.forall_mem_cons.mpr ⟨lw_p60, List.forall_mem_cons.mpr ⟨lw_p61, List.forall_mem_cons.mpr ⟨lw_p62, List.forall_mem_cons.mpr ⟨lw_p63, fun _ h => absurd h List.not_mem_nil⟩⟩⟩⟩⟩⟩⟩⟩⟩⟩⟩⟩⟩⟩⟩⟩
theorem lw_p64 : lw_okq (⟨"SilkRiseModel", "toldInt", "(II)I"⟩, 82) := ⟨⟨by decide +kernel, by decide +kernel⟩, List.mem_of_getElem? (i := 1131) (by decide +kernel), List.mem_of_getElem? (i := 1493) (by decide +kernel), List.mem_of_getElem? (i := 1494) (by decide +kernel)⟩
theorem lw_p65 : lw_okq (⟨"SilkRiseModel", "tellLaw", "(I)V"⟩, 82) := ⟨⟨by decide +kernel, by decide +kernel⟩, List.mem_of_getElem? (i := 1131) (by decide +kernel), List.mem_of_getElem? (i := 1497) (by decide +kernel), List.mem_of_getElem? (i := 1498) (by decide +kernel)⟩
theorem lw_p66 : lw_okq (⟨"SilkRiseModel", "expression", "()V"⟩, 82) := ⟨⟨by decide +kernel, by decide +kernel⟩, List.mem_of_getElem? (i := 1131) (by decide +kernel), List.mem_of_getElem? (i := 1501) (by decide +kernel), List.mem_of_getElem? (i := 1502) (by decide +kernel)⟩
theorem lw_p67 : lw_okq (⟨"SilkRiseModel", "unit", "()V"⟩, 82) := ⟨⟨by decide +kernel, by decide +kernel⟩, List.mem_of_getElem? (i := 1131) (by decide +kernel), List.mem_of_getElem? (i := 1505) (by decide +kernel), List.mem_of_getElem? (i := 1506) (by decide +kernel)⟩
theorem lw_p68 : lw_okq (⟨"SilkRiseModel", "emit", "(II)V"⟩, 82) := ⟨⟨by decide +kernel, by decide +kernel⟩, List.mem_of_getElem? (i := 1131) (by decide +kernel), List.mem_of_getElem? (i := 1509) (by decide +kernel), List.mem_of_getElem? (i := 1510) (by decide +kernel)⟩
theorem lw_p69 : lw_okq (⟨"SilkRiseModel", "comesOut", "(Z)V"⟩, 82) := ⟨⟨by decide +kernel, by decide +kernel⟩, List.mem_of_getElem? (i := 1131) (by decide +kernel), List.mem_of_getElem? (i := 1513) (by decide +kernel), List.mem_of_getElem? (i := 1514) (by decide +kernel)⟩
theorem lw_p70 : lw_okq (⟨"SilkRiseModel", "term", "()V"⟩, 82) := ⟨⟨by decide +kernel, by decide +kernel⟩, List.mem_of_getElem? (i := 1131) (by decide +kernel), List.mem_of_getElem? (i := 1517) (by decide +kernel), List.mem_of_getElem? (i := 1518) (by decide +kernel)⟩
theorem lw_p71 : lw_okq (⟨"SilkRiseModel", "isLoad", "(I)Z"⟩, 82) := ⟨⟨by decide +kernel, by decide +kernel⟩, List.mem_of_getElem? (i := 1131) (by decide +kernel), List.mem_of_getElem? (i := 1529) (by decide +kernel), List.mem_of_getElem? (i := 1530) (by decide +kernel)⟩
theorem lw_p72 : lw_okq (⟨"SilkRiseModel", "isSilk", "(I)Z"⟩, 82) := ⟨⟨by decide +kernel, by decide +kernel⟩, List.mem_of_getElem? (i := 1131) (by decide +kernel), List.mem_of_getElem? (i := 1540) (by decide +kernel), List.mem_of_getElem? (i := 1541) (by decide +kernel)⟩
theorem lw_p73 : lw_okq (⟨"SilkRiseModel", "isHook", "(I)Z"⟩, 82) := ⟨⟨by decide +kernel, by decide +kernel⟩, List.mem_of_getElem? (i := 1131) (by decide +kernel), List.mem_of_getElem? (i := 1552) (by decide +kernel), List.mem_of_getElem? (i := 1553) (by decide +kernel)⟩
theorem lw_p74 : lw_okq (⟨"SilkRiseModel", "copies", "()V"⟩, 82) := ⟨⟨by decide +kernel, by decide +kernel⟩, List.mem_of_getElem? (i := 1131) (by decide +kernel), List.mem_of_getElem? (i := 1560) (by decide +kernel), List.mem_of_getElem? (i := 1561) (by decide +kernel)⟩
theorem lw_p75 : lw_okq (⟨"SilkRiseModel", "upNow", "()I"⟩, 82) := ⟨⟨by decide +kernel, by decide +kernel⟩, List.mem_of_getElem? (i := 1131) (by decide +kernel), List.mem_of_getElem? (i := 1564) (by decide +kernel), List.mem_of_getElem? (i := 1565) (by decide +kernel)⟩
theorem lw_p76 : lw_okq (⟨"SilkRiseModel", "loadsSo", "(I)I"⟩, 82) := ⟨⟨by decide +kernel, by decide +kernel⟩, List.mem_of_getElem? (i := 1131) (by decide +kernel), List.mem_of_getElem? (i := 1568) (by decide +kernel), List.mem_of_getElem? (i := 1569) (by decide +kernel)⟩
theorem lw_p77 : lw_okq (⟨"SilkRiseModel", "liftBy", "(IIIIII)I"⟩, 82) := ⟨⟨by decide +kernel, by decide +kernel⟩, List.mem_of_getElem? (i := 1131) (by decide +kernel), List.mem_of_getElem? (i := 1575) (by decide +kernel), List.mem_of_getElem? (i := 1576) (by decide +kernel)⟩
theorem lw_p78 : lw_okq (⟨"SilkRiseModel", "looks", "(II)V"⟩, 82) := ⟨⟨by decide +kernel, by decide +kernel⟩, List.mem_of_getElem? (i := 1131) (by decide +kernel), List.mem_of_getElem? (i := 1579) (by decide +kernel), List.mem_of_getElem? (i := 1580) (by decide +kernel)⟩
theorem lw_p79 : lw_okq (⟨"SilkRiseModel", "lawTells", "(II)I"⟩, 82) := ⟨⟨by decide +kernel, by decide +kernel⟩, List.mem_of_getElem? (i := 1131) (by decide +kernel), List.mem_of_getElem? (i := 1583) (by decide +kernel), List.mem_of_getElem? (i := 1584) (by decide +kernel)⟩
def lw_privs_5 : List (MethodName × Nat) := [(⟨"SilkRiseModel", "toldInt", "(II)I"⟩, 82), (⟨"SilkRiseModel", "tellLaw", "(I)V"⟩, 82), (⟨"SilkRiseModel", "expression", "()V"⟩, 82), (⟨"SilkRiseModel", "unit", "()V"⟩, 82), (⟨"SilkRiseModel", "emit", "(II)V"⟩, 82), (⟨"SilkRiseModel", "comesOut", "(Z)V"⟩, 82), (⟨"SilkRiseModel", "term", "()V"⟩, 82), (⟨"SilkRiseModel", "isLoad", "(I)Z"⟩, 82), (⟨"SilkRiseModel", "isSilk", "(I)Z"⟩, 82), (⟨"SilkRiseModel", "isHook", "(I)Z"⟩, 82), (⟨"SilkRiseModel", "copies", "()V"⟩, 82), (⟨"SilkRiseModel", "upNow", "()I"⟩, 82), (⟨"SilkRiseModel", "loadsSo", "(I)I"⟩, 82), (⟨"SilkRiseModel", "liftBy", "(IIIIII)I"⟩, 82), (⟨"SilkRiseModel", "looks", "(II)V"⟩, 82), (⟨"SilkRiseModel", "lawTells", "(II)I"⟩, 82)]
theorem lw_r5 : ∀ q ∈ lw_privs_5, lw_okq q := List.forall_mem_cons.mpr ⟨lw_p64, List.forall_mem_cons.mpr ⟨lw_p65, List.forall_mem_cons.mpr ⟨lw_p66, List.forall_mem_cons.mpr ⟨lw_p67, List.forall_mem_cons.mpr ⟨lw_p68, List.forall_mem_cons.mpr ⟨lw_p69, List.forall_mem_cons.mpr ⟨lw_p70, List.forall_mem_cons.mpr ⟨lw_p71, List.forall_mem_cons.mpr ⟨lw_p72, List.forall_mem_cons.mpr ⟨lw_p73, List.forall_mem_cons.mpr ⟨lw_p74, List.forall_mem_cons.mpr ⟨lw_p75, List.forall_mem_cons.mpr ⟨lw_p76, List.forall_mem_cons.mpr ⟨lw_p77, List.forall_mem_cons.mpr ⟨lw_p78, List.forall_mem_cons.mpr ⟨lw_p79, fun _ h => absurd h List.not_mem_nil⟩⟩⟩⟩⟩⟩⟩⟩⟩⟩⟩⟩⟩⟩⟩⟩
theorem lw_p80 : lw_okq (⟨"SilkRiseModel", "termOf", "(II)I"⟩, 82) := ⟨⟨by decide +kernel, by decide +kernel⟩, List.mem_of_getElem? (i := 1131) (by decide +kernel), List.mem_of_getElem? (i := 1587) (by decide +kernel), List.mem_of_getElem? (i := 1588) (by decide +kernel)⟩
theorem lw_p81 : lw_okq (⟨"SilkRiseModel", "windBy", "(IIII)I"⟩, 82) := ⟨⟨by decide +kernel, by decide +kernel⟩, List.mem_of_getElem? (i := 1131) (by decide +kernel), List.mem_of_getElem? (i := 1594) (by decide +kernel), List.mem_of_getElem? (i := 1595) (by decide +kernel)⟩
theorem lw_p82 : lw_okq (⟨"SilkRiseModel", "tiesBy", "(IIII)I"⟩, 82) := ⟨⟨by decide +kernel, by decide +kernel⟩, List.mem_of_getElem? (i := 1131) (by decide +kernel), List.mem_of_getElem? (i := 1598) (by decide +kernel), List.mem_of_getElem? (i := 1599) (by decide +kernel)⟩
theorem lw_p83 : lw_okq (⟨"SilkRiseModel", "paysBy", "(III)I"⟩, 82) := ⟨⟨by decide +kernel, by decide +kernel⟩, List.mem_of_getElem? (i := 1131) (by decide +kernel), List.mem_of_getElem? (i := 1602) (by decide +kernel), List.mem_of_getElem? (i := 1603) (by decide +kernel)⟩
theorem lw_p84 : lw_okq (⟨"SilkRiseModel", "areBoth", "(II)Z"⟩, 82) := ⟨⟨by decide +kernel, by decide +kernel⟩, List.mem_of_getElem? (i := 1131) (by decide +kernel), List.mem_of_getElem? (i := 1610) (by decide +kernel), List.mem_of_getElem? (i := 1611) (by decide +kernel)⟩
theorem lw_p85 : lw_okq (⟨"SilkRiseModel", "areAtFoot", "(II)Z"⟩, 82) := ⟨⟨by decide +kernel, by decide +kernel⟩, List.mem_of_getElem? (i := 1131) (by decide +kernel), List.mem_of_getElem? (i := 1614) (by decide +kernel), List.mem_of_getElem? (i := 1615) (by decide +kernel)⟩
theorem lw_p86 : lw_okq (⟨"SilkRiseModel", "records", "()V"⟩, 82) := ⟨⟨by decide +kernel, by decide +kernel⟩, List.mem_of_getElem? (i := 1131) (by decide +kernel), List.mem_of_getElem? (i := 1618) (by decide +kernel), List.mem_of_getElem? (i := 1619) (by decide +kernel)⟩
theorem lw_p87 : lw_okq (⟨"SilkRiseModel", "goes", "(I)V"⟩, 82) := ⟨⟨by decide +kernel, by decide +kernel⟩, List.mem_of_getElem? (i := 1131) (by decide +kernel), List.mem_of_getElem? (i := 1634) (by decide +kernel), List.mem_of_getElem? (i := 1635) (by decide +kernel)⟩
theorem lw_p88 : lw_okq (⟨"SilkRiseModel", "hourGoes", "()V"⟩, 82) := ⟨⟨by decide +kernel, by decide +kernel⟩, List.mem_of_getElem? (i := 1131) (by decide +kernel), List.mem_of_getElem? (i := 1638) (by decide +kernel), List.mem_of_getElem? (i := 1639) (by decide +kernel)⟩
theorem lw_p89 : lw_okq (⟨"SilkRiseModel", "isGust", "()Z"⟩, 82) := ⟨⟨by decide +kernel, by decide +kernel⟩, List.mem_of_getElem? (i := 1131) (by decide +kernel), List.mem_of_getElem? (i := 1642) (by decide +kernel), List.mem_of_getElem? (i := 1643) (by decide +kernel)⟩
theorem lw_p90 : lw_okq (⟨"SilkRiseModel", "handsFree", "()V"⟩, 82) := ⟨⟨by decide +kernel, by decide +kernel⟩, List.mem_of_getElem? (i := 1131) (by decide +kernel), List.mem_of_getElem? (i := 1650) (by decide +kernel), List.mem_of_getElem? (i := 1651) (by decide +kernel)⟩
theorem lw_p91 : lw_okq (⟨"SilkRiseModel", "looksOn", "(IIZ)V"⟩, 82) := ⟨⟨by decide +kernel, by decide +kernel⟩, List.mem_of_getElem? (i := 1131) (by decide +kernel), List.mem_of_getElem? (i := 1654) (by decide +kernel), List.mem_of_getElem? (i := 1655) (by decide +kernel)⟩
theorem lw_p92 : lw_okq (⟨"SilkRiseModel", "comesUp", "(I)V"⟩, 82) := ⟨⟨by decide +kernel, by decide +kernel⟩, List.mem_of_getElem? (i := 1131) (by decide +kernel), List.mem_of_getElem? (i := 1658) (by decide +kernel), List.mem_of_getElem? (i := 1659) (by decide +kernel)⟩
theorem lw_p93 : lw_okq (⟨"SilkRiseModel", "hookAt", "(I)I"⟩, 82) := ⟨⟨by decide +kernel, by decide +kernel⟩, List.mem_of_getElem? (i := 1131) (by decide +kernel), List.mem_of_getElem? (i := 1662) (by decide +kernel), List.mem_of_getElem? (i := 1663) (by decide +kernel)⟩
theorem lw_p94 : lw_okq (⟨"SilkRiseModel", "isDown", "(II)V"⟩, 82) := ⟨⟨by decide +kernel, by decide +kernel⟩, List.mem_of_getElem? (i := 1131) (by decide +kernel), List.mem_of_getElem? (i := 1669) (by decide +kernel), List.mem_of_getElem? (i := 1670) (by decide +kernel)⟩
theorem lw_p95 : lw_okq (⟨"SilkRiseModel", "fliesFrom", "(IIII)V"⟩, 82) := ⟨⟨by decide +kernel, by decide +kernel⟩, List.mem_of_getElem? (i := 1131) (by decide +kernel), List.mem_of_getElem? (i := 1681) (by decide +kernel), List.mem_of_getElem? (i := 1682) (by decide +kernel)⟩
def lw_privs_6 : List (MethodName × Nat) := [(⟨"SilkRiseModel", "termOf", "(II)I"⟩, 82), (⟨"SilkRiseModel", "windBy", "(IIII)I"⟩, 82), (⟨"SilkRiseModel", "tiesBy", "(IIII)I"⟩, 82), (⟨"SilkRiseModel", "paysBy", "(III)I"⟩, 82), (⟨"SilkRiseModel", "areBoth", "(II)Z"⟩, 82), (⟨"SilkRiseModel", "areAtFoot", "(II)Z"⟩, 82), (⟨"SilkRiseModel", "records", "()V"⟩, 82), (⟨"SilkRiseModel", "goes", "(I)V"⟩, 82), (⟨"SilkRiseModel", "hourGoes", "()V"⟩, 82), (⟨"SilkRiseModel", "isGust", "()Z"⟩, 82), (⟨"SilkRiseModel", "handsFree", "()V"⟩, 82), (⟨"SilkRiseModel", "looksOn", "(IIZ)V"⟩, 82), (⟨"SilkRiseModel", "comesUp", "(I)V"⟩, 82), (⟨"SilkRiseModel", "hookAt", "(I)I"⟩, 82), (⟨"SilkRiseModel", "isDown", "(II)V"⟩, 82), (⟨"SilkRiseModel", "fliesFrom", "(IIII)V"⟩, 82)]
theorem lw_r6 : ∀ q ∈ lw_privs_6, lw_okq q := List.forall_mem_cons.mpr ⟨lw_p80, List.forall_mem_cons.mpr ⟨lw_p81, List.forall_mem_cons.mpr ⟨lw_p82, List.forall_mem_cons.mpr ⟨lw_p83, List.forall_mem_cons.mpr ⟨lw_p84, List.forall_mem_cons.mpr ⟨lw_p85, List.forall_mem_cons.mpr ⟨lw_p86, List.forall_mem_cons.mpr ⟨lw_p87, List.forall_mem_cons.mpr ⟨lw_p88, List.forall_mem_cons.mpr ⟨lw_p89, List.forall_mem_cons.mpr ⟨lw_p90, List.forall_mem_cons.mpr ⟨lw_p91, List.forall_mem_cons.mpr ⟨lw_p92, List.forall_mem_cons.mpr ⟨lw_p93, List.forall_mem_cons.mpr ⟨lw_p94, List.forall_mem_cons.mpr ⟨lw_p95, fun _ h => absurd h List.not_mem_nil⟩⟩⟩⟩⟩⟩⟩⟩⟩⟩⟩⟩⟩⟩⟩⟩
theorem lw_p96 : lw_okq (⟨"SilkRiseModel", "fliesOn", "(IIIIII)V"⟩, 82) := ⟨⟨by decide +kernel, by decide +kernel⟩, List.mem_of_getElem? (i := 1131) (by decide +kernel), List.mem_of_getElem? (i := 1685) (by decide +kernel), List.mem_of_getElem? (i := 1686) (by decide +kernel)⟩
theorem lw_p97 : lw_okq (⟨"SilkRiseModel", "beginsFlight", "(I)V"⟩, 82) := ⟨⟨by decide +kernel, by decide +kernel⟩, List.mem_of_getElem? (i := 1131) (by decide +kernel), List.mem_of_getElem? (i := 1689) (by decide +kernel), List.mem_of_getElem? (i := 1690) (by decide +kernel)⟩
theorem lw_p98 : lw_okq (⟨"SilkRiseModel", "flies", "(IIIII)V"⟩, 82) := ⟨⟨by decide +kernel, by decide +kernel⟩, List.mem_of_getElem? (i := 1131) (by decide +kernel), List.mem_of_getElem? (i := 1693) (by decide +kernel), List.mem_of_getElem? (i := 1694) (by decide +kernel)⟩
theorem lw_p99 : lw_okq (⟨"SilkRiseModel", "fillsBrings", "()V"⟩, 82) := ⟨⟨by decide +kernel, by decide +kernel⟩, List.mem_of_getElem? (i := 1131) (by decide +kernel), List.mem_of_getElem? (i := 1718) (by decide +kernel), List.mem_of_getElem? (i := 1719) (by decide +kernel)⟩
theorem lw_p100 : lw_okq (⟨"SilkRiseModel", "isWay", "(I)Z"⟩, 82) := ⟨⟨by decide +kernel, by decide +kernel⟩, List.mem_of_getElem? (i := 1131) (by decide +kernel), List.mem_of_getElem? (i := 1725) (by decide +kernel), List.mem_of_getElem? (i := 1726) (by decide +kernel)⟩
theorem lw_p101 : lw_okq (⟨"SilkRiseModel", "bringsAll", "(I)I"⟩, 82) := ⟨⟨by decide +kernel, by decide +kernel⟩, List.mem_of_getElem? (i := 1131) (by decide +kernel), List.mem_of_getElem? (i := 1729) (by decide +kernel), List.mem_of_getElem? (i := 1730) (by decide +kernel)⟩
theorem lw_p102 : lw_okq (⟨"SilkRiseModel", "hooksFor", "(I)I"⟩, 82) := ⟨⟨by decide +kernel, by decide +kernel⟩, List.mem_of_getElem? (i := 1131) (by decide +kernel), List.mem_of_getElem? (i := 1737) (by decide +kernel), List.mem_of_getElem? (i := 1738) (by decide +kernel)⟩
theorem lw_p103 : lw_okq (⟨"SilkRiseModel", "pullBits", "(I)I"⟩, 82) := ⟨⟨by decide +kernel, by decide +kernel⟩, List.mem_of_getElem? (i := 1131) (by decide +kernel), List.mem_of_getElem? (i := 1775) (by decide +kernel), List.mem_of_getElem? (i := 1776) (by decide +kernel)⟩
theorem lw_p104 : lw_okq (⟨"SilkRiseModel", "isSo", "(II)Z"⟩, 82) := ⟨⟨by decide +kernel, by decide +kernel⟩, List.mem_of_getElem? (i := 1131) (by decide +kernel), List.mem_of_getElem? (i := 1779) (by decide +kernel), List.mem_of_getElem? (i := 1780) (by decide +kernel)⟩
def lw_privs_7 : List (MethodName × Nat) := [(⟨"SilkRiseModel", "fliesOn", "(IIIIII)V"⟩, 82), (⟨"SilkRiseModel", "beginsFlight", "(I)V"⟩, 82), (⟨"SilkRiseModel", "flies", "(IIIII)V"⟩, 82), (⟨"SilkRiseModel", "fillsBrings", "()V"⟩, 82), (⟨"SilkRiseModel", "isWay", "(I)Z"⟩, 82), (⟨"SilkRiseModel", "bringsAll", "(I)I"⟩, 82), (⟨"SilkRiseModel", "hooksFor", "(I)I"⟩, 82), (⟨"SilkRiseModel", "pullBits", "(I)I"⟩, 82), (⟨"SilkRiseModel", "isSo", "(II)Z"⟩, 82)]
theorem lw_r7 : ∀ q ∈ lw_privs_7, lw_okq q := List.forall_mem_cons.mpr ⟨lw_p96, List.forall_mem_cons.mpr ⟨lw_p97, List.forall_mem_cons.mpr ⟨lw_p98, List.forall_mem_cons.mpr ⟨lw_p99, List.forall_mem_cons.mpr ⟨lw_p100, List.forall_mem_cons.mpr ⟨lw_p101, List.forall_mem_cons.mpr ⟨lw_p102, List.forall_mem_cons.mpr ⟨lw_p103, List.forall_mem_cons.mpr ⟨lw_p104, fun _ h => absurd h List.not_mem_nil⟩⟩⟩⟩⟩⟩⟩⟩⟩
def lw_privs : List (MethodName × Nat) := lw_privs_1 ++ (lw_privs_2 ++ (lw_privs_3 ++ (lw_privs_4 ++ (lw_privs_5 ++ (lw_privs_6 ++ (lw_privs_7))))))
def lw_tbl : List Cond := k2_sels lw_privs ++ tables_1
theorem lw_privs_ok : ∀ q ∈ lw_privs, lw_okq q := by
  show ∀ q ∈ lw_privs_1 ++ (lw_privs_2 ++ (lw_privs_3 ++ (lw_privs_4 ++ (lw_privs_5 ++ (lw_privs_6 ++ (lw_privs_7)))))), lw_okq q
  exact List.forall_mem_append.mpr ⟨lw_r1, List.forall_mem_append.mpr ⟨lw_r2, List.forall_mem_append.mpr ⟨lw_r3, List.forall_mem_append.mpr ⟨lw_r4, List.forall_mem_append.mpr ⟨lw_r5, List.forall_mem_append.mpr ⟨lw_r6, lw_r7⟩⟩⟩⟩⟩⟩
end
section
def va_AOA (t : FieldType) (U : State) : Prop := (Cond.arrayOver (.array t)).before #[] U = true
theorem va_AOA.use {t : FieldType} {A : Array Value} {U : State} (h : va_AOA t U) : (Cond.arrayOver (.array t)).before A U = true := h
/-! ===== BEGIN new T[n][m]: the outer array a place, the inner ones among the pooled ===== -/
/-- f, but v at every address of l -/
def vr_up {α : Type} (f : Nat → α) (l : List Nat) (v : α) : Nat → α := fun a => if a ∈ l then v else f a
theorem vr_up_in {α : Type} {f : Nat → α} {l : List Nat} {v : α} {a : Nat} (h : a ∈ l) : vr_up f l v a = v := if_pos h
theorem vr_up_ne {α : Type} {f : Nat → α} {l : List Nat} {v : α} {a : Nat} (h : a ∉ l) : vr_up f l v a = f a := if_neg h
theorem vr_rows {L l : List Nat} {f : Nat → va_E} {e : va_E} (h : ∀ a, a ∈ l → a ∉ L) : va_pl L f ++ l.map (fun a => (a, e)) = va_pl (L ++ l) (vr_up f l e) := by
  unfold va_pl
  rw [List.map_append]
  congr 1
  · apply List.map_congr_left
    intro a ha
    rw [vr_up_ne (fun q => h a q ha)]
  · apply List.map_congr_left
    intro a ha
    rw [vr_up_in ha]
theorem vr_lay {X rows : va_W} {x : Nat × va_E} {pl : va_W} {D : va_G} {cl : List vw_C} {H : Heap} (hP : va_P D cl (((X ++ pl) ++ [x]) ++ rows) H) : va_P D cl ((X ++ [x]) ++ (pl ++ rows)) H := by
  rw [List.append_assoc (X ++ pl)] at hP
  have h := va_P.swap hP
  rw [← List.append_assoc X] at h
  have h2 := va_P.swap h
  rw [List.append_assoc (X ++ [x])] at h2
  exact h2
theorem vr_layD {X rows : va_W} {x : Nat × va_E} {pl : va_W} {A : Nat → Prop} (hD : va_D A (((X ++ pl) ++ [x]) ++ rows)) : va_D A ((X ++ [x]) ++ (pl ++ rows)) := by
  rw [List.append_assoc (X ++ pl)] at hD
  have h := va_D.swap hD
  rw [← List.append_assoc X] at h
  have h2 := va_D.swap h
  rw [List.append_assoc (X ++ [x])] at h2
  exact h2
theorem vr_outer (c : ClassId) (N h0 : Nat) : ∀ i : Nat, Jvm.Free.Multi.outerC c N h0 i = arrV c N (fun j => va_rf (if j < i then some (h0 + 1 + j) else none))
  | 0 => by
    show ({ cls := c, slots := Array.replicate N .null, vm := .none } : Cell) = _
    rw [arrV_new]
    refine congrArg (arrV c N) (funext fun j => ?_)
    simp [va_rf]
  | i + 1 => by
    show (Jvm.Free.Multi.outerC c N h0 i).setSlot i (.ref (h0 + 1 + i)) = _
    rw [vr_outer c N h0 i, arrV_store]
    refine congrArg (arrV c N) (funext fun j => ?_)
    by_cases e : j = i
    · subst e
      simp [updV, va_rf]
    · by_cases h : j < i
      · simp [updV, e, h, Nat.lt_succ_of_lt h]
      · simp [updV, e, h, show ¬ j < i + 1 by omega]
section VGM
variable {p : Program} {l : Launch} {e : Env} {R : Room} {s : State} {m : MethodId} {args : Array Value} {below : List Frame} {meth : Method} {c : Code} {H : Heap} {locs : List Loc} {cells slots : Nat} {Q : State → Prop}
variable {cc : ByteArray} {pc : Nat} {ls : Array Slot} {rest : List Value} {D : va_G} {cl : List vw_C} {A : Nat → Prop} {a : Nat} {tys : List (ClassId × FieldType)} {ws : va_W} {H0 : Heap}
theorem va_mna {X : va_W} {L : List Nat} {f : Nat → va_E} {cc : ByteArray} (hexec : p.tables.exec = Jvm.exec) (hb : c.code = cc) {own : String} {index : Nat} {ty : FieldType} {cy : ClassId} (hown : s.vm.findClass own = some m.cls) (hclink : (Cond.classLink own index ("[" ++ (FieldType.array ty).toString)).before args s = true) (hover : va_AOA ty s) (harr : (Cond.arrayClass ty).before args s = true) (hcy : s.vm.findClass (FieldType.array ty).toString = some cy)
    (hK : va_K D cl tys s) (hP : va_P D cl (X ++ va_pl L f) H) (hD : va_D A (X ++ va_pl L f)) (hS : va_S A H0 H locs) (hA : ∀ q, H0.size ≤ q → A q) {n k : Int32} {N' K' : Nat} {z : vp_A} (hn : ¬ n < 0) (hk : ¬ k < 0) (hN : n.toNatClampNeg = N') (hM : k.toNatClampNeg = K')
    (hb1 : N' * 4 ≤ 536870912) (hb2 : K' * componentBytes ty ≤ 536870912) (hb3 : K' ≤ 536870912) (hdf : fits ty (defaultValue ty) = true) (hdd : (defaultValue ty).isDefault = true) (hcells : cells + (1 + N') ≤ R.cells) (hslots : slots + (N' + N' * K') ≤ R.slots) (hz : ∀ c : ClassId, Jvm.Free.Multi.innerC c K' (defaultValue ty) = vp_cell c z) (hdg : decode cc pc = .ok (.multianewarray index 2, 4))
    (kk : ∀ (q : Nat) (r : Nat → Nat) (cA : ClassId) (H1 : Heap), (∀ i j : Nat, i < N' → j < N' → r i = r j → i = j) → (∀ i : Nat, i < N' → r i ∉ L) → va_K D cl (tys ++ [(cA, .array ty)]) s →
      va_P D cl ((X ++ [(q, .inl (cA, N', .inr (.inr (.inr (.inr (fun i => if i < N' then some (r i) else none))))))]) ++ va_pl (L ++ (List.range N').map r) (vr_up f ((List.range N').map r) (.inl (cy, z)))) H1 → va_D A ((X ++ [(q, .inl (cA, N', .inr (.inr (.inr (.inr (fun i => if i < N' then some (r i) else none))))))]) ++ va_pl (L ++ (List.range N').map r) (vr_up f ((List.range N').map r) (.inl (cy, z)))) → va_S A H0 H1 locs →
      W p l e R s m args below meth c H1 locs (cells + 1 + N') (slots + N' + N' * K') Q (F0 m (pc + 4) ls (.ref q :: rest))) : W p l e R s m args below meth c H locs cells slots Q (F0 m pc ls (.int k :: .int n :: rest)) := by
  subst hN
  subst hM
  intro T hT Xs
  obtain ⟨vm₁, cA, comp, -, fA, fC, hO, -, X', step⟩ := Xs.multianewarray2F hexec hown hclink (va_AOA.use hover) harr (g := F0 m pc ls (.int k :: .int n :: rest)) rfl (by rw [hb]; exact hdg) rfl hn hk hb1 hb2 hb3 hdf hdd hcells hslots
  have ec : some cy = some comp := hcy.symm.trans fC
  cases ec
  generalize hF : Jvm.Free.Multi.fill (T.setVm vm₁) cA cy n.toNatClampNeg k.toNatClampNeg (defaultValue ty) n.toNatClampNeg = F at X' step
  have hTh : (T.setVm vm₁).heap = H := hT
  obtain ⟨f1, f2, -, -⟩ := Jvm.Free.Multi.fill_facts (T.setVm vm₁) cA cy n.toNatClampNeg k.toNatClampNeg (defaultValue ty) n.toNatClampNeg
  rw [hF, hTh] at f1 f2
  have hold : ∀ x : Nat, x < H.size → F.heap[x]? = H[x]? := fun x hx => by
    have := Jvm.Free.Multi.fill_old (T.setVm vm₁) cA cy n.toNatClampNeg k.toNatClampNeg (defaultValue ty) (a := x) (by rw [hTh]; exact hx) n.toNatClampNeg
    rw [hF, hTh] at this
    exact this
  have hrow : ∀ j : Nat, j < n.toNatClampNeg → F.heap[H.size + 1 + j]? = some (vp_cell cy z) := fun j hj => by
    have := Jvm.Free.Multi.fill_inner (T.setVm vm₁) cA cy n.toNatClampNeg k.toNatClampNeg (defaultValue ty) n.toNatClampNeg j hj
    rw [hF, hTh, hz] at this
    exact this
  have hout : Jvm.Free.Multi.outerC cA n.toNatClampNeg H.size n.toNatClampNeg = vp_cell cA (n.toNatClampNeg, .inr (.inr (.inr (.inr (fun i => if i < n.toNatClampNeg then some (H.size + 1 + i) else none))))) := by
    rw [vp_cell_q]
    exact vr_outer cA n.toNatClampNeg H.size n.toNatClampNeg
  rw [hout] at f2
  have hlt : ∀ a, a ∈ L → a < H.size := fun a ha => by
    obtain ⟨k9, hk9⟩ := va_pl_get (X := X) (f := f) ha
    exact (hP k9 _ hk9).lt
  have hnl : ∀ i : Nat, i < n.toNatClampNeg → H.size + 1 + i ∉ L := fun i _ h => by
    have := hlt _ h
    omega
  have hnm : ∀ a, a ∈ (List.range n.toNatClampNeg).map (fun i => H.size + 1 + i) → a ∉ L := fun a ha h => by
    obtain ⟨i, -, rfl⟩ := List.mem_map.mp ha
    have := hlt _ h
    omega
  have hP0 : va_P D cl (X ++ va_pl L f) F.heap := hP.kept (fun k9 x hx => hold x.1 ((hP k9 x hx).lt))
  have hP1 : va_P D cl ((X ++ va_pl L f) ++ [(H.size, .inl (cA, n.toNatClampNeg, .inr (.inr (.inr (.inr (fun i => if i < n.toNatClampNeg then some (H.size + 1 + i) else none))))))]) F.heap := hP0.app (fun k9 x hx => by
    have h0 : k9 < 1 := (List.getElem?_eq_some_iff.mp hx).1
    rw [show k9 = 0 by omega] at hx
    cases hx
    exact f2)
  have hP2 : va_P D cl (((X ++ va_pl L f) ++ [(H.size, .inl (cA, n.toNatClampNeg, .inr (.inr (.inr (.inr (fun i => if i < n.toNatClampNeg then some (H.size + 1 + i) else none))))))]) ++ ((List.range n.toNatClampNeg).map (fun i => H.size + 1 + i)).map (fun a => (a, .inl (cy, z)))) F.heap := hP1.app (fun k9 x hx => by
    obtain ⟨a, ha, rfl⟩ := List.mem_map.mp (List.mem_of_getElem? hx)
    obtain ⟨i, hi, rfl⟩ := List.mem_map.mp ha
    exact hrow i (List.mem_range.mp hi))
  have hD2 : va_D A (((X ++ va_pl L f) ++ [(H.size, .inl (cA, n.toNatClampNeg, .inr (.inr (.inr (.inr (fun i => if i < n.toNatClampNeg then some (H.size + 1 + i) else none))))))]) ++ ((List.range n.toNatClampNeg).map (fun i => H.size + 1 + i)).map (fun a => (a, .inl (cy, z)))) := by
    have hD1 := hD.push (e := .inl (cA, n.toNatClampNeg, .inr (.inr (.inr (.inr (fun i => if i < n.toNatClampNeg then some (H.size + 1 + i) else none)))))) hP rfl (hA _ hS.1)
    generalize hW1 : (X ++ va_pl L f) ++ [(H.size, .inl (cA, n.toNatClampNeg, .inr (.inr (.inr (.inr (fun i => if i < n.toNatClampNeg then some (H.size + 1 + i) else none))))))] = W1 at hD1 hP1 ⊢
    have hle : ∀ (k9 : Nat) (x : Nat × va_E), W1[k9]? = some x → x.1 ≤ H.size := fun k9 x hx => by
      rw [← hW1] at hx
      by_cases hl : k9 < (X ++ va_pl L f).length
      · rw [List.getElem?_append_left hl] at hx
        exact Nat.le_of_lt ((hP k9 x hx).lt)
      · rw [List.getElem?_append_right (by omega)] at hx
        have h0 : k9 - (X ++ va_pl L f).length < 1 := (List.getElem?_eq_some_iff.mp hx).1
        rw [show k9 - (X ++ va_pl L f).length = 0 by omega] at hx
        cases hx
        exact Nat.le_refl _
    have hr : ∀ (k9 : Nat) (x : Nat × va_E), (((List.range n.toNatClampNeg).map (fun i => H.size + 1 + i)).map (fun a => ((a, .inl (cy, z)) : Nat × va_E)))[k9]? = some x → x.1 = H.size + 1 + k9 := fun k9 x hx => by
      rw [List.getElem?_map, List.getElem?_map] at hx
      by_cases h9 : k9 < n.toNatClampNeg
      · rw [List.getElem?_range h9] at hx
        cases hx
        rfl
      · have hn0 : (List.range n.toNatClampNeg)[k9]? = none := List.getElem?_eq_none (by rw [List.length_range]; omega)
        rw [hn0] at hx
        cases hx
    refine ⟨fun i j x y hi hj hxy => ?_, fun k9 x hx => ?_⟩
    · by_cases h1 : i < W1.length <;> by_cases h2 : j < W1.length
      · rw [List.getElem?_append_left h1] at hi
        rw [List.getElem?_append_left h2] at hj
        exact hD1.1 i j x y hi hj hxy
      · rw [List.getElem?_append_left h1] at hi
        rw [List.getElem?_append_right (by omega)] at hj
        have := hle _ _ hi
        have := hr _ _ hj
        omega
      · rw [List.getElem?_append_right (by omega)] at hi
        rw [List.getElem?_append_left h2] at hj
        have := hle _ _ hj
        have := hr _ _ hi
        omega
      · rw [List.getElem?_append_right (by omega)] at hi hj
        have := hr _ _ hi
        have := hr _ _ hj
        omega
    · by_cases h1 : k9 < W1.length
      · rw [List.getElem?_append_left h1] at hx
        exact hD1.2 k9 x hx
      · rw [List.getElem?_append_right (by omega)] at hx
        have := hr _ _ hx
        exact hA _ (by have := hS.1; omega)
  have hAr : ArrOfT s cA (.array ty) := fun N9 z9 => by
    obtain ⟨-, k9, hk9, cm9, hkk9⟩ := (hO 0 0 0).1
    exact ⟨(fun q hq => by cases hq), k9, hk9, cm9, hkk9⟩
  have hK2 : va_K D cl (tys ++ [(cA, .array ty)]) s := ⟨hK.1, fun k9 x hx => by
    by_cases hl : k9 < tys.length
    · rw [List.getElem?_append_left hl] at hx
      exact hK.2 k9 x hx
    · rw [List.getElem?_append_right (by omega)] at hx
      have h0 : k9 - tys.length < 1 := (List.getElem?_eq_some_iff.mp hx).1
      rw [show k9 - tys.length = 0 by omega] at hx
      cases hx
      exact ⟨hAr, fA⟩⟩
  obtain ⟨t, a1, b1⟩ := kk H.size (fun i => H.size + 1 + i) cA F.heap (fun i j _ _ h => by have h9 : H.size + 1 + i = H.size + 1 + j := h; omega) hnl hK2 (by rw [← vr_rows hnm]; exact vr_lay hP2) (by rw [← vr_rows hnm]; exact vr_layD hD2) ⟨by rw [f1]; have := hS.1; omega, fun x h1 h2 => (hold x (Nat.lt_of_lt_of_le h1 hS.1)).trans (hS.2.1 x h1 h2), hS.2.2⟩ F rfl X'
  refine ⟨t, step t ?_, b1⟩
  have e : T.heap.size = H.size := by rw [hT]
  rw [e]
  exact a1
end VGM
/-! ===== END ===== -/
def RX0 : String := "SilkRise$Air"
def TX0 : u_T := fun k => match k with
  | 0 => ("SilkRise$Air", "plan", "LSilkRise$Plan;", true)
  | 1 => ("SilkRise$Air", "sky", "LSilkRise$Sky;", true)
  | _ => ("SilkRise$Air", "handsFull", "[I", true)
def tyX0 : Nat → FieldType := fun k => match k with
  | 0 => .object "SilkRise$Plan"
  | 1 => .object "SilkRise$Sky"
  | _ => .array .int
abbrev wsX00 : List Cond := u_ws RX0 TX0 3
theorem nmX0 : ∀ a, a < 3 → ∀ b, b < 3 → a ≠ b → (TX0 a).2.1 ≠ (TX0 b).2.1 := by decide +kernel
theorem tyX0_ok : ∀ k, k < 3 → parseFieldDescriptor (TX0 k).2.2.1 = some (tyX0 k) := by decide +kernel
theorem zin_0 : ∀ w ∈ u_ws RX0 TX0 3, w ∈ lw_tbl := by decide +kernel
def RX1 : String := "SilkRise$Course"
def TX1 : u_T := fun k => match k with
  | 0 => ("SilkRise$Course", "plan", "LSilkRise$Plan;", true)
  | 1 => ("SilkRise$Course", "now", "LSilkRise$State;", true)
  | 2 => ("SilkRise$Course", "sky", "LSilkRise$Sky;", true)
  | 3 => ("SilkRise$Course", "hours", "I", false)
  | 4 => ("SilkRise$Course", "end", "I", false)
  | 5 => ("SilkRise$Course", "hook", "I", false)
  | 6 => ("SilkRise$Course", "x", "I", false)
  | _ => ("SilkRise$Course", "earned", "I", false)
def tyX1 : Nat → FieldType := fun k => match k with
  | 0 => .object "SilkRise$Plan"
  | 1 => .object "SilkRise$State"
  | 2 => .object "SilkRise$Sky"
  | 3 => .int
  | 4 => .int
  | 5 => .int
  | 6 => .int
  | _ => .int
abbrev wsX10 : List Cond := u_ws RX1 TX1 8
theorem nmX1 : ∀ a, a < 8 → ∀ b, b < 8 → a ≠ b → (TX1 a).2.1 ≠ (TX1 b).2.1 := by decide +kernel
theorem tyX1_ok : ∀ k, k < 8 → parseFieldDescriptor (TX1 k).2.2.1 = some (tyX1 k) := by decide +kernel
theorem zin_1 : ∀ w ∈ u_ws RX1 TX1 8, w ∈ lw_tbl := by decide +kernel
def RX2 : String := "SilkRise$Filling"
def TX2 : u_T := fun k => match k with
  | 0 => ("SilkRise$Filling", "now", "LSilkRise$State;", true)
  | 1 => ("SilkRise$Filling", "sky", "LSilkRise$Sky;", true)
  | 2 => ("SilkRise$Filling", "course", "LSilkRise$Course;", true)
  | 3 => ("SilkRise$Filling", "gains", "[[I", true)
  | 4 => ("SilkRise$Filling", "best", "[[I", true)
  | _ => ("SilkRise$Filling", "hooks", "[I", true)
def tyX2 : Nat → FieldType := fun k => match k with
  | 0 => .object "SilkRise$State"
  | 1 => .object "SilkRise$Sky"
  | 2 => .object "SilkRise$Course"
  | 3 => .array (.array .int)
  | 4 => .array (.array .int)
  | _ => .array .int
abbrev wsX20 : List Cond := u_ws RX2 TX2 6
theorem nmX2 : ∀ a, a < 6 → ∀ b, b < 6 → a ≠ b → (TX2 a).2.1 ≠ (TX2 b).2.1 := by decide +kernel
theorem tyX2_ok : ∀ k, k < 6 → parseFieldDescriptor (TX2 k).2.2.1 = some (tyX2 k) := by decide +kernel
theorem zin_2 : ∀ w ∈ u_ws RX2 TX2 6, w ∈ lw_tbl := by decide +kernel
def RX3 : String := "SilkRise$Laws"
def TX3 : u_T := fun k => match k with
  | 0 => ("SilkRise$Laws", "cells", "[I", true)
  | 1 => ("SilkRise$Laws", "starts", "[I", true)
  | _ => ("SilkRise$Laws", "used", "I", false)
def tyX3 : Nat → FieldType := fun k => match k with
  | 0 => .array .int
  | 1 => .array .int
  | _ => .int
abbrev wsX30 : List Cond := u_ws RX3 TX3 3
theorem nmX3 : ∀ a, a < 3 → ∀ b, b < 3 → a ≠ b → (TX3 a).2.1 ≠ (TX3 b).2.1 := by decide +kernel
theorem tyX3_ok : ∀ k, k < 3 → parseFieldDescriptor (TX3 k).2.2.1 = some (tyX3 k) := by decide +kernel
theorem zin_3 : ∀ w ∈ u_ws RX3 TX3 3, w ∈ lw_tbl := by decide +kernel
def RX4 : String := "SilkRise$Past"
def TX4 : u_T := fun k => match k with
  | 0 => ("SilkRise$Past", "done", "[LSilkRise$State;", true)
  | 1 => ("SilkRise$Past", "next", "I", false)
  | 2 => ("SilkRise$Past", "depth", "I", false)
  | 3 => ("SilkRise$Past", "slots", "[LSilkRise$State;", true)
  | _ => ("SilkRise$Past", "heldSlots", "I", false)
def tyX4 : Nat → FieldType := fun k => match k with
  | 0 => .array (.object "SilkRise$State")
  | 1 => .int
  | 2 => .int
  | 3 => .array (.object "SilkRise$State")
  | _ => .int
abbrev wsX40 : List Cond := u_ws RX4 TX4 5
theorem nmX4 : ∀ a, a < 5 → ∀ b, b < 5 → a ≠ b → (TX4 a).2.1 ≠ (TX4 b).2.1 := by decide +kernel
theorem tyX4_ok : ∀ k, k < 5 → parseFieldDescriptor (TX4 k).2.2.1 = some (tyX4 k) := by decide +kernel
theorem zin_4 : ∀ w ∈ u_ws RX4 TX4 5, w ∈ lw_tbl := by decide +kernel
def RX5 : String := "SilkRise$Plan"
def TX5 : u_T := fun k => match k with
  | 0 => ("SilkRise$Plan", "start", "LSilkRise$State;", true)
  | 1 => ("SilkRise$Plan", "laws", "LSilkRise$Laws;", true)
  | 2 => ("SilkRise$Plan", "rim", "I", false)
  | 3 => ("SilkRise$Plan", "gusts", "I", false)
  | _ => ("SilkRise$Plan", "seed", "I", false)
def tyX5 : Nat → FieldType := fun k => match k with
  | 0 => .object "SilkRise$State"
  | 1 => .object "SilkRise$Laws"
  | 2 => .int
  | 3 => .int
  | _ => .int
abbrev wsX50 : List Cond := u_ws RX5 TX5 5
theorem nmX5 : ∀ a, a < 5 → ∀ b, b < 5 → a ≠ b → (TX5 a).2.1 ≠ (TX5 b).2.1 := by decide +kernel
theorem tyX5_ok : ∀ k, k < 5 → parseFieldDescriptor (TX5 k).2.2.1 = some (tyX5 k) := by decide +kernel
theorem zin_5 : ∀ w ∈ u_ws RX5 TX5 5, w ∈ lw_tbl := by decide +kernel
def RX6 : String := "SilkRise$Reader"
def TX6 : u_T := fun k => match k with
  | 0 => ("SilkRise$Reader", "tokens", "LSilkRise$Tokens;", true)
  | 1 => ("SilkRise$Reader", "draft", "LSilkRise$Plan;", true)
  | 2 => ("SilkRise$Reader", "names", "[J", true)
  | 3 => ("SilkRise$Reader", "named", "I", false)
  | 4 => ("SilkRise$Reader", "taken", "I", false)
  | 5 => ("SilkRise$Reader", "kind", "I", false)
  | 6 => ("SilkRise$Reader", "fault", "I", false)
  | 7 => ("SilkRise$Reader", "faultPlace", "I", false)
  | 8 => ("SilkRise$Reader", "lateFault", "I", false)
  | _ => ("SilkRise$Reader", "latePlace", "I", false)
def tyX6 : Nat → FieldType := fun k => match k with
  | 0 => .object "SilkRise$Tokens"
  | 1 => .object "SilkRise$Plan"
  | 2 => .array .long
  | 3 => .int
  | 4 => .int
  | 5 => .int
  | 6 => .int
  | 7 => .int
  | 8 => .int
  | _ => .int
abbrev wsX60 : List Cond := u_ws RX6 TX6 10
theorem nmX6 : ∀ a, a < 10 → ∀ b, b < 10 → a ≠ b → (TX6 a).2.1 ≠ (TX6 b).2.1 := by decide +kernel
theorem tyX6_ok : ∀ k, k < 10 → parseFieldDescriptor (TX6 k).2.2.1 = some (tyX6 k) := by decide +kernel
theorem zin_6 : ∀ w ∈ u_ws RX6 TX6 10, w ∈ lw_tbl := by decide +kernel
def RX7 : String := "SilkRise$Sky"
def TX7 : u_T := fun k => match k with
  | 0 => ("SilkRise$Sky", "laws", "LSilkRise$Laws;", true)
  | 1 => ("SilkRise$Sky", "vars", "[I", true)
  | _ => ("SilkRise$Sky", "stack", "[I", true)
def tyX7 : Nat → FieldType := fun k => match k with
  | 0 => .object "SilkRise$Laws"
  | 1 => .array .int
  | _ => .array .int
abbrev wsX70 : List Cond := u_ws RX7 TX7 3
theorem nmX7 : ∀ a, a < 3 → ∀ b, b < 3 → a ≠ b → (TX7 a).2.1 ≠ (TX7 b).2.1 := by decide +kernel
theorem tyX7_ok : ∀ k, k < 3 → parseFieldDescriptor (TX7 k).2.2.1 = some (tyX7 k) := by decide +kernel
theorem zin_7 : ∀ w ∈ u_ws RX7 TX7 3, w ∈ lw_tbl := by decide +kernel
def RX8 : String := "SilkRise$State"
def TX8 : u_T := fun k => match k with
  | 0 => ("SilkRise$State", "loads", "LSilkRise$Things;", true)
  | 1 => ("SilkRise$State", "silks", "LSilkRise$Things;", true)
  | 2 => ("SilkRise$State", "hooks", "LSilkRise$Things;", true)
  | 3 => ("SilkRise$State", "hour", "I", false)
  | 4 => ("SilkRise$State", "earned", "I", false)
  | _ => ("SilkRise$State", "paid", "I", false)
def tyX8 : Nat → FieldType := fun k => match k with
  | 0 => .object "SilkRise$Things"
  | 1 => .object "SilkRise$Things"
  | 2 => .object "SilkRise$Things"
  | 3 => .int
  | 4 => .int
  | _ => .int
abbrev wsX80 : List Cond := u_ws RX8 TX8 6
theorem nmX8 : ∀ a, a < 6 → ∀ b, b < 6 → a ≠ b → (TX8 a).2.1 ≠ (TX8 b).2.1 := by decide +kernel
theorem tyX8_ok : ∀ k, k < 6 → parseFieldDescriptor (TX8 k).2.2.1 = some (tyX8 k) := by decide +kernel
theorem zin_8 : ∀ w ∈ u_ws RX8 TX8 6, w ∈ lw_tbl := by decide +kernel
def RX9 : String := "SilkRise$Things"
def TX9 : u_T := fun k => match k with
  | 0 => ("SilkRise$Things", "most", "I", true)
  | 1 => ("SilkRise$Things", "width", "I", true)
  | 2 => ("SilkRise$Things", "cells", "[I", true)
  | _ => ("SilkRise$Things", "size", "I", false)
def tyX9 : Nat → FieldType := fun k => match k with
  | 0 => .int
  | 1 => .int
  | 2 => .array .int
  | _ => .int
abbrev wsX90 : List Cond := u_ws RX9 TX9 4
theorem nmX9 : ∀ a, a < 4 → ∀ b, b < 4 → a ≠ b → (TX9 a).2.1 ≠ (TX9 b).2.1 := by decide +kernel
theorem tyX9_ok : ∀ k, k < 4 → parseFieldDescriptor (TX9 k).2.2.1 = some (tyX9 k) := by decide +kernel
theorem zin_9 : ∀ w ∈ u_ws RX9 TX9 4, w ∈ lw_tbl := by decide +kernel
def RX10 : String := "SilkRise$Tokens"
def TX10 : u_T := fun k => match k with
  | 0 => ("SilkRise$Tokens", "words", "[J", true)
  | 1 => ("SilkRise$Tokens", "kinds", "[I", true)
  | 2 => ("SilkRise$Tokens", "places", "[I", true)
  | 3 => ("SilkRise$Tokens", "values", "[J", true)
  | 4 => ("SilkRise$Tokens", "size", "I", false)
  | 5 => ("SilkRise$Tokens", "tape", "[B", false)
  | 6 => ("SilkRise$Tokens", "tapeSize", "I", false)
  | _ => ("SilkRise$Tokens", "next", "I", false)
def tyX10 : Nat → FieldType := fun k => match k with
  | 0 => .array .long
  | 1 => .array .int
  | 2 => .array .int
  | 3 => .array .long
  | 4 => .int
  | 5 => .array .byte
  | 6 => .int
  | _ => .int
abbrev wsX100 : List Cond := u_ws RX10 TX10 8
theorem nmX10 : ∀ a, a < 8 → ∀ b, b < 8 → a ≠ b → (TX10 a).2.1 ≠ (TX10 b).2.1 := by decide +kernel
theorem tyX10_ok : ∀ k, k < 8 → parseFieldDescriptor (TX10 k).2.2.1 = some (tyX10 k) := by decide +kernel
theorem zin_10 : ∀ w ∈ u_ws RX10 TX10 8, w ∈ lw_tbl := by decide +kernel
def RX11 : String := "SilkRise"
def TX11 : u_T := fun k => match k with
  | 0 => ("SilkRise", "tape", "[B", true)
  | 1 => ("SilkRise", "tapeSize", "I", false)
  | 2 => ("SilkRise", "faultPlace", "I", false)
  | 3 => ("SilkRise", "plan", "LSilkRise$Plan;", true)
  | 4 => ("SilkRise", "draft", "LSilkRise$Plan;", true)
  | 5 => ("SilkRise", "reader", "LSilkRise$Reader;", true)
  | 6 => ("SilkRise", "now", "LSilkRise$State;", true)
  | 7 => ("SilkRise", "trial", "LSilkRise$State;", true)
  | 8 => ("SilkRise", "sky", "LSilkRise$Sky;", true)
  | 9 => ("SilkRise", "air", "LSilkRise$Air;", true)
  | 10 => ("SilkRise", "course", "LSilkRise$Course;", true)
  | 11 => ("SilkRise", "filling", "LSilkRise$Filling;", true)
  | 12 => ("SilkRise", "past", "LSilkRise$Past;", true)
  | _ => ("SilkRise", "told", "LSilkRise$Things;", true)
def tyX11 : Nat → FieldType := fun k => match k with
  | 0 => .array .byte
  | 1 => .int
  | 2 => .int
  | 3 => .object "SilkRise$Plan"
  | 4 => .object "SilkRise$Plan"
  | 5 => .object "SilkRise$Reader"
  | 6 => .object "SilkRise$State"
  | 7 => .object "SilkRise$State"
  | 8 => .object "SilkRise$Sky"
  | 9 => .object "SilkRise$Air"
  | 10 => .object "SilkRise$Course"
  | 11 => .object "SilkRise$Filling"
  | 12 => .object "SilkRise$Past"
  | _ => .object "SilkRise$Things"
abbrev wsX110 : List Cond := u_ws RX11 TX11 14
theorem nmX11 : ∀ a, a < 14 → ∀ b, b < 14 → a ≠ b → (TX11 a).2.1 ≠ (TX11 b).2.1 := by decide +kernel
theorem tyX11_ok : ∀ k, k < 14 → parseFieldDescriptor (TX11 k).2.2.1 = some (tyX11 k) := by decide +kernel
theorem zin_11 : ∀ w ∈ u_ws RX11 TX11 14, w ∈ lw_tbl := by decide +kernel
def RX12 : String := "SilkRiseModel"
def TX12 : u_T := fun k => match k with
  | 0 => ("SilkRiseModel", "thrown", "I", false)
  | 1 => ("SilkRiseModel", "tape", "[B", true)
  | 2 => ("SilkRiseModel", "taped", "I", false)
  | 3 => ("SilkRiseModel", "text", "[B", true)
  | 4 => ("SilkRiseModel", "size", "I", false)
  | 5 => ("SilkRiseModel", "tKind", "[I", true)
  | 6 => ("SilkRiseModel", "tPlace", "[I", true)
  | 7 => ("SilkRiseModel", "tValue", "[I", true)
  | 8 => ("SilkRiseModel", "tName", "[J", true)
  | 9 => ("SilkRiseModel", "keys", "[J", true)
  | 10 => ("SilkRiseModel", "tokens", "I", false)
  | 11 => ("SilkRiseModel", "t", "I", false)
  | 12 => ("SilkRiseModel", "open", "I", false)
  | 13 => ("SilkRiseModel", "fault", "I", false)
  | 14 => ("SilkRiseModel", "faultPlace", "I", false)
  | 15 => ("SilkRiseModel", "worst", "I", false)
  | 16 => ("SilkRiseModel", "worstPlace", "I", false)
  | 17 => ("SilkRiseModel", "place", "I", false)
  | 18 => ("SilkRiseModel", "live", "I", false)
  | 19 => ("SilkRiseModel", "side", "I", false)
  | 20 => ("SilkRiseModel", "names", "I", false)
  | 21 => ("SilkRiseModel", "nameOf", "[J", true)
  | 22 => ("SilkRiseModel", "loads", "[I", true)
  | 23 => ("SilkRiseModel", "xTold", "[I", true)
  | 24 => ("SilkRiseModel", "weightOf", "[I", true)
  | 25 => ("SilkRiseModel", "priceOf", "[I", true)
  | 26 => ("SilkRiseModel", "silks", "[I", true)
  | 27 => ("SilkRiseModel", "sizeOf", "[I", true)
  | 28 => ("SilkRiseModel", "pullTold", "[I", true)
  | 29 => ("SilkRiseModel", "hooks", "[I", true)
  | 30 => ("SilkRiseModel", "hookTold", "[I", true)
  | 31 => ("SilkRiseModel", "reachOf", "[I", true)
  | 32 => ("SilkRiseModel", "handsOf", "[I", true)
  | 33 => ("SilkRiseModel", "rim", "[I", true)
  | 34 => ("SilkRiseModel", "gusts", "[I", true)
  | 35 => ("SilkRiseModel", "seed", "[I", true)
  | 36 => ("SilkRiseModel", "lawFirst", "[I", true)
  | 37 => ("SilkRiseModel", "lawLast", "[I", true)
  | 38 => ("SilkRiseModel", "branches", "I", false)
  | 39 => ("SilkRiseModel", "hasTest", "[Z", true)
  | 40 => ("SilkRiseModel", "testFrom", "[I", true)
  | 41 => ("SilkRiseModel", "testMid", "[I", true)
  | 42 => ("SilkRiseModel", "testTo", "[I", true)
  | 43 => ("SilkRiseModel", "termTo", "[I", true)
  | 44 => ("SilkRiseModel", "codes", "I", false)
  | 45 => ("SilkRiseModel", "code", "[I", true)
  | 46 => ("SilkRiseModel", "codeInt", "[I", true)
  | 47 => ("SilkRiseModel", "waits", "[I", true)
  | 48 => ("SilkRiseModel", "waiting", "I", false)
  | 49 => ("SilkRiseModel", "variables", "[I", true)
  | 50 => ("SilkRiseModel", "pile", "[I", true)
  | 51 => ("SilkRiseModel", "isBroken", "Z", false)
  | 52 => ("SilkRiseModel", "now", "[I", true)
  | 53 => ("SilkRiseModel", "row", "[I", true)
  | 54 => ("SilkRiseModel", "lots", "I", false)
  | 55 => ("SilkRiseModel", "hookedNow", "[I", true)
  | 56 => ("SilkRiseModel", "highThen", "[I", true)
  | 57 => ("SilkRiseModel", "xThen", "[I", true)
  | 58 => ("SilkRiseModel", "paysNow", "[I", true)
  | 59 => ("SilkRiseModel", "undos", "I", false)
  | 60 => ("SilkRiseModel", "history", "[I", true)
  | 61 => ("SilkRiseModel", "flightHours", "I", false)
  | 62 => ("SilkRiseModel", "flightHow", "I", false)
  | 63 => ("SilkRiseModel", "flightHook", "I", false)
  | 64 => ("SilkRiseModel", "flightX", "I", false)
  | 65 => ("SilkRiseModel", "flightHigh", "I", false)
  | 66 => ("SilkRiseModel", "flightPays", "I", false)
  | 67 => ("SilkRiseModel", "footLoads", "[I", true)
  | 68 => ("SilkRiseModel", "atFoot", "I", false)
  | 69 => ("SilkRiseModel", "bringsBy", "[I", true)
  | 70 => ("SilkRiseModel", "canBe", "[Z", true)
  | 71 => ("SilkRiseModel", "fillMost", "I", false)
  | 72 => ("SilkRiseModel", "fillWay", "I", false)
  | 73 => ("SilkRiseModel", "needOf", "[I", true)
  | 74 => ("SilkRiseModel", "tolds", "I", false)
  | 75 => ("SilkRiseModel", "toldSize", "[I", true)
  | 76 => ("SilkRiseModel", "toldWeight", "[I", true)
  | 77 => ("SilkRiseModel", "toldX", "[I", true)
  | 78 => ("SilkRiseModel", "toldHours", "[I", true)
  | 79 => ("SilkRiseModel", "toldAt", "[I", true)
  | 80 => ("SilkRiseModel", "isHeld", "[Z", true)
  | _ => ("SilkRiseModel", "heldRows", "[I", true)
def tyX12 : Nat → FieldType := fun k => match k with
  | 0 => .int
  | 1 => .array .byte
  | 2 => .int
  | 3 => .array .byte
  | 4 => .int
  | 5 => .array .int
  | 6 => .array .int
  | 7 => .array .int
  | 8 => .array .long
  | 9 => .array .long
  | 10 => .int
  | 11 => .int
  | 12 => .int
  | 13 => .int
  | 14 => .int
  | 15 => .int
  | 16 => .int
  | 17 => .int
  | 18 => .int
  | 19 => .int
  | 20 => .int
  | 21 => .array .long
  | 22 => .array .int
  | 23 => .array .int
  | 24 => .array .int
  | 25 => .array .int
  | 26 => .array .int
  | 27 => .array .int
  | 28 => .array .int
  | 29 => .array .int
  | 30 => .array .int
  | 31 => .array .int
  | 32 => .array .int
  | 33 => .array .int
  | 34 => .array .int
  | 35 => .array .int
  | 36 => .array .int
  | 37 => .array .int
  | 38 => .int
  | 39 => .array .boolean
  | 40 => .array .int
  | 41 => .array .int
  | 42 => .array .int
  | 43 => .array .int
  | 44 => .int
  | 45 => .array .int
  | 46 => .array .int
  | 47 => .array .int
  | 48 => .int
  | 49 => .array .int
  | 50 => .array .int
  | 51 => .boolean
  | 52 => .array .int
  | 53 => .array .int
  | 54 => .int
  | 55 => .array .int
  | 56 => .array .int
  | 57 => .array .int
  | 58 => .array .int
  | 59 => .int
  | 60 => .array .int
  | 61 => .int
  | 62 => .int
  | 63 => .int
  | 64 => .int
  | 65 => .int
  | 66 => .int
  | 67 => .array .int
  | 68 => .int
  | 69 => .array .int
  | 70 => .array .boolean
  | 71 => .int
  | 72 => .int
  | 73 => .array .int
  | 74 => .int
  | 75 => .array .int
  | 76 => .array .int
  | 77 => .array .int
  | 78 => .array .int
  | 79 => .array .int
  | 80 => .array .boolean
  | _ => .array .int
abbrev wsX120 : List Cond := u_ws RX12 TX12 82
theorem nmX12 : ∀ a, a < 82 → ∀ b, b < 82 → a ≠ b → (TX12 a).2.1 ≠ (TX12 b).2.1 := by decide +kernel
theorem tyX12_ok : ∀ k, k < 82 → parseFieldDescriptor (TX12 k).2.2.1 = some (tyX12 k) := by decide +kernel
theorem zin_12 : ∀ w ∈ u_ws RX12 TX12 82, w ∈ lw_tbl := by decide +kernel
def zCl : List vw_C := [(RX0, TX0, 3), (RX1, TX1, 8), (RX2, TX2, 6), (RX3, TX3, 3), (RX4, TX4, 5), (RX5, TX5, 5), (RX6, TX6, 10), (RX7, TX7, 3), (RX8, TX8, 6), (RX9, TX9, 4), (RX10, TX10, 8), (RX11, TX11, 14), (RX12, TX12, 82)]
def zTy (ci : Nat) : Nat → FieldType := match ci with
  | 0 => tyX0
  | 1 => tyX1
  | 2 => tyX2
  | 3 => tyX3
  | 4 => tyX4
  | 5 => tyX5
  | 6 => tyX6
  | 7 => tyX7
  | 8 => tyX8
  | 9 => tyX9
  | 10 => tyX10
  | 11 => tyX11
  | 12 => tyX12
  | _ => fun _ => .int
def zN (ci : Nat) : Nat := [3, 8, 6, 3, 5, 5, 10, 3, 6, 4, 8, 14, 82].getD ci 0
theorem zcl_ok : ∀ (ci : Nat) (q : vw_C), zCl[ci]? = some q → (∀ w ∈ u_ws q.1 q.2.1 q.2.2, w ∈ lw_tbl) ∧ (∀ k, k < q.2.2 → parseFieldDescriptor (q.2.1 k).2.2.1 = some (zTy ci k)) ∧ (∀ a, a < q.2.2 → ∀ b, b < q.2.2 → a ≠ b → (q.2.1 a).2.1 ≠ (q.2.1 b).2.1) ∧ zN ci = q.2.2
  | 0, _, h => by cases h; exact ⟨zin_0, tyX0_ok, nmX0, rfl⟩
  | 1, _, h => by cases h; exact ⟨zin_1, tyX1_ok, nmX1, rfl⟩
  | 2, _, h => by cases h; exact ⟨zin_2, tyX2_ok, nmX2, rfl⟩
  | 3, _, h => by cases h; exact ⟨zin_3, tyX3_ok, nmX3, rfl⟩
  | 4, _, h => by cases h; exact ⟨zin_4, tyX4_ok, nmX4, rfl⟩
  | 5, _, h => by cases h; exact ⟨zin_5, tyX5_ok, nmX5, rfl⟩
  | 6, _, h => by cases h; exact ⟨zin_6, tyX6_ok, nmX6, rfl⟩
  | 7, _, h => by cases h; exact ⟨zin_7, tyX7_ok, nmX7, rfl⟩
  | 8, _, h => by cases h; exact ⟨zin_8, tyX8_ok, nmX8, rfl⟩
  | 9, _, h => by cases h; exact ⟨zin_9, tyX9_ok, nmX9, rfl⟩
  | 10, _, h => by cases h; exact ⟨zin_10, tyX10_ok, nmX10, rfl⟩
  | 11, _, h => by cases h; exact ⟨zin_11, tyX11_ok, nmX11, rfl⟩
  | 12, _, h => by cases h; exact ⟨zin_12, tyX12_ok, nmX12, rfl⟩
  | n + 13, q, h => by simp [zCl] at h
end
section
/-! A PURE MACHINE: bytecode over a memory of numbers. References are numbers from 7 on in the order of making (0: null; 1: the script; 2, 3: two String constants, 4, 5: their bytes). -/
abbrev zM : Type := (Nat × Nat × (Nat → Nat) × (Nat → Nat) × (Nat → Nat → Nat)) × (Nat → Nat → Int32) × (Nat → Nat → Int64)
abbrev zLs : Type := List (Nat × Value)
abbrev zR : Type := Option Value × zM
abbrev zE : Type := Nat × Instr × Nat × List Nat × Option (List Nat)
abbrev zC : Type := Nat → List Value → zM → Option zR
abbrev zK : Type := Nat → zLs → List Value → zM → Option zR
/-- what kind a reference is: a class's number; 20 int[], 21 byte[], 22 boolean[], 23 long[], 24 State[], 25 int[][] -/
def gK (M : zM) (r : Nat) : Nat := if r < 7 then (if r = 2 then 30 else if r = 3 then 30 else if r = 4 then 31 else if r = 5 then 31 else 99) else if r < M.1.1 + 7 then M.1.2.2.1 r else 99
def gN (M : zM) (r : Nat) : Nat := M.1.2.2.2.1 r
def gR (M : zM) (r j : Nat) : Nat := M.1.2.2.2.2 r j
def gI (M : zM) (r j : Nat) : Int32 := M.2.1 r j
def gL (M : zM) (r j : Nat) : Int64 := M.2.2 r j
def sI (M : zM) (r j : Nat) (x : Int32) : zM := (M.1, (fun a b => if a = r ∧ b = j then x else M.2.1 a b), M.2.2)
def sL (M : zM) (r j : Nat) (x : Int64) : zM := (M.1, M.2.1, (fun a b => if a = r ∧ b = j then x else M.2.2 a b))
def sR (M : zM) (r j : Nat) (x : Nat) : zM := ((M.1.1, M.1.2.1, M.1.2.2.1, M.1.2.2.2.1, (fun a b => if a = r ∧ b = j then x else M.1.2.2.2.2 a b)), M.2.1, M.2.2)
/-- f on from the places of dp is g's of sp, n of them -/
def cI (M : zM) (src sp dst dp n : Nat) : zM := (M.1, (fun a b => if a = dst ∧ dp ≤ b ∧ b < dp + n then M.2.1 src (sp + (b - dp)) else M.2.1 a b), M.2.2)
/-- one cell more, of kind kd, of len places, w of them counted -/
def alc (M : zM) (kd len : Nat) : zM := ((M.1.1 + 1, M.1.2.1 + len, (fun a => if a = M.1.1 + 7 then kd else M.1.2.2.1 a), (fun a => if a = M.1.1 + 7 then len else M.1.2.2.2.1 a), (fun a b => if a = M.1.1 + 7 then 0 else M.1.2.2.2.2 a b)), (fun a b => if a = M.1.1 + 7 then 0 else M.2.1 a b), (fun a b => if a = M.1.1 + 7 then 0 else M.2.2 a b))
/-- an array of n int arrays of k places -/
def alg (M : zM) (n k : Nat) : zM := ((M.1.1 + 1 + n, M.1.2.1 + n + n * k, (fun a => if a = M.1.1 + 7 then 25 else if M.1.1 + 7 ≤ a then 20 else M.1.2.2.1 a), (fun a => if a = M.1.1 + 7 then n else if M.1.1 + 7 ≤ a then k else M.1.2.2.2.1 a), (fun a b => if a = M.1.1 + 7 then (if b < n then M.1.1 + 8 + b else 0) else if M.1.1 + 7 ≤ a then 0 else M.1.2.2.2.2 a b)), (fun a b => if M.1.1 + 7 ≤ a then 0 else M.2.1 a b), (fun a b => if M.1.1 + 7 ≤ a then 0 else M.2.2 a b))
def zl : zLs → Nat → Option Value
  | [], _ => none
  | q :: r, i => match Nat.beq q.1 i with
    | true => some q.2
    | false => zl r i
def zmk (o : Option (List Nat)) (ls : zLs) : zLs := match o with
  | none => ls
  | some ps => ps.filterMap (fun i => (zl ls i).map (fun v => (i, v)))
/-- a place is stored to: as the kit's rows say it -/
def zs1 (ls : zLs) (i : Nat) (v : Value) : zLs := (i, v) :: ls.filter (fun q => !(q.1 == i) && !(q.1 + 1 == i && q.2.category == 2))
def zs2 (ls : zLs) (i : Nat) (v : Value) : zLs := (i, v) :: ls.filter (fun q => !(q.1 == i) && (!(q.1 == i + 1) && !(q.1 + 1 == i && q.2.category == 2)))
def lI (ls : zLs) (i : Nat) (f : Int32 → Option zR) : Option zR := match zl ls i with
  | some (.int x) => f x
  | _ => none
def lL (ls : zLs) (i : Nat) (f : Int64 → Option zR) : Option zR := match zl ls i with
  | some (.long x) => f x
  | _ => none
def lA (ls : zLs) (i : Nat) (f : Nat → Option zR) : Option zR := match zl ls i with
  | some (.ref x) => f x
  | _ => none
def pI (st : List Value) (f : Int32 → List Value → Option zR) : Option zR := match st with
  | .int x :: r => f x r
  | _ => none
def pL (st : List Value) (f : Int64 → List Value → Option zR) : Option zR := match st with
  | .long x :: r => f x r
  | _ => none
def pA (st : List Value) (f : Nat → List Value → Option zR) : Option zR := match st with
  | .ref x :: r => f x r
  | _ => none
/-- a value of one word -/
def p1 (st : List Value) (f : Value → List Value → Option zR) : Option zR := match st with
  | .int x :: r => f (.int x) r
  | .ref x :: r => f (.ref x) r
  | _ => none
def bV (o : Option zR) (f : zM → Option zR) : Option zR := match o with
  | some (none, M) => f M
  | _ => none
def bI (o : Option zR) (f : Int32 → zM → Option zR) : Option zR := match o with
  | some (some (.int x), M) => f x M
  | _ => none
def bL (o : Option zR) (f : Int64 → zM → Option zR) : Option zR := match o with
  | some (some (.long x), M) => f x M
  | _ => none
abbrev zin (i : Int32) (n : Nat) : Prop := 0 ≤ i.toInt ∧ i.toInt < (n : Int)
def zix (i : Int32) : Nat := i.toInt.toNat
def zsum (st : List Value) : Nat := (st.map fun v => v.category).sum
/-- nargs values off the stack, the rest has room -/
def pop (n : Nat) (st : List Value) (f : List Value → List Value → Option zR) : Option zR :=
  if n ≤ st.length ∧ zsum (st.drop n) ≤ 8 then f (st.take n).reverse (st.drop n) else none
def zsw (x : Int32) (f : Nat → Option zR) (d : Nat) : Int → List Nat → Option zR
  | _, [] => f d
  | lo, t :: ts => if x = Int32.ofInt lo then f t else zsw x f d (lo + 1) ts
def cBack (ret : Nat) (o : Option zR) (f : List Value → zM → Option zR) : Option zR :=
  if ret = 0 then bV o fun M => f [] M else if ret = 1 then bI o fun x M => f [.int x] M else bL o fun x M => f [.long x] M
def pN (st : List Value) (o : Option zR) : Option zR := match st with
  | [] => o
  | _ => none
def pS (sc : Option (Nat × (Nat → Int32))) (f : Nat → (Nat → Int32) → Option zR) : Option zR := match sc with
  | some s => f s.1 s.2
  | none => none
def okv (M : zM) : Value → Bool
  | .ref r => decide (r < M.1.1 + 7)
  | _ => true
/-- no reference beyond what is made -/
def okS (M : zM) (ls : zLs) (st : List Value) : Bool := st.all (okv M) && ls.all (fun q => okv M q.2)
abbrev ax (e : zE) (i : Nat) : Nat := e.2.2.2.1.getD i 0
/-- the bytes of the two String constants -/
def zby (r : Nat) : List Int32 := if r = 4 then [108, 111, 97, 100, 32, 115, 105, 108, 107, 32, 104, 111, 111, 107, 32, 108, 105, 102, 116, 32, 119, 105, 110, 100, 32, 116, 105, 101, 115, 32, 112, 97, 121, 115, 32, 114, 105, 109, 32, 103, 117, 115, 116, 115, 32, 115, 101, 101, 100, 32, 105, 102, 32, 116, 104, 101, 110, 32, 101, 108, 115, 101, 32, 104, 111, 117, 114, 32, 100, 97, 121, 32, 115, 105, 122, 101, 32, 119, 101, 105, 103, 104, 116, 32, 104, 105, 103, 104, 32, 97, 99, 114, 111, 115, 115, 32, 112, 114, 105, 99, 101, 32, 117, 112, 32, 115, 116, 111, 114, 101, 100, 32] else [59, 61, 43, 45, 42, 47, 60, 40, 41]
/-- one instruction -/
def stp (sc : Option (Nat × (Nat → Int32))) (cal : zC) (e : zE) (ls : zLs) (st : List Value) (M : zM) (k : zK) : Option zR :=
  match e.2.1 with
  | .iload_n i => lI ls i fun x => k e.2.2.1 ls (.int x :: st) M
  | .iload i => lI ls i fun x => k e.2.2.1 ls (.int x :: st) M
  | .lload_n i => lL ls i fun x => k e.2.2.1 ls (.long x :: st) M
  | .lload i => lL ls i fun x => k e.2.2.1 ls (.long x :: st) M
  | .aload_n i => lA ls i fun x => k e.2.2.1 ls (.ref x :: st) M
  | .aload i => lA ls i fun x => k e.2.2.1 ls (.ref x :: st) M
  | .istore_n i => pI st fun x st => k e.2.2.1 (zs1 ls i (.int x)) st M
  | .istore i => pI st fun x st => k e.2.2.1 (zs1 ls i (.int x)) st M
  | .astore_n i => pA st fun x st => k e.2.2.1 (zs1 ls i (.ref x)) st M
  | .astore i => pA st fun x st => k e.2.2.1 (zs1 ls i (.ref x)) st M
  | .lstore_n i => pL st fun x st => k e.2.2.1 (zs2 ls i (.long x)) st M
  | .lstore i => pL st fun x st => k e.2.2.1 (zs2 ls i (.long x)) st M
  | .iinc i n => lI ls i fun x => k e.2.2.1 (zs1 ls i (.int (x + Int32.ofInt n))) st M
  | .iconst n => k e.2.2.1 ls (.int (Int32.ofInt n) :: st) M
  | .bipush n => k e.2.2.1 ls (.int (Int8.ofInt n).toInt32 :: st) M
  | .sipush n => k e.2.2.1 ls (.int (Int16.ofInt n).toInt32 :: st) M
  | .lconst n => k e.2.2.1 ls (.long (Int64.ofNat n) :: st) M
  | .ldc _ => if ax e 0 = 0 then k e.2.2.1 ls (.int (Int32.ofNat (ax e 1)) :: st) M else k e.2.2.1 ls (.ref (ax e 1 + 2) :: st) M
  | .ldc_w _ => k e.2.2.1 ls (.int (Int32.ofNat (ax e 1)) :: st) M
  | .ldc2_w _ => k e.2.2.1 ls (.long (Int64.ofNat (ax e 1)) :: st) M
  | .dup => p1 st fun v st => k e.2.2.1 ls (v :: v :: st) M
  | .dup2 => p1 st fun v st => p1 st fun w st => k e.2.2.1 ls (v :: w :: v :: w :: st) M
  | .pop => p1 st fun _ st => k e.2.2.1 ls st M
  | .iadd => pI st fun y st => pI st fun x st => k e.2.2.1 ls (.int (x + y) :: st) M
  | .isub => pI st fun y st => pI st fun x st => k e.2.2.1 ls (.int (x - y) :: st) M
  | .imul => pI st fun y st => pI st fun x st => k e.2.2.1 ls (.int (x * y) :: st) M
  | .iand => pI st fun y st => pI st fun x st => k e.2.2.1 ls (.int (x &&& y) :: st) M
  | .ior => pI st fun y st => pI st fun x st => k e.2.2.1 ls (.int (x ||| y) :: st) M
  | .ixor => pI st fun y st => pI st fun x st => k e.2.2.1 ls (.int (x ^^^ y) :: st) M
  | .ishl => pI st fun y st => pI st fun x st => k e.2.2.1 ls (.int (x <<< (y &&& 31)) :: st) M
  | .ishr => pI st fun y st => pI st fun x st => k e.2.2.1 ls (.int (x >>> (y &&& 31)) :: st) M
  | .iushr => pI st fun y st => pI st fun x st => k e.2.2.1 ls (.int (x.toUInt32 >>> (y.toUInt32 &&& 31)).toInt32 :: st) M
  | .ineg => pI st fun x st => k e.2.2.1 ls (.int (-x) :: st) M
  | .idiv => pI st fun y st => pI st fun x st => if y = 0 then none else k e.2.2.1 ls (.int (x / y) :: st) M
  | .irem => pI st fun y st => pI st fun x st => if y = 0 then none else k e.2.2.1 ls (.int (x - x / y * y) :: st) M
  | .i2b => pI st fun x st => k e.2.2.1 ls (.int x.toInt8.toInt32 :: st) M
  | .i2c => pI st fun x st => k e.2.2.1 ls (.int (x.toUInt32 % 65536).toInt32 :: st) M
  | .i2l => pI st fun x st => k e.2.2.1 ls (.long x.toInt64 :: st) M
  | .l2i => pL st fun x st => k e.2.2.1 ls (.int x.toInt32 :: st) M
  | .ladd => pL st fun y st => pL st fun x st => k e.2.2.1 ls (.long (x + y) :: st) M
  | .lmul => pL st fun y st => pL st fun x st => k e.2.2.1 ls (.long (x * y) :: st) M
  | .lcmp => pL st fun y st => pL st fun x st => k e.2.2.1 ls (.int (lg_cmp x y) :: st) M
  | .goto _ => k (ax e 0) ls st M
  | .ifCond .eq _ => pI st fun x st => if x = 0 then k (ax e 0) ls st M else k e.2.2.1 ls st M
  | .ifCond .ne _ => pI st fun x st => if ¬ x = 0 then k (ax e 0) ls st M else k e.2.2.1 ls st M
  | .ifCond .lt _ => pI st fun x st => if x < 0 then k (ax e 0) ls st M else k e.2.2.1 ls st M
  | .ifCond .ge _ => pI st fun x st => if 0 ≤ x then k (ax e 0) ls st M else k e.2.2.1 ls st M
  | .ifCond .gt _ => pI st fun x st => if 0 < x then k (ax e 0) ls st M else k e.2.2.1 ls st M
  | .ifCond .le _ => pI st fun x st => if x ≤ 0 then k (ax e 0) ls st M else k e.2.2.1 ls st M
  | .if_icmp .eq _ => pI st fun y st => pI st fun x st => if x = y then k (ax e 0) ls st M else k e.2.2.1 ls st M
  | .if_icmp .ne _ => pI st fun y st => pI st fun x st => if ¬ x = y then k (ax e 0) ls st M else k e.2.2.1 ls st M
  | .if_icmp .lt _ => pI st fun y st => pI st fun x st => if x < y then k (ax e 0) ls st M else k e.2.2.1 ls st M
  | .if_icmp .ge _ => pI st fun y st => pI st fun x st => if y ≤ x then k (ax e 0) ls st M else k e.2.2.1 ls st M
  | .if_icmp .gt _ => pI st fun y st => pI st fun x st => if y < x then k (ax e 0) ls st M else k e.2.2.1 ls st M
  | .if_icmp .le _ => pI st fun y st => pI st fun x st => if x ≤ y then k (ax e 0) ls st M else k e.2.2.1 ls st M
  | .tableswitch _ lo _ _ => pI st fun x st => zsw x (fun t => k t ls st M) (ax e 0) lo (e.2.2.2.1.drop 1)
  | .getfield _ => if ax e 0 = 30 then (if ax e 1 = 0 then pA st fun r st => if gK M r = 30 then k e.2.2.1 ls (.ref (r + 2) :: st) M else none
      else pA st fun r st => if gK M r = 30 then k e.2.2.1 ls (.int 0 :: st) M else none)
    else if ax e 2 = 0 then pA st fun r st => if gK M r = ax e 0 then k e.2.2.1 ls (.int (gI M r (ax e 1)) :: st) M else none
    else if ax e 2 = 1 then pA st fun r st => if gK M r = ax e 0 then k e.2.2.1 ls (.long (gL M r (ax e 1)) :: st) M else none
    else pA st fun r st => if gK M r = ax e 0 then k e.2.2.1 ls (.ref (gR M r (ax e 1)) :: st) M else none
  | .putfield _ => if ax e 2 = 3 then pI st fun x st => pA st fun r st => if gK M r = ax e 0 ∧ (x = 0 ∨ x = 1) then k e.2.2.1 ls st (sI M r (ax e 1) x) else none
    else if ax e 2 = 0 then pI st fun x st => pA st fun r st => if gK M r = ax e 0 then k e.2.2.1 ls st (sI M r (ax e 1) x) else none
    else if ax e 2 = 1 then pL st fun x st => pA st fun r st => if gK M r = ax e 0 then k e.2.2.1 ls st (sL M r (ax e 1) x) else none
    else pA st fun x st => pA st fun r st => if gK M r = ax e 0 ∧ x < M.1.1 + 7 then k e.2.2.1 ls st (sR M r (ax e 1) x) else none
  | .getstatic _ => if ax e 0 = 0 then k e.2.2.1 ls (.int 1 :: st) M else k e.2.2.1 ls (.retAddr 0 :: st) M
  | .iaload => if ax e 0 = 40 then pS sc fun L xs => pI st fun i st => pA st fun r st => if r = 1 ∧ zin i L then k e.2.2.1 ls (.int (xs (zix i)) :: st) M else none
    else pI st fun i st => pA st fun r st => if gK M r = 20 ∧ zin i (gN M r) then k e.2.2.1 ls (.int (gI M r (zix i)) :: st) M else none
  | .laload => pI st fun i st => pA st fun r st => if gK M r = 23 ∧ zin i (gN M r) then k e.2.2.1 ls (.long (gL M r (zix i)) :: st) M else none
  | .baload => if ax e 0 = 31 then pI st fun i st => pA st fun r st => if gK M r = 31 ∧ zin i (zby r).length then k e.2.2.1 ls (.int ((zby r).getD (zix i) 0) :: st) M else none
    else pI st fun i st => pA st fun r st => if gK M r = ax e 0 ∧ zin i (gN M r) then k e.2.2.1 ls (.int (gI M r (zix i)) :: st) M else none
  | .aaload => pI st fun i st => pA st fun r st => if gK M r = ax e 0 ∧ zin i (gN M r) then k e.2.2.1 ls (.ref (gR M r (zix i)) :: st) M else none
  | .iastore => pI st fun x st => pI st fun i st => pA st fun r st => if gK M r = 20 ∧ zin i (gN M r) then k e.2.2.1 ls st (sI M r (zix i) x) else none
  | .lastore => pL st fun x st => pI st fun i st => pA st fun r st => if gK M r = 23 ∧ zin i (gN M r) then k e.2.2.1 ls st (sL M r (zix i) x) else none
  | .bastore => if ax e 0 = 21 then pI st fun x st => pI st fun i st => pA st fun r st => if gK M r = 21 ∧ zin i (gN M r) then k e.2.2.1 ls st (sI M r (zix i) x.toInt8.toInt32) else none
    else pI st fun x st => pI st fun i st => pA st fun r st => if gK M r = 22 ∧ zin i (gN M r) then k e.2.2.1 ls st (sI M r (zix i) (x &&& 1)) else none
  | .aastore => pA st fun x st => pI st fun i st => pA st fun r st => if gK M r = 24 ∧ zin i (gN M r) ∧ gK M x = 8 then k e.2.2.1 ls st (sR M r (zix i) x) else none
  | .arraylength => if ax e 0 = 40 then pS sc fun L _ => pA st fun r st => if r = 1 then k e.2.2.1 ls (.int (Int32.ofNat L) :: st) M else none
    else if ax e 0 = 31 then pA st fun r st => if gK M r = 31 then k e.2.2.1 ls (.int (Int32.ofNat (zby r).length) :: st) M else none
    else pA st fun r st => if gK M r = ax e 0 then k e.2.2.1 ls (.int (Int32.ofNat (gN M r)) :: st) M else none
  | .new _ => if okS M ls st = true then k e.2.2.1 ls (.ref (M.1.1 + 7) :: st) (alc M (ax e 0) (ax e 1)) else none
  | .newarray _ => pI st fun n st => if (0 ≤ n.toInt ∧ n.toInt < 100000) ∧ okS M ls st = true then k e.2.2.1 ls (.ref (M.1.1 + 7) :: st) (alc M (ax e 0) n.toInt.toNat) else none
  | .anewarray _ => pI st fun n st => if (0 ≤ n.toInt ∧ n.toInt < 100000) ∧ okS M ls st = true then k e.2.2.1 ls (.ref (M.1.1 + 7) :: st) (alc M 24 n.toInt.toNat) else none
  | .multianewarray _ _ => pI st fun m st => pI st fun n st => if (0 ≤ n.toInt ∧ n.toInt < 1000) ∧ (0 ≤ m.toInt ∧ m.toInt < 1000) ∧ okS M ls st = true then k e.2.2.1 ls (.ref (M.1.1 + 7) :: st) (alg M n.toInt.toNat m.toInt.toNat) else none
  | .invokestatic _ => if ax e 0 = 9999 then pI st fun n st => pI st fun dp st => pA st fun d st => pI st fun sp st => pA st fun s st =>
        if gK M s = 20 ∧ gK M d = 20 ∧ 0 ≤ sp.toInt ∧ 0 ≤ dp.toInt ∧ 0 ≤ n.toInt ∧ sp.toInt + n.toInt ≤ gN M s ∧ dp.toInt + n.toInt ≤ gN M d then pN st (k e.2.2.1 ls [] (cI M s (zix sp) d (zix dp) (zix n))) else none
    else pop (ax e 1) st fun as st => cBack (ax e 2) (cal (ax e 0) as M) fun v M1 => if M1.1.1 = M.1.1 then k e.2.2.1 ls (v ++ st) M1 else none
  | .invokevirtual _ => pop (ax e 1) st fun as st => pA st fun r st => if gK M r = ax e 3 then cBack (ax e 2) (cal (ax e 0) (.ref r :: as) M) fun v M1 => if M1.1.1 = M.1.1 then k e.2.2.1 ls (v ++ st) M1 else none else none
  | .invokespecial _ => if ax e 0 = 9998 then pA st fun r st => if 0 < r then pN st (k e.2.2.1 ls [] M) else none
    else pop (ax e 1) st fun as st => pA st fun r st => if 0 < r ∧ okS M ls st = true then cBack 0 (cal (ax e 0) (.ref r :: as) M) fun v M1 => k e.2.2.1 ls (v ++ st) M1 else none
  | .ireturn => pI st fun x st => pN st (if ax e 0 = 0 then some (some (.int x), M)
      else if ax e 0 = 1 then (if x = 0 ∨ x = 1 then some (some (.int x), M) else none)
      else if ax e 0 = 2 then (if 0 ≤ x.toInt ∧ x.toInt < 65536 then some (some (.int x), M) else none)
      else if -128 ≤ x.toInt ∧ x.toInt < 128 then some (some (.int x), M) else none)
  | .lreturn => pL st fun x st => pN st (some (some (.long x), M))
  | .return_ => pN st (some (none, M))
  | _ => none
def zent : List zE → Nat → Option zE
  | [], _ => none
  | e :: r, pc => match Nat.beq e.1 pc with
    | true => some e
    | false => zent r pc
def zms (cd : List zE) (pc : Nat) (ls : zLs) : zLs := match zent cd pc with
  | some e => zmk e.2.2.2.2 ls
  | none => ls
def exe (sc : Option (Nat × (Nat → Int32))) (cal : zC) (cd : List zE) : Nat → zK
  | 0 => fun _ _ _ _ => none
  | n + 1 => fun pc ls st M => match zent cd pc with
    | none => none
    | some e => stp sc cal e ls st M (fun pc' ls' st' M' => exe sc cal cd n pc' (zms cd pc' ls') st' M')
/-- method y by its code, d calls deep at most, each of n instructions at most -/
def mth (cod : Nat → Nat × List zE) (n : Nat) : Nat → zC
  | 0 => fun _ _ _ => none
  | d + 1 => fun y as M => if zsum as ≤ (cod y).1 then exe none (mth cod n d) (cod y).2 n 0 (lv_args 0 as) [] M else none
end
section
/-! the limit over the fuel: 'ev' has an equation an instruction -/
def cLe (c c' : zC) : Prop := ∀ z as M r, c z as M = some r → c' z as M = some r
def kLe (k k' : zK) : Prop := ∀ pc ls st M r, k pc ls st M = some r → k' pc ls st M = some r
noncomputable def lim (f : Nat → Option zR) : Option zR := @dite _ (∃ r, ∃ n, f n = some r) (Classical.propDecidable _) (fun h => some (Classical.choose h)) (fun _ => none)
theorem ch_le {f : Nat → Option zR} (hf : ∀ n r, f n = some r → f (n + 1) = some r) {r : zR} : ∀ {n m : Nat}, n ≤ m → f n = some r → f m = some r := by
  intro n m h e
  induction h with
  | refl => exact e
  | step _ ih => exact hf _ _ ih
theorem lim_of {f : Nat → Option zR} (hf : ∀ n r, f n = some r → f (n + 1) = some r) {r : zR} {n : Nat} (h : f n = some r) : lim f = some r := by
  have hx : ∃ r, ∃ n, f n = some r := ⟨r, n, h⟩
  have e : lim f = some (Classical.choose hx) := by unfold lim; exact dif_pos hx
  rw [e]
  obtain ⟨m, hm⟩ := Classical.choose_spec hx
  have h1 := ch_le hf (Nat.le_max_left n m) h
  have h2 := ch_le hf (Nat.le_max_right n m) hm
  exact h2.symm.trans h1
theorem lim_ex {f : Nat → Option zR} {r : zR} (h : lim f = some r) : ∃ n, f n = some r := by
  unfold lim at h
  split at h
  · rename_i hx
    cases h
    exact Classical.choose_spec hx
  · cases h
noncomputable def limC (c : Nat → zC) : zC := fun z as M => lim (fun n => c n z as M)
noncomputable def limK (k : Nat → zK) : zK := fun pc ls st M => lim (fun n => k n pc ls st M)
def Ct (F : zC → zK → Option zR) : Prop :=
  (∀ c c' k k' r, cLe c c' → kLe k k' → F c k = some r → F c' k' = some r) ∧
  (∀ (c : Nat → zC) (k : Nat → zK), (∀ n, cLe (c n) (c (n + 1))) → (∀ n, kLe (k n) (k (n + 1))) → ∀ r, F (limC c) (limK k) = some r → ∃ n, F (c n) (k n) = some r)
theorem Ct_k (pc : Nat) (ls : zLs) (st : List Value) (M : zM) : Ct (fun _ k => k pc ls st M) := ⟨fun _ _ _ _ r _ hk h => hk _ _ _ _ r h, fun _ _ _ _ _ h => lim_ex h⟩
theorem Ct_call (z : Nat) (as : List Value) (M : zM) : Ct (fun c _ => c z as M) := ⟨fun _ _ _ _ r hc _ h => hc _ _ _ r h, fun _ _ _ _ _ h => lim_ex h⟩
theorem Ct_o (o : Option zR) : Ct (fun _ _ => o) := ⟨fun _ _ _ _ _ _ _ h => h, fun _ _ _ _ _ h => ⟨0, h⟩⟩
theorem Ct_ite {p : Prop} {_ : Decidable p} {F G : zC → zK → Option zR} (hF : Ct F) (hG : Ct G) : Ct (fun c k => if p then F c k else G c k) := by
  by_cases h : p
  · simp only [h, if_true]; exact hF
  · simp only [h, if_false]; exact hG
theorem Ct_lI {ls : zLs} {i : Nat} {F : Int32 → zC → zK → Option zR} (h : ∀ x, Ct (F x)) : Ct (fun c k => lI ls i (fun x => F x c k)) := by
  unfold lI
  split
  · exact h _
  · exact Ct_o _
theorem Ct_lL {ls : zLs} {i : Nat} {F : Int64 → zC → zK → Option zR} (h : ∀ x, Ct (F x)) : Ct (fun c k => lL ls i (fun x => F x c k)) := by
  unfold lL
  split
  · exact h _
  · exact Ct_o _
theorem Ct_lA {ls : zLs} {i : Nat} {F : Nat → zC → zK → Option zR} (h : ∀ x, Ct (F x)) : Ct (fun c k => lA ls i (fun x => F x c k)) := by
  unfold lA
  split
  · exact h _
  · exact Ct_o _
theorem Ct_pI {st : List Value} {F : Int32 → List Value → zC → zK → Option zR} (h : ∀ x st, Ct (F x st)) : Ct (fun c k => pI st (fun x st => F x st c k)) := by
  unfold pI
  split
  · exact h _ _
  · exact Ct_o _
theorem Ct_pL {st : List Value} {F : Int64 → List Value → zC → zK → Option zR} (h : ∀ x st, Ct (F x st)) : Ct (fun c k => pL st (fun x st => F x st c k)) := by
  unfold pL
  split
  · exact h _ _
  · exact Ct_o _
theorem Ct_pA {st : List Value} {F : Nat → List Value → zC → zK → Option zR} (h : ∀ x st, Ct (F x st)) : Ct (fun c k => pA st (fun x st => F x st c k)) := by
  unfold pA
  split
  · exact h _ _
  · exact Ct_o _
theorem Ct_p1 {st : List Value} {F : Value → List Value → zC → zK → Option zR} (h : ∀ x st, Ct (F x st)) : Ct (fun c k => p1 st (fun x st => F x st c k)) := by
  unfold p1
  split
  · exact h _ _
  · exact h _ _
  · exact Ct_o _
theorem Ct_pN {st : List Value} {F : zC → zK → Option zR} (h : Ct F) : Ct (fun c k => pN st (F c k)) := by
  unfold pN
  split
  · exact h
  · exact Ct_o _
theorem Ct_pS {sc : Option (Nat × (Nat → Int32))} {F : Nat → (Nat → Int32) → zC → zK → Option zR} (h : ∀ x st, Ct (F x st)) : Ct (fun c k => pS sc (fun x st => F x st c k)) := by
  unfold pS
  split
  · exact h _ _
  · exact Ct_o _
theorem Ct_pop {n : Nat} {st : List Value} {F : List Value → List Value → zC → zK → Option zR} (h : ∀ x st, Ct (F x st)) : Ct (fun c k => pop n st (fun x st => F x st c k)) := by
  unfold pop
  exact Ct_ite (h _ _) (Ct_o _)
theorem Ct_zsw {x : Int32} {F : Nat → zC → zK → Option zR} (h : ∀ t, Ct (F t)) (d : Nat) : ∀ (ts : List Nat) (lo : Int), Ct (fun c k => zsw x (fun t => F t c k) d lo ts)
  | [], _ => h d
  | _ :: ts, lo => Ct_ite (h _) (Ct_zsw h d ts (lo + 1))
theorem bV_some {o : Option zR} {f : (zM → Option zR)} {r : zR} (h : bV o f = some r) : ∃ M, o = some (none, M) ∧ f M = some r := by
  unfold bV at h
  split at h
  · exact ⟨_, rfl, h⟩
  · cases h
theorem Ct_bV {G : zC → zK → Option zR} {F : zM → zC → zK → Option zR} (hG : Ct G) (h : ∀ M, Ct (F M)) : Ct (fun c k => bV (G c k) (fun M => F M c k)) := by
  refine ⟨fun c c' k k' r hc hk e => ?_, fun c k hc hk r e => ?_⟩
  · obtain ⟨M, e1, e2⟩ := bV_some e
    show bV (G c' k') (fun M => F M c' k') = some r
    rw [hG.1 _ _ _ _ _ hc hk e1]
    exact (h M).1 _ _ _ _ _ hc hk e2
  · obtain ⟨M, e1, e2⟩ := bV_some e
    obtain ⟨n1, h1⟩ := hG.2 _ _ hc hk _ e1
    obtain ⟨n2, h2⟩ := (h M).2 _ _ hc hk _ e2
    have cc : ∀ {n m : Nat}, n ≤ m → cLe (c n) (c m) := fun hnm z as M r => ch_le (f := fun n => c n z as M) (fun n r => hc n z as M r) hnm
    have kk : ∀ {n m : Nat}, n ≤ m → kLe (k n) (k m) := fun hnm a1 a2 a3 a4 r => ch_le (f := fun n => k n a1 a2 a3 a4) (fun n r => hk n a1 a2 a3 a4 r) hnm
    refine ⟨max n1 n2, ?_⟩
    have g1 := hG.1 _ _ _ _ _ (cc (Nat.le_max_left n1 n2)) (kk (Nat.le_max_left n1 n2)) h1
    have g2 := (h M).1 _ _ _ _ _ (cc (Nat.le_max_right n1 n2)) (kk (Nat.le_max_right n1 n2)) h2
    show bV (G (c (max n1 n2)) (k (max n1 n2))) (fun M => F M (c (max n1 n2)) (k (max n1 n2))) = some r
    rw [g1]
    exact g2
theorem bI_some {o : Option zR} {f : (Int32 → zM → Option zR)} {r : zR} (h : bI o f = some r) : ∃ x M, o = some (some (.int x), M) ∧ f x M = some r := by
  unfold bI at h
  split at h
  · exact ⟨_, _, rfl, h⟩
  · cases h
theorem Ct_bI {G : zC → zK → Option zR} {F : Int32 → zM → zC → zK → Option zR} (hG : Ct G) (h : ∀ x M, Ct (F x M)) : Ct (fun c k => bI (G c k) (fun x M => F x M c k)) := by
  refine ⟨fun c c' k k' r hc hk e => ?_, fun c k hc hk r e => ?_⟩
  · obtain ⟨x, M, e1, e2⟩ := bI_some e
    show bI (G c' k') (fun x M => F x M c' k') = some r
    rw [hG.1 _ _ _ _ _ hc hk e1]
    exact (h x M).1 _ _ _ _ _ hc hk e2
  · obtain ⟨x, M, e1, e2⟩ := bI_some e
    obtain ⟨n1, h1⟩ := hG.2 _ _ hc hk _ e1
    obtain ⟨n2, h2⟩ := (h x M).2 _ _ hc hk _ e2
    have cc : ∀ {n m : Nat}, n ≤ m → cLe (c n) (c m) := fun hnm z as M r => ch_le (f := fun n => c n z as M) (fun n r => hc n z as M r) hnm
    have kk : ∀ {n m : Nat}, n ≤ m → kLe (k n) (k m) := fun hnm a1 a2 a3 a4 r => ch_le (f := fun n => k n a1 a2 a3 a4) (fun n r => hk n a1 a2 a3 a4 r) hnm
    refine ⟨max n1 n2, ?_⟩
    have g1 := hG.1 _ _ _ _ _ (cc (Nat.le_max_left n1 n2)) (kk (Nat.le_max_left n1 n2)) h1
    have g2 := (h x M).1 _ _ _ _ _ (cc (Nat.le_max_right n1 n2)) (kk (Nat.le_max_right n1 n2)) h2
    show bI (G (c (max n1 n2)) (k (max n1 n2))) (fun x M => F x M (c (max n1 n2)) (k (max n1 n2))) = some r
    rw [g1]
    exact g2
theorem bL_some {o : Option zR} {f : (Int64 → zM → Option zR)} {r : zR} (h : bL o f = some r) : ∃ x M, o = some (some (.long x), M) ∧ f x M = some r := by
  unfold bL at h
  split at h
  · exact ⟨_, _, rfl, h⟩
  · cases h
theorem Ct_bL {G : zC → zK → Option zR} {F : Int64 → zM → zC → zK → Option zR} (hG : Ct G) (h : ∀ x M, Ct (F x M)) : Ct (fun c k => bL (G c k) (fun x M => F x M c k)) := by
  refine ⟨fun c c' k k' r hc hk e => ?_, fun c k hc hk r e => ?_⟩
  · obtain ⟨x, M, e1, e2⟩ := bL_some e
    show bL (G c' k') (fun x M => F x M c' k') = some r
    rw [hG.1 _ _ _ _ _ hc hk e1]
    exact (h x M).1 _ _ _ _ _ hc hk e2
  · obtain ⟨x, M, e1, e2⟩ := bL_some e
    obtain ⟨n1, h1⟩ := hG.2 _ _ hc hk _ e1
    obtain ⟨n2, h2⟩ := (h x M).2 _ _ hc hk _ e2
    have cc : ∀ {n m : Nat}, n ≤ m → cLe (c n) (c m) := fun hnm z as M r => ch_le (f := fun n => c n z as M) (fun n r => hc n z as M r) hnm
    have kk : ∀ {n m : Nat}, n ≤ m → kLe (k n) (k m) := fun hnm a1 a2 a3 a4 r => ch_le (f := fun n => k n a1 a2 a3 a4) (fun n r => hk n a1 a2 a3 a4 r) hnm
    refine ⟨max n1 n2, ?_⟩
    have g1 := hG.1 _ _ _ _ _ (cc (Nat.le_max_left n1 n2)) (kk (Nat.le_max_left n1 n2)) h1
    have g2 := (h x M).1 _ _ _ _ _ (cc (Nat.le_max_right n1 n2)) (kk (Nat.le_max_right n1 n2)) h2
    show bL (G (c (max n1 n2)) (k (max n1 n2))) (fun x M => F x M (c (max n1 n2)) (k (max n1 n2))) = some r
    rw [g1]
    exact g2
theorem Ct_cB {ret : Nat} {G : zC → zK → Option zR} {F : List Value → zM → zC → zK → Option zR} (hG : Ct G) (h : ∀ v M, Ct (F v M)) : Ct (fun c k => cBack ret (G c k) (fun v M => F v M c k)) := by
  unfold cBack
  exact Ct_ite (Ct_bV hG fun M => h _ M) (Ct_ite (Ct_bI hG fun x M => h _ M) (Ct_bL hG fun x M => h _ M))
theorem stp_Ct (sc : Option (Nat × (Nat → Int32))) (e : zE) (ls : zLs) (st : List Value) (M : zM) : Ct (fun c k => stp sc c e ls st M k) := by
  obtain ⟨pc, ins, nxt, aux, ld⟩ := e
  cases ins
  case ifCond c o => cases c <;> exact Ct_pI fun _ _ => Ct_ite (Ct_k ..) (Ct_k ..)
  case if_icmp c o => cases c <;> exact Ct_pI fun _ _ => Ct_pI fun _ _ => Ct_ite (Ct_k ..) (Ct_k ..)
  all_goals first
    | exact Ct_o none
    | exact Ct_k ..
    | exact Ct_lI fun _ => Ct_k ..
    | exact Ct_lL fun _ => Ct_k ..
    | exact Ct_lA fun _ => Ct_k ..
    | exact Ct_pI fun _ _ => Ct_k ..
    | exact Ct_pL fun _ _ => Ct_k ..
    | exact Ct_pA fun _ _ => Ct_k ..
    | exact Ct_p1 fun _ _ => Ct_k ..
    | exact Ct_p1 fun _ _ => Ct_p1 fun _ _ => Ct_k ..
    | exact Ct_pI fun _ _ => Ct_pI fun _ _ => Ct_k ..
    | exact Ct_pL fun _ _ => Ct_pL fun _ _ => Ct_k ..
    | exact Ct_pI fun _ _ => Ct_pI fun _ _ => Ct_ite (Ct_o _) (Ct_k ..)
    | exact Ct_pI fun _ _ => Ct_ite (Ct_k ..) (Ct_o _)
    | exact Ct_pI fun _ _ => Ct_pI fun _ _ => Ct_ite (Ct_k ..) (Ct_o _)
    | exact Ct_pN (Ct_o _)
    | exact Ct_pI fun _ _ => Ct_pN (Ct_o _)
    | exact Ct_pL fun _ _ => Ct_pN (Ct_o _)
    | exact Ct_ite (Ct_k ..) (Ct_k ..)
    | exact Ct_ite (Ct_k ..) (Ct_o _)
    | exact Ct_pI fun _ _ => Ct_pA fun _ _ => Ct_ite (Ct_k ..) (Ct_o _)
    | exact Ct_pI fun _ _ => Ct_pI fun _ _ => Ct_pA fun _ _ => Ct_ite (Ct_k ..) (Ct_o _)
    | exact Ct_pL fun _ _ => Ct_pI fun _ _ => Ct_pA fun _ _ => Ct_ite (Ct_k ..) (Ct_o _)
    | exact Ct_pA fun _ _ => Ct_pI fun _ _ => Ct_pA fun _ _ => Ct_ite (Ct_k ..) (Ct_o _)
    | skip
  case tableswitch d lo hi os => exact Ct_pI fun _ _ => Ct_zsw (fun _ => Ct_k ..) _ _ _
  case getfield i => exact Ct_ite (Ct_ite (Ct_pA fun _ _ => Ct_ite (Ct_k ..) (Ct_o _)) (Ct_pA fun _ _ => Ct_ite (Ct_k ..) (Ct_o _))) (Ct_ite (Ct_pA fun _ _ => Ct_ite (Ct_k ..) (Ct_o _)) (Ct_ite (Ct_pA fun _ _ => Ct_ite (Ct_k ..) (Ct_o _)) (Ct_pA fun _ _ => Ct_ite (Ct_k ..) (Ct_o _))))
  case putfield i => exact Ct_ite (Ct_pI fun _ _ => Ct_pA fun _ _ => Ct_ite (Ct_k ..) (Ct_o _)) <| Ct_ite (Ct_pI fun _ _ => Ct_pA fun _ _ => Ct_ite (Ct_k ..) (Ct_o _)) (Ct_ite (Ct_pL fun _ _ => Ct_pA fun _ _ => Ct_ite (Ct_k ..) (Ct_o _)) (Ct_pA fun _ _ => Ct_pA fun _ _ => Ct_ite (Ct_k ..) (Ct_o _)))
  case iaload => exact Ct_ite (Ct_pS fun _ _ => Ct_pI fun _ _ => Ct_pA fun _ _ => Ct_ite (Ct_k ..) (Ct_o _)) (Ct_pI fun _ _ => Ct_pA fun _ _ => Ct_ite (Ct_k ..) (Ct_o _))
  case baload => exact Ct_ite (Ct_pI fun _ _ => Ct_pA fun _ _ => Ct_ite (Ct_k ..) (Ct_o _)) (Ct_pI fun _ _ => Ct_pA fun _ _ => Ct_ite (Ct_k ..) (Ct_o _))
  case bastore => exact Ct_ite (Ct_pI fun _ _ => Ct_pI fun _ _ => Ct_pA fun _ _ => Ct_ite (Ct_k ..) (Ct_o _)) (Ct_pI fun _ _ => Ct_pI fun _ _ => Ct_pA fun _ _ => Ct_ite (Ct_k ..) (Ct_o _))
  case arraylength => exact Ct_ite (Ct_pS fun _ _ => Ct_pA fun _ _ => Ct_ite (Ct_k ..) (Ct_o _)) (Ct_ite (Ct_pA fun _ _ => Ct_ite (Ct_k ..) (Ct_o _)) (Ct_pA fun _ _ => Ct_ite (Ct_k ..) (Ct_o _)))
  case invokestatic i => exact Ct_ite (Ct_pI fun _ _ => Ct_pI fun _ _ => Ct_pA fun _ _ => Ct_pI fun _ _ => Ct_pA fun _ _ => Ct_ite (Ct_pN (Ct_k ..)) (Ct_o _)) (Ct_pop fun _ _ => Ct_cB (Ct_call ..) fun _ _ => Ct_ite (Ct_k ..) (Ct_o _))
  case invokevirtual i =>
    show Ct (fun c k => pop (aux.getD 1 0) st fun as st => pA st fun r st => if gK M r = aux.getD 3 0 then cBack (aux.getD 2 0) (c (aux.getD 0 0) (.ref r :: as) M) fun v M1 => if M1.1.1 = M.1.1 then k nxt ls (v ++ st) M1 else none else none)
    refine Ct_pop fun as st => Ct_pA fun r st => ?_
    refine Ct_ite ?_ (Ct_o _)
    exact Ct_cB (Ct_call ..) fun _ _ => Ct_ite (Ct_k ..) (Ct_o _)
  case dup => 
    show Ct (fun c k => p1 st fun v st => k nxt ls (v :: v :: st) M)
    refine Ct_p1 fun v st => ?_
    exact Ct_k ..
  case dup2 =>
    show Ct (fun c k => p1 st fun v st => p1 st fun w st => k nxt ls (v :: w :: v :: w :: st) M)
    refine Ct_p1 fun v st => Ct_p1 fun w st => ?_
    exact Ct_k ..
  case pop =>
    show Ct (fun c k => p1 st fun _ st => k nxt ls st M)
    refine Ct_p1 fun v st => ?_
    exact Ct_k ..
  case invokespecial i => exact Ct_ite (Ct_pA fun _ _ => Ct_ite (Ct_pN (Ct_k ..)) (Ct_o _)) (Ct_pop fun _ _ => Ct_pA fun _ _ => Ct_ite (Ct_cB (Ct_call ..) fun _ _ => Ct_k ..) (Ct_o _))
/-- more fuel does no harm -/
theorem exe_c {sc : Option (Nat × (Nat → Int32))} {c c' : zC} (hc : cLe c c') (cd : List zE) : ∀ n, kLe (exe sc c cd n) (exe sc c' cd n)
  | 0 => fun _ _ _ _ _ h => by cases h
  | n + 1 => fun pc ls st M r h => by
    unfold exe at h ⊢
    split at h
    · cases h
    · rename_i e he
      exact (stp_Ct sc e ls st M).1 _ _ _ _ r hc (fun a1 a2 a3 a4 r => exe_c hc cd n a1 _ a3 a4 r) h
theorem exe_f {sc : Option (Nat × (Nat → Int32))} {c : zC} (cd : List zE) : ∀ n, kLe (exe sc c cd n) (exe sc c cd (n + 1))
  | 0 => fun _ _ _ _ _ h => by cases h
  | n + 1 => fun pc ls st M r h => by
    unfold exe at h ⊢
    split at h
    · cases h
    · rename_i e he
      exact (stp_Ct sc e ls st M).1 _ _ _ _ r (fun _ _ _ _ h => h) (fun a1 a2 a3 a4 r => exe_f cd n a1 _ a3 a4 r) h
theorem exe_up {sc : Option (Nat × (Nat → Int32))} {c c' : zC} (hc : cLe c c') (cd : List zE) (n : Nat) : kLe (exe sc c cd n) (exe sc c' cd (n + 1)) := fun a1 a2 a3 a4 r h => exe_f cd n _ _ _ _ _ (exe_c hc cd n a1 a2 a3 a4 r h)
theorem mth_up (cod : Nat → Nat × List zE) (n : Nat) : ∀ d, cLe (mth cod n d) (mth cod (n + 1) d)
  | 0 => fun _ _ _ _ h => by cases h
  | d + 1 => fun z as M r h => by
    unfold mth at h ⊢
    split at h
    · rename_i hz
      rw [if_pos hz]
      exact exe_up (mth_up cod n d) (cod z).2 n 0 _ [] M r h
    · cases h
noncomputable def evM (cod : Nat → Nat × List zE) (d : Nat) : zC := limC (fun n => mth cod n d)
noncomputable def evk (cod : Nat → Nat × List zE) (sc : Option (Nat × (Nat → Int32))) (d : Nat) (cd : List zE) : zK := limK (fun n => exe sc (mth cod n d) cd n)
theorem evk_ex {cod : Nat → Nat × List zE} {sc : Option (Nat × (Nat → Int32))} {d : Nat} {cd : List zE} {pc : Nat} {ls : zLs} {st : List Value} {M : zM} {r : zR} (h : evk cod sc d cd pc ls st M = some r) : ∃ n, exe sc (mth cod n d) cd n pc ls st M = some r := lim_ex h
/-- THE EQUATION of an instruction -/
theorem evk_eq (cod : Nat → Nat × List zE) (sc : Option (Nat × (Nat → Int32))) (d : Nat) (cd : List zE) (pc : Nat) (ls : zLs) (st : List Value) (M : zM) :
    evk cod sc d cd pc ls st M = match zent cd pc with
      | none => none
      | some e => stp sc (evM cod d) e ls st M (fun pc' ls' st' M' => evk cod sc d cd pc' (zms cd pc' ls') st' M') := by
  have up : ∀ n, kLe (exe sc (mth cod n d) cd n) (exe sc (mth cod (n + 1) d) cd (n + 1)) := fun n => exe_up (mth_up cod n d) cd n
  have key : ∀ r, evk cod sc d cd pc ls st M = some r ↔ (match zent cd pc with
      | none => none
      | some e => stp sc (evM cod d) e ls st M (fun pc' ls' st' M' => evk cod sc d cd pc' (zms cd pc' ls') st' M')) = some r := by
    intro r
    constructor
    · intro h
      obtain ⟨n, hn⟩ := lim_ex h
      cases n with
      | zero => cases hn
      | succ n =>
        simp only [exe] at hn
        split at hn
        · cases hn
        · rename_i e he
          rw [he]
          refine (stp_Ct sc e ls st M).1 _ _ _ _ r ?_ ?_ hn
          · intro z as M r h
            exact lim_of (f := fun n => mth cod n d z as M) (n := n + 1) (fun n r h => mth_up cod n d z as M r h) h
          · intro a1 a2 a3 a4 r h
            exact lim_of (f := fun n => exe sc (mth cod n d) cd n a1 (zms cd a1 a2) a3 a4) (n := n + 1) (fun n r h => up n _ _ _ _ r h) (exe_f cd n _ _ _ _ r h)
    · intro h
      cases hz : zent cd pc with
      | none => rw [hz] at h; cases h
      | some e =>
        rw [hz] at h
        obtain ⟨n, hn⟩ := (stp_Ct sc e ls st M).2 (fun n => mth cod n d) (fun n pc' ls' st' M' => exe sc (mth cod n d) cd n pc' (zms cd pc' ls') st' M') (fun n => mth_up cod n d) (fun n a1 a2 a3 a4 r h => up n _ _ _ _ r h) r h
        refine lim_of (n := n + 1) (fun n r h => up n _ _ _ _ r h) ?_
        unfold exe
        rw [hz]
        exact (stp_Ct sc e ls st M).1 _ _ _ _ r (mth_up cod n d) (fun a1 a2 a3 a4 r h => exe_c (mth_up cod n d) cd n _ _ _ _ r h) hn
  cases h1 : evk cod sc d cd pc ls st M with
  | some r => exact ((key r).mp h1).symm
  | none =>
    cases h2 : (match zent cd pc with
      | none => none
      | some e => stp sc (evM cod d) e ls st M (fun pc' ls' st' M' => evk cod sc d cd pc' (zms cd pc' ls') st' M')) with
    | none => rfl
    | some r => rw [(key r).mpr h2] at h1; cases h1
/-- a method's end is its code's -/
theorem evM_eq (cod : Nat → Nat × List zE) (d z : Nat) (as : List Value) (M : zM) (h : zsum as ≤ (cod z).1) : evM cod (d + 1) z as M = evk cod none d (cod z).2 0 (lv_args 0 as) [] M := by
  show lim (fun n => mth cod n (d + 1) z as M) = lim (fun n => exe none (mth cod n d) (cod z).2 n 0 (lv_args 0 as) [] M)
  congr 1
  funext n
  exact if_pos h
end
section
/-! a stretch of code at once -/
def blk (sc : Option (Nat × (Nat → Int32))) (cal : zC) (kk : zK) : List zE → zLs → List Value → zM → Option zR
  | [] => fun _ _ _ => none
  | e :: r => fun ls st M => stp sc cal e ls st M (fun pc' ls' st' M' => match r with
      | [] => kk pc' ls' st' M'
      | e2 :: _ => match Nat.beq pc' e2.1 with
        | true => blk sc cal kk r ls' st' M'
        | false => kk pc' ls' st' M')
def blkOk (cd : List zE) : List zE → Bool
  | [] => true
  | e :: r => decide (zent cd e.1 = some e) && (match r with
      | [] => true
      | e2 :: _ => decide (e2.2.2.2.2 = none) && blkOk cd r)
theorem blk_ok (cod : Nat → Nat × List zE) (sc : Option (Nat × (Nat → Int32))) (d : Nat) (cd : List zE) : ∀ (r : List zE) (e : zE) (_ : blkOk cd (e :: r) = true) (ls : zLs) (st : List Value) (M : zM),
    evk cod sc d cd e.1 ls st M = blk sc (evM cod d) (fun pc' ls' st' M' => evk cod sc d cd pc' (zms cd pc' ls') st' M') (e :: r) ls st M
  | [], e, h, ls, st, M => by
    rw [evk_eq]
    simp only [blkOk, Bool.and_true, decide_eq_true_eq] at h
    rw [h]
    rfl
  | e2 :: r, e, h, ls, st, M => by
    rw [evk_eq]
    unfold blkOk at h
    simp only [Bool.and_eq_true, decide_eq_true_eq] at h
    obtain ⟨h1, h2, h3⟩ := h
    rw [h1]
    unfold blk
    dsimp only
    congr 1
    funext pc' ls' st' M'
    cases hb : Nat.beq pc' e2.1 with
    | false => rfl
    | true =>
      have hpc : pc' = e2.1 := Nat.eq_of_beq_eq_true hb
      subst hpc
      have hz : zent cd e2.1 = some e2 := by
        unfold blkOk at h3
        simp only [Bool.and_eq_true, decide_eq_true_eq] at h3
        exact h3.1
      have hm : zms cd e2.1 ls' = ls' := by
        unfold zms
        rw [hz]
        dsimp only
        rw [h2]
        rfl
      rw [hm]
      exact blk_ok cod sc d cd r e2 h3 ls' st' M'
end
section
/-! how the pure machine's memory lies in the heap -/
def rfv (ad : Nat → Nat) (r : Nat) : Value := if r = 0 then .null else .ref (ad r)
def zv (fv : Value) (ad : Nat → Nat) : Value → Value
  | .ref r => rfv ad r
  | .retAddr _ => fv
  | v => v
def zq (fv : Value) (ad : Nat → Nat) (q : Nat × Value) : Nat × Value := (q.1, zv fv ad q.2)
def ztc : FieldType → Nat
  | .int => 0
  | .boolean => 0
  | .long => 1
  | .object _ => 2
  | .array _ => 2
  | _ => 3
def zsv (ad : Nat → Nat) (M : zM) (r ci j : Nat) : Value := if ztc (zTy ci j) = 0 then .int (gI M r j) else if ztc (zTy ci j) = 1 then .long (gL M r j) else rfv ad (gR M r j)
def zfs (ad : Nat → Nat) (M : zM) (r ci : Nat) : List Value := (List.range (zN ci)).map (fun j => zsv ad M r ci j)
def zaf (ad : Nat → Nat) (M : zM) (r : Nat) : Nat → Option Nat := fun j => if gR M r j = 0 then none else some (ad (gR M r j))
def zce (ad : Nat → Nat) (cA : Nat → ClassId) (M : zM) (r : Nat) : va_E :=
  if M.1.2.2.1 r < 13 then .inr (M.1.2.2.1 r, zfs ad M r (M.1.2.2.1 r))
  else if M.1.2.2.1 r = 23 then .inl (cA 23, gN M r, .inr (.inl (gL M r)))
  else if M.1.2.2.1 r = 24 ∨ M.1.2.2.1 r = 25 then .inl (cA (M.1.2.2.1 r), gN M r, .inr (.inr (.inr (.inr (zaf ad M r)))))
  else .inl (cA (M.1.2.2.1 r), gN M r, .inl (gI M r))
def zws (ad : Nat → Nat) (cA : Nat → ClassId) (M : zM) : va_W := (List.range M.1.1).map (fun i => (ad (i + 7), zce ad cA M (i + 7)))
def ztys (cA : Nat → ClassId) : List (ClassId × FieldType) := [(cA 20, .int), (cA 21, .byte), (cA 22, .boolean), (cA 23, .long), (cA 24, .object "SilkRise$State"), (cA 25, .array .int)]
def zwf (M : zM) : Prop := (∀ r j, gR M r j < M.1.1 + 7) ∧ ∀ a, M.1.2.2.1 a < 30
theorem zgk {M : zM} {r k : Nat} (h : gK M r = k) (h9 : k ≠ 99) (h30 : k ≠ 30) (h31 : k ≠ 31) : 7 ≤ r ∧ r < M.1.1 + 7 ∧ M.1.2.2.1 r = k := by
  unfold gK at h
  split at h
  · split at h
    · exact absurd h.symm h30
    · split at h
      · exact absurd h.symm h30
      · split at h
        · exact absurd h.symm h31
        · split at h
          · exact absurd h.symm h31
          · exact absurd h.symm h9
  · split at h
    · rename_i h1 h2
      exact ⟨Nat.le_of_not_lt h1, h2, h⟩
    · exact absurd h.symm h9
theorem zgk30 {M : zM} {r : Nat} (h : gK M r = 30) (hn : ∀ a, M.1.2.2.1 a ≠ 30) : r = 2 ∨ r = 3 := by
  unfold gK at h
  split at h
  · split at h
    · omega
    · split at h
      · omega
      · split at h
        · omega
        · split at h <;> omega
  · split at h
    · exact absurd h (hn r)
    · omega
theorem zgk31 {M : zM} {r : Nat} (h : gK M r = 31) (hn : ∀ a, M.1.2.2.1 a ≠ 31) : r = 4 ∨ r = 5 := by
  unfold gK at h
  split at h
  · split at h
    · omega
    · split at h
      · omega
      · split at h
        · omega
        · split at h <;> omega
  · split at h
    · exact absurd h (hn r)
    · omega
theorem zws_get {ad : Nat → Nat} {cA : Nat → ClassId} {M : zM} {r : Nat} (h1 : 7 ≤ r) (h2 : r < M.1.1 + 7) : (zws ad cA M)[r - 7]? = some (ad r, zce ad cA M r) := by
  unfold zws
  rw [List.getElem?_map, List.getElem?_range (by omega)]
  simp only [Option.map_some]
  rw [show r - 7 + 7 = r by omega]
theorem zws_len {ad : Nat → Nat} {cA : Nat → ClassId} {M : zM} : (zws ad cA M).length = M.1.1 := by simp [zws]
theorem zws_set {ad : Nat → Nat} {cA : Nat → ClassId} {M M' : zM} {r : Nat} {x : va_E} (hn : M'.1.1 = M.1.1) (h1 : 7 ≤ r) (h2 : r < M.1.1 + 7) (hE : ∀ a, a ≠ r → zce ad cA M' a = zce ad cA M a) (hx : zce ad cA M' r = x) : zws ad cA M' = (zws ad cA M).set (r - 7) (ad r, x) := by
  apply List.ext_getElem?
  intro i
  by_cases hi : i < M.1.1
  · have hl := zws_get (ad := ad) (cA := cA) (M := M') (r := i + 7) (by omega) (by omega)
    rw [show i + 7 - 7 = i by omega] at hl
    rw [hl, List.getElem?_set]
    by_cases e : r - 7 = i
    · rw [if_pos e, if_pos (by rw [zws_len]; omega)]
      have e2 : i + 7 = r := by omega
      rw [e2, hx]
    · rw [if_neg e]
      have hl2 := zws_get (ad := ad) (cA := cA) (M := M) (r := i + 7) (by omega) (by omega)
      rw [show i + 7 - 7 = i by omega] at hl2
      rw [hl2, hE _ (by omega)]
  · rw [List.getElem?_eq_none (by rw [zws_len]; omega), List.getElem?_eq_none (by rw [List.length_set, zws_len]; omega)]
theorem zfs_get {ad : Nat → Nat} {M : zM} {r ci j : Nat} (h : j < zN ci) : (zfs ad M r ci)[j]? = some (zsv ad M r ci j) := by
  unfold zfs
  rw [List.getElem?_map, List.getElem?_range h]
  rfl
theorem zfs_len {ad : Nat → Nat} {M : zM} {r ci : Nat} : (zfs ad M r ci).length = zN ci := by simp [zfs]
theorem zfs_set {ad : Nat → Nat} {M M' : zM} {r ci j : Nat} {v : Value} (h : j < zN ci) (hv : zsv ad M' r ci j = v) (hE : ∀ i, i ≠ j → zsv ad M' r ci i = zsv ad M r ci i) : zfs ad M' r ci = (zfs ad M r ci).set j v := by
  apply List.ext_getElem?
  intro i
  by_cases hi : i < zN ci
  · rw [zfs_get hi, List.getElem?_set]
    by_cases e : j = i
    · subst e
      rw [if_pos rfl, if_pos (by rw [zfs_len]; exact h), hv]
    · rw [if_neg e, zfs_get hi, hE i (fun q => e q.symm)]
  · rw [List.getElem?_eq_none (by rw [zfs_len]; omega), List.getElem?_eq_none (by rw [List.length_set, zfs_len]; omega)]
theorem gI_ne {M : zM} {r j : Nat} {x : Int32} {a b : Nat} (h : ¬ (a = r ∧ b = j)) : gI (sI M r j x) a b = gI M a b := by simp [gI, sI, h]
theorem gI_eq {M : zM} {r j : Nat} {x : Int32} : gI (sI M r j x) r j = x := by simp [gI, sI]
theorem gL_ne {M : zM} {r j : Nat} {x : Int64} {a b : Nat} (h : ¬ (a = r ∧ b = j)) : gL (sL M r j x) a b = gL M a b := by simp [gL, sL, h]
theorem gL_eq {M : zM} {r j : Nat} {x : Int64} : gL (sL M r j x) r j = x := by simp [gL, sL]
theorem gR_ne {M : zM} {r j x : Nat} {a b : Nat} (h : ¬ (a = r ∧ b = j)) : gR (sR M r j x) a b = gR M a b := by simp [gR, sR, h]
theorem gR_eq {M : zM} {r j x : Nat} : gR (sR M r j x) r j = x := by simp [gR, sR]
/-- a cell hangs on its own row alone -/
theorem zce_congr {ad : Nat → Nat} {cA : Nat → ClassId} {M M' : zM} {a : Nat} (hk : M'.1.2.2.1 a = M.1.2.2.1 a) (hn : gN M' a = gN M a) (hI : gI M' a = gI M a) (hL : gL M' a = gL M a) (hR : gR M' a = gR M a) : zce ad cA M' a = zce ad cA M a := by
  unfold zce zfs zsv zaf
  rw [hk, hn, hI, hL, hR]
theorem zce_ad {ad ad' : Nat → Nat} {cA : Nat → ClassId} {M : zM} {a : Nat} (h : ∀ j, gR M a j ≠ 0 → ad' (gR M a j) = ad (gR M a j)) : zce ad' cA M a = zce ad cA M a := by
  have h1 : ∀ j, rfv ad' (gR M a j) = rfv ad (gR M a j) := fun j => by
    unfold rfv
    by_cases e : gR M a j = 0
    · rw [if_pos e, if_pos e]
    · rw [if_neg e, if_neg e, h j e]
  have h2 : zaf ad' M a = zaf ad M a := by
    funext j
    unfold zaf
    by_cases e : gR M a j = 0
    · rw [if_pos e, if_pos e]
    · rw [if_neg e, if_neg e, h j e]
  have h3 : ∀ ci, zfs ad' M a ci = zfs ad M a ci := fun ci => by
    unfold zfs zsv
    simp only [h1]
  unfold zce
  rw [h2, h3]
theorem zce_obj {ad : Nat → Nat} {cA : Nat → ClassId} {M : zM} {r ci : Nat} (h : M.1.2.2.1 r = ci) (hc : ci < 13) : zce ad cA M r = .inr (ci, zfs ad M r ci) := by
  unfold zce
  rw [h, if_pos hc]
theorem zce_int {ad : Nat → Nat} {cA : Nat → ClassId} {M : zM} {r k : Nat} (h : M.1.2.2.1 r = k) (hc : 20 ≤ k ∧ k ≤ 22) : zce ad cA M r = .inl (cA k, gN M r, .inl (gI M r)) := by
  unfold zce
  rw [h, if_neg (by omega), if_neg (by omega), if_neg (by omega)]
theorem zce_long {ad : Nat → Nat} {cA : Nat → ClassId} {M : zM} {r : Nat} (h : M.1.2.2.1 r = 23) : zce ad cA M r = .inl (cA 23, gN M r, .inr (.inl (gL M r))) := by
  unfold zce
  rw [h, if_neg (by omega), if_pos rfl]
theorem zce_refs {ad : Nat → Nat} {cA : Nat → ClassId} {M : zM} {r k : Nat} (h : M.1.2.2.1 r = k) (hc : k = 24 ∨ k = 25) : zce ad cA M r = .inl (cA k, gN M r, .inr (.inr (.inr (.inr (zaf ad M r))))) := by
  unfold zce
  rw [h, if_neg (by omega), if_neg (by omega), if_pos hc]
theorem zce_sI {ad : Nat → Nat} {cA : Nat → ClassId} {M : zM} {r j : Nat} {x : Int32} {a : Nat} (h : a ≠ r) : zce ad cA (sI M r j x) a = zce ad cA M a :=
  zce_congr rfl rfl (funext fun b => gI_ne (fun q => h q.1)) rfl rfl
theorem zce_sL {ad : Nat → Nat} {cA : Nat → ClassId} {M : zM} {r j : Nat} {x : Int64} {a : Nat} (h : a ≠ r) : zce ad cA (sL M r j x) a = zce ad cA M a :=
  zce_congr rfl rfl rfl (funext fun b => gL_ne (fun q => h q.1)) rfl
theorem zce_sR {ad : Nat → Nat} {cA : Nat → ClassId} {M : zM} {r j x : Nat} {a : Nat} (h : a ≠ r) : zce ad cA (sR M r j x) a = zce ad cA M a :=
  zce_congr rfl rfl rfl rfl (funext fun b => gR_ne (fun q => h q.1))
/-- a field of whole numbers is stored to -/
theorem zws_sIf {ad : Nat → Nat} {cA : Nat → ClassId} {M : zM} {r ci j : Nat} {x : Int32} (h1 : 7 ≤ r) (h2 : r < M.1.1 + 7) (hk : M.1.2.2.1 r = ci) (hc : ci < 13) (hj : j < zN ci) (ht : ztc (zTy ci j) = 0) :
    zws ad cA (sI M r j x) = (zws ad cA M).set (r - 7) (ad r, .inr (ci, (zfs ad M r ci).set j (.int x))) := by
  refine zws_set rfl h1 h2 (fun a h => zce_sI h) ?_
  rw [zce_obj (M := sI M r j x) (r := r) (ci := ci) hk hc]
  refine congrArg (fun f => Sum.inr (ci, f)) (zfs_set hj ?_ ?_)
  · unfold zsv
    rw [if_pos ht, gI_eq]
  · intro i hi
    unfold zsv
    rw [gI_ne (fun q => hi q.2)]
    rfl
theorem zws_sLf {ad : Nat → Nat} {cA : Nat → ClassId} {M : zM} {r ci j : Nat} {x : Int64} (h1 : 7 ≤ r) (h2 : r < M.1.1 + 7) (hk : M.1.2.2.1 r = ci) (hc : ci < 13) (hj : j < zN ci) (ht : ztc (zTy ci j) = 1) :
    zws ad cA (sL M r j x) = (zws ad cA M).set (r - 7) (ad r, .inr (ci, (zfs ad M r ci).set j (.long x))) := by
  refine zws_set rfl h1 h2 (fun a h => zce_sL h) ?_
  rw [zce_obj (M := sL M r j x) (r := r) (ci := ci) hk hc]
  refine congrArg (fun f => Sum.inr (ci, f)) (zfs_set hj ?_ ?_)
  · unfold zsv
    rw [if_neg (by omega), if_pos ht, gL_eq]
  · intro i hi
    unfold zsv
    rw [gL_ne (fun q => hi q.2)]
    rfl
theorem zws_sRf {ad : Nat → Nat} {cA : Nat → ClassId} {M : zM} {r ci j x : Nat} (h1 : 7 ≤ r) (h2 : r < M.1.1 + 7) (hk : M.1.2.2.1 r = ci) (hc : ci < 13) (hj : j < zN ci) (ht : ztc (zTy ci j) = 2) :
    zws ad cA (sR M r j x) = (zws ad cA M).set (r - 7) (ad r, .inr (ci, (zfs ad M r ci).set j (rfv ad x))) := by
  refine zws_set rfl h1 h2 (fun a h => zce_sR h) ?_
  rw [zce_obj (M := sR M r j x) (r := r) (ci := ci) hk hc]
  refine congrArg (fun f => Sum.inr (ci, f)) (zfs_set hj ?_ ?_)
  · unfold zsv
    rw [if_neg (by omega), if_neg (by omega), gR_eq]
  · intro i hi
    unfold zsv
    rw [gR_ne (fun q => hi q.2)]
    rfl
/-- an array is stored to -/
theorem zws_sIa {ad : Nat → Nat} {cA : Nat → ClassId} {M : zM} {r k j : Nat} {x : Int32} (h1 : 7 ≤ r) (h2 : r < M.1.1 + 7) (hk : M.1.2.2.1 r = k) (hc : 20 ≤ k ∧ k ≤ 22) :
    zws ad cA (sI M r j x) = (zws ad cA M).set (r - 7) (ad r, .inl (cA k, gN M r, .inl (upd (gI M r) j x))) := by
  refine zws_set rfl h1 h2 (fun a h => zce_sI h) ?_
  rw [zce_int (M := sI M r j x) (r := r) (k := k) hk hc]
  refine congrArg (fun f => Sum.inl (cA k, gN M r, Sum.inl f)) (funext fun b => ?_)
  unfold upd
  by_cases e : b = j
  · subst e
    rw [gI_eq, if_pos rfl]
  · rw [gI_ne (fun q => e q.2), if_neg e]
theorem zws_sLa {ad : Nat → Nat} {cA : Nat → ClassId} {M : zM} {r j : Nat} {x : Int64} (h1 : 7 ≤ r) (h2 : r < M.1.1 + 7) (hk : M.1.2.2.1 r = 23) :
    zws ad cA (sL M r j x) = (zws ad cA M).set (r - 7) (ad r, .inl (cA 23, gN M r, .inr (.inl (vp_updL (gL M r) j x)))) := by
  refine zws_set rfl h1 h2 (fun a h => zce_sL h) ?_
  rw [zce_long (M := sL M r j x) (r := r) hk]
  refine congrArg (fun f => Sum.inl (cA 23, gN M r, Sum.inr (Sum.inl f))) (funext fun b => ?_)
  unfold vp_updL
  by_cases e : b = j
  · subst e
    rw [gL_eq, if_pos rfl]
  · rw [gL_ne (fun q => e q.2), if_neg e]
theorem zws_sRa {ad : Nat → Nat} {cA : Nat → ClassId} {M : zM} {r k j x : Nat} (h1 : 7 ≤ r) (h2 : r < M.1.1 + 7) (hk : M.1.2.2.1 r = k) (hc : k = 24 ∨ k = 25) (hx : x ≠ 0) :
    zws ad cA (sR M r j x) = (zws ad cA M).set (r - 7) (ad r, .inl (cA k, gN M r, .inr (.inr (.inr (.inr (va_up (zaf ad M r) j (some (ad x)))))))) := by
  refine zws_set rfl h1 h2 (fun a h => zce_sR h) ?_
  rw [zce_refs (M := sR M r j x) (r := r) (k := k) hk hc]
  refine congrArg (fun f => Sum.inl (cA k, gN M r, Sum.inr (Sum.inr (Sum.inr (Sum.inr f))))) (funext fun b => ?_)
  unfold va_up zaf
  by_cases e : b = j
  · subst e
    rw [gR_eq, if_neg hx, if_pos rfl]
  · rw [gR_ne (fun q => e q.2), if_neg e]
/-- copied to an int array -/
theorem zws_cI {ad : Nat → Nat} {cA : Nat → ClassId} {M : zM} {r s sp dp n : Nat} (h1 : 7 ≤ r) (h2 : r < M.1.1 + 7) (hk : M.1.2.2.1 r = 20) :
    zws ad cA (cI M s sp r dp n) = (zws ad cA M).set (r - 7) (ad r, .inl (cA 20, gN M r, .inl (va_cpy (gI M s) (gI M r) sp dp n))) := by
  refine zws_set rfl h1 h2 (fun a h => zce_congr rfl rfl (funext fun b => ?_) rfl rfl) ?_
  · show (if a = r ∧ dp ≤ b ∧ b < dp + n then _ else _) = _
    rw [if_neg (fun q => h q.1)]
    rfl
  · rw [zce_int (M := cI M s sp r dp n) (r := r) (k := 20) hk (by omega)]
    refine congrArg (fun f => Sum.inl (cA 20, gN M r, Sum.inl f)) (funext fun b => ?_)
    show (if r = r ∧ dp ≤ b ∧ b < dp + n then _ else _) = _
    unfold va_cpy
    by_cases e : dp ≤ b ∧ b < dp + n
    · rw [if_pos ⟨rfl, e⟩, if_pos e]
      rfl
    · rw [if_neg (fun q => e q.2), if_neg e]
      rfl
/-- one cell more -/
theorem zws_alc {ad ad' : Nat → Nat} {cA : Nat → ClassId} {M : zM} {kd len : Nat} (hw : zwf M) (had : ∀ r, r ≠ M.1.1 + 7 → ad' r = ad r) :
    zws ad' cA (alc M kd len) = zws ad cA M ++ [(ad' (M.1.1 + 7), zce ad' cA (alc M kd len) (M.1.1 + 7))] := by
  unfold zws
  rw [show (alc M kd len).1.1 = M.1.1 + 1 from rfl, List.range_succ, List.map_append]
  congr 1
  apply List.map_congr_left
  intro i hi
  have hi : i < M.1.1 := List.mem_range.mp hi
  have hne : ∀ {α : Type} (x y : α), (if i + 7 = M.1.1 + 7 then x else y) = y := fun x y => if_neg (by omega)
  rw [had _ (by omega)]
  congr 1
  have e1 : zce ad' cA (alc M kd len) (i + 7) = zce ad' cA M (i + 7) := by
    refine zce_congr ?_ ?_ (funext fun b => ?_) (funext fun b => ?_) (funext fun b => ?_)
    · exact hne _ _
    · exact hne _ _
    · exact hne _ _
    · exact hne _ _
    · exact hne _ _
  rw [e1]
  exact zce_ad fun j _ => had _ (by have := hw.1 (i + 7) j; omega)
theorem zwf_alc {M : zM} {kd len : Nat} (h : zwf M) (hk : kd < 30) : zwf (alc M kd len) := by
  refine ⟨fun r j => ?_, fun a => ?_⟩
  · show (if r = M.1.1 + 7 then 0 else _) < M.1.1 + 1 + 7
    split
    · omega
    · have := h.1 r j
      unfold gR at this
      omega
  · show (if a = M.1.1 + 7 then kd else _) < 30
    split
    · exact hk
    · exact h.2 a
theorem zwf_sR {M : zM} {r j x : Nat} (h : zwf M) (hx : x < M.1.1 + 7) : zwf (sR M r j x) := by
  refine ⟨fun a b => ?_, h.2⟩
  by_cases e : a = r ∧ b = j
  · obtain ⟨rfl, rfl⟩ := e
    rw [gR_eq]
    exact hx
  · rw [gR_ne e]
    exact h.1 a b
/-- the stack and the locals under another naming of what is to come -/
theorem zv_ad {fv : Value} {ad ad' : Nat → Nat} {M : zM} (had : ∀ r, r < M.1.1 + 7 → ad' r = ad r) {v : Value} (h : okv M v = true) : zv fv ad' v = zv fv ad v := by
  cases v with
  | ref r =>
    have hr : r < M.1.1 + 7 := by simpa [okv] using h
    show rfv ad' r = rfv ad r
    unfold rfv
    rw [had r hr]
  | _ => rfl
theorem okS_st {fv : Value} {ad ad' : Nat → Nat} {M : zM} (had : ∀ r, r < M.1.1 + 7 → ad' r = ad r) {ls : zLs} {st : List Value} (h : okS M ls st = true) : st.map (zv fv ad') = st.map (zv fv ad) ∧ ls.map (zq fv ad') = ls.map (zq fv ad) := by
  unfold okS at h
  rw [Bool.and_eq_true, List.all_eq_true, List.all_eq_true] at h
  refine ⟨List.map_congr_left fun v hv => zv_ad had (h.1 v hv), List.map_congr_left fun q hq => ?_⟩
  unfold zq
  rw [zv_ad had (h.2 q hq)]
theorem rfv_cat {ad : Nat → Nat} (r : Nat) : (rfv ad r).category = 1 := by
  unfold rfv
  split <;> rfl
theorem zv_cat {fv : Value} {ad : Nat → Nat} (hf : fv.category = 1) (v : Value) : (zv fv ad v).category = v.category := by
  cases v with
  | ref r => exact rfv_cat r
  | retAddr _ => exact hf
  | _ => rfl
theorem zsum_map {fv : Value} {ad : Nat → Nat} (hf : fv.category = 1) (st : List Value) : ((st.map (zv fv ad)).map fun v => v.category).sum = zsum st := by
  unfold zsum
  rw [List.map_map]
  exact congrArg List.sum (List.map_congr_left fun v _ => zv_cat hf v)
theorem zl_mem {ls : zLs} {i : Nat} {v : Value} (h : zl ls i = some v) : (i, v) ∈ ls := by
  induction ls with
  | nil => cases h
  | cons q r ih =>
    unfold zl at h
    split at h
    · rename_i hb
      cases h
      have := Nat.eq_of_beq_eq_true hb
      subst this
      exact List.mem_cons_self
    · exact List.mem_cons_of_mem _ (ih h)
theorem zl_has {fv : Value} {ad : Nat → Nat} {L : Array Slot} {nL : Nat} {ls : zLs} (hl : lv_has L nL (ls.map (zq fv ad))) {i : Nat} {v : Value} (h : zl ls i = some v) : L[i]? = some (.val (zv fv ad v)) :=
  hl.2.2 (i, zv fv ad v) (List.mem_map.mpr ⟨(i, v), zl_mem h, rfl⟩)
theorem zs1_map {fv : Value} {ad : Nat → Nat} (hf : fv.category = 1) (ls : zLs) (i : Nat) (v : Value) : (i, zv fv ad v) :: (ls.map (zq fv ad)).filter (fun q => !(q.1 == i) && !(q.1 + 1 == i && q.2.category == 2)) = (zs1 ls i v).map (zq fv ad) := by
  unfold zs1
  rw [List.map_cons]
  congr 1
  rw [List.filter_map]
  congr 1
  apply List.filter_congr
  intro q _
  simp [Function.comp, zq, zv_cat hf]
theorem zs2_map {fv : Value} {ad : Nat → Nat} (hf : fv.category = 1) (ls : zLs) (i : Nat) (v : Value) : (i, zv fv ad v) :: (ls.map (zq fv ad)).filter (fun q => !(q.1 == i) && (!(q.1 == i + 1) && !(q.1 + 1 == i && q.2.category == 2))) = (zs2 ls i v).map (zq fv ad) := by
  unfold zs2
  rw [List.map_cons]
  congr 1
  rw [List.filter_map]
  congr 1
  apply List.filter_congr
  intro q _
  simp [Function.comp, zq, zv_cat hf]
theorem zmk_mem {o : Option (List Nat)} {ls : zLs} {q : Nat × Value} (h : q ∈ zmk o ls) : q ∈ ls := by
  unfold zmk at h
  split at h
  · exact h
  · rw [List.mem_filterMap] at h
    obtain ⟨i, _, hi⟩ := h
    rw [Option.map_eq_some_iff] at hi
    obtain ⟨v, hv, rfl⟩ := hi
    exact zl_mem hv
theorem zms_mem {cd : List zE} {pc : Nat} {ls : zLs} {q : Nat × Value} (h : q ∈ zms cd pc ls) : q ∈ ls := by
  unfold zms at h
  split at h
  · exact zmk_mem h
  · exact h
theorem lv_fewer {L : Array Slot} {nL : Nat} {l l' : List (Nat × Value)} (h : lv_has L nL l) (hm : ∀ q ∈ l', q ∈ l) : lv_has L nL l' := ⟨h.1, h.2.1, fun q hq => h.2.2 q (hm q hq)⟩
/-- what a step's parts say -/
theorem lI_some {ls : zLs} {i : Nat} {f : Int32 → Option zR} {r : zR} (h : lI ls i f = some r) : ∃ x, zl ls i = some (.int x) ∧ f x = some r := by
  unfold lI at h
  split at h
  · exact ⟨_, by assumption, h⟩
  · cases h
theorem lL_some {ls : zLs} {i : Nat} {f : Int64 → Option zR} {r : zR} (h : lL ls i f = some r) : ∃ x, zl ls i = some (.long x) ∧ f x = some r := by
  unfold lL at h
  split at h
  · exact ⟨_, by assumption, h⟩
  · cases h
theorem lA_some {ls : zLs} {i : Nat} {f : Nat → Option zR} {r : zR} (h : lA ls i f = some r) : ∃ x, zl ls i = some (.ref x) ∧ f x = some r := by
  unfold lA at h
  split at h
  · exact ⟨_, by assumption, h⟩
  · cases h
theorem pI_some {st : List Value} {f : Int32 → List Value → Option zR} {r : zR} (h : pI st f = some r) : ∃ x st', st = .int x :: st' ∧ f x st' = some r := by
  unfold pI at h
  split at h
  · exact ⟨_, _, rfl, h⟩
  · cases h
theorem pL_some {st : List Value} {f : Int64 → List Value → Option zR} {r : zR} (h : pL st f = some r) : ∃ x st', st = .long x :: st' ∧ f x st' = some r := by
  unfold pL at h
  split at h
  · exact ⟨_, _, rfl, h⟩
  · cases h
theorem pA_some {st : List Value} {f : Nat → List Value → Option zR} {r : zR} (h : pA st f = some r) : ∃ x st', st = .ref x :: st' ∧ f x st' = some r := by
  unfold pA at h
  split at h
  · exact ⟨_, _, rfl, h⟩
  · cases h
theorem p1_some {fv : Value} {ad : Nat → Nat} {st : List Value} {f : Value → List Value → Option zR} {r : zR} (h : p1 st f = some r) : ∃ x st', st = x :: st' ∧ (zv fv ad x).category = 1 ∧ f x st' = some r := by
  unfold p1 at h
  split at h
  · exact ⟨_, _, rfl, rfl, h⟩
  · exact ⟨_, _, rfl, rfv_cat _, h⟩
  · cases h
theorem pN_some {st : List Value} {o : Option zR} {r : zR} (h : pN st o = some r) : st = [] ∧ o = some r := by
  unfold pN at h
  split at h
  · exact ⟨rfl, h⟩
  · cases h
theorem pS_some {sc : Option (Nat × (Nat → Int32))} {f : Nat → (Nat → Int32) → Option zR} {r : zR} (h : pS sc f = some r) : ∃ a b, sc = some (a, b) ∧ f a b = some r := by
  unfold pS at h
  split at h
  · exact ⟨_, _, rfl, h⟩
  · cases h
theorem pop_some {n : Nat} {st : List Value} {f : List Value → List Value → Option zR} {r : zR} (h : pop n st f = some r) : ∃ as st', st = as.reverse ++ st' ∧ as.length = n ∧ zsum st' ≤ 8 ∧ f as st' = some r := by
  unfold pop at h
  split at h
  · rename_i hc
    refine ⟨(st.take n).reverse, st.drop n, ?_, ?_, hc.2, h⟩
    · rw [List.reverse_reverse, List.take_append_drop]
    · rw [List.length_reverse, List.length_take]
      omega
  · cases h
theorem ite_some {p : Prop} {_ : Decidable p} {o : Option zR} {r : zR} (h : (if p then o else none) = some r) : p ∧ o = some r := by
  split at h
  · exact ⟨by assumption, h⟩
  · cases h
end
section
/-! the words of the tables that the walk needs, by their places -/
def zch_0 : List Jvm.Cond := [.methodLink "SilkRise$Things" 3 ⟨"java/lang/Object", "<init>", "()V"⟩, .instanceMethod ⟨"java/lang/Object", "<init>", "()V"⟩, .code ⟨"java/lang/Object", "<init>", "()V"⟩ object_method_1_code 1 none, .fieldLink "SilkRise$Things" 9 "SilkRise$Things" "most" "I", .fieldLink "SilkRise$Things" 15 "SilkRise$Things" "width" "I", .arrayClass Jvm.ClassFile.FieldType.int, .fieldLink "SilkRise$Things" 18 "SilkRise$Things" "cells" "[I", .fieldLink "SilkRise$Things" 22 "SilkRise$Things" "size" "I", .methodLink "SilkRise$Things" 25 ⟨"SilkRise$Things", "isFull", "()Z"⟩, .instanceMethod ⟨"SilkRise$Things", "isFull", "()Z"⟩, .selects "SilkRise$Things" ⟨"SilkRise$Things", "isFull", "()Z"⟩ ⟨"SilkRise$Things", "isFull", "()Z"⟩, .initialized "SilkRise$Things", .methodLink "SilkRise$Things" 29 ⟨"SilkRise$Things", "put", "(III)V"⟩, .instanceMethod ⟨"SilkRise$Things", "put", "(III)V"⟩, .selects "SilkRise$Things" ⟨"SilkRise$Things", "put", "(III)V"⟩ ⟨"SilkRise$Things", "put", "(III)V"⟩, .methodLink "SilkRise$Things" 33 ⟨"java/lang/Math", "min", "(II)I"⟩, .static ⟨"java/lang/Math", "min", "(II)I"⟩, .initialized "java/lang/Math", .methodLink "SilkRise$Things" 39 ⟨"java/lang/System", "arraycopy", "(Ljava/lang/Object;ILjava/lang/Object;II)V"⟩, .native ⟨"java/lang/System", "arraycopy", "(Ljava/lang/Object;ILjava/lang/Object;II)V"⟩, .static ⟨"java/lang/System", "arraycopy", "(Ljava/lang/Object;ILjava/lang/Object;II)V"⟩, .initialized "java/lang/System", .methodLink "SilkRise$Laws" 3 ⟨"java/lang/Object", "<init>", "()V"⟩, .fieldLink "SilkRise$Laws" 11 "SilkRise$Laws" "cells" "[I", .fieldLink "SilkRise$Laws" 15 "SilkRise$Laws" "starts" "[I", .fieldLink "SilkRise$Laws" 18 "SilkRise$Laws" "used" "I", .methodLink "SilkRise$Laws" 22 ⟨"SilkRise$Laws", "begin", "(I)V"⟩, .instanceMethod ⟨"SilkRise$Laws", "begin", "(I)V"⟩, .selects "SilkRise$Laws" ⟨"SilkRise$Laws", "begin", "(I)V"⟩ ⟨"SilkRise$Laws", "begin", "(I)V"⟩, .initialized "SilkRise$Laws", .methodLink "SilkRise$Laws" 26 ⟨"SilkRise$Laws", "add", "(I)V"⟩, .instanceMethod ⟨"SilkRise$Laws", "add", "(I)V"⟩]
theorem zchp_0 : zch_0 = ([152, 133, 134, 153, 154, 167, 155, 156, 737, 706, 707, 109, 738, 739, 740, 802, 596, 123, 803, 805, 804, 125, 212, 213, 214, 215, 239, 240, 241, 110, 243, 244] : List Nat).filterMap (fun i => lw_tbl[i]?) := by decide +kernel
def zch_1 : List Jvm.Cond := [.selects "SilkRise$Laws" ⟨"SilkRise$Laws", "add", "(I)V"⟩ ⟨"SilkRise$Laws", "add", "(I)V"⟩, .methodLink "SilkRise$Laws" 29 ⟨"java/lang/System", "arraycopy", "(Ljava/lang/Object;ILjava/lang/Object;II)V"⟩, .methodLink "SilkRise$State" 3 ⟨"java/lang/Object", "<init>", "()V"⟩, .classLink "SilkRise$State" 9 "SilkRise$Things", .instantiable "SilkRise$Things" 4, .methodLink "SilkRise$State" 11 ⟨"SilkRise$Things", "<init>", "(II)V"⟩, .instanceMethod ⟨"SilkRise$Things", "<init>", "(II)V"⟩, .fieldLink "SilkRise$State" 14 "SilkRise$State" "loads" "LSilkRise$Things;", .fieldLink "SilkRise$State" 20 "SilkRise$State" "silks" "LSilkRise$Things;", .fieldLink "SilkRise$State" 23 "SilkRise$State" "hooks" "LSilkRise$Things;", .fieldLink "SilkRise$State" 26 "SilkRise$State" "hour" "I", .fieldLink "SilkRise$State" 30 "SilkRise$State" "earned" "I", .fieldLink "SilkRise$State" 33 "SilkRise$State" "paid" "I", .methodLink "SilkRise$State" 36 ⟨"SilkRise$Things", "clear", "()V"⟩, .instanceMethod ⟨"SilkRise$Things", "clear", "()V"⟩, .selects "SilkRise$Things" ⟨"SilkRise$Things", "clear", "()V"⟩ ⟨"SilkRise$Things", "clear", "()V"⟩, .methodLink "SilkRise$State" 39 ⟨"SilkRise$Things", "become", "(LSilkRise$Things;)V"⟩, .instanceMethod ⟨"SilkRise$Things", "become", "(LSilkRise$Things;)V"⟩, .selects "SilkRise$Things" ⟨"SilkRise$Things", "become", "(LSilkRise$Things;)V"⟩ ⟨"SilkRise$Things", "become", "(LSilkRise$Things;)V"⟩, .methodLink "SilkRise$State" 43 ⟨"SilkRise$Things", "size", "()I"⟩, .instanceMethod ⟨"SilkRise$Things", "size", "()I"⟩, .selects "SilkRise$Things" ⟨"SilkRise$Things", "size", "()I"⟩ ⟨"SilkRise$Things", "size", "()I"⟩, .methodLink "SilkRise$State" 47 ⟨"SilkRise$Things", "at", "(II)I"⟩, .instanceMethod ⟨"SilkRise$Things", "at", "(II)I"⟩, .selects "SilkRise$Things" ⟨"SilkRise$Things", "at", "(II)I"⟩ ⟨"SilkRise$Things", "at", "(II)I"⟩, .methodLink "SilkRise$State" 51 ⟨"SilkRise$State", "loadsThat", "(I)I"⟩, .instanceMethod ⟨"SilkRise$State", "loadsThat", "(I)I"⟩, .selects "SilkRise$State" ⟨"SilkRise$State", "loadsThat", "(I)I"⟩ ⟨"SilkRise$State", "loadsThat", "(I)I"⟩, .initialized "SilkRise$State", .methodLink "SilkRise$State" 55 ⟨"java/lang/Integer", "bitCount", "(I)I"⟩, .static ⟨"java/lang/Integer", "bitCount", "(I)I"⟩, .initialized "java/lang/Integer"]
theorem zchp_1 : zch_1 = ([245, 810, 146, 147, 148, 149, 150, 168, 174, 180, 184, 189, 192, 231, 232, 233, 798, 799, 800, 857, 858, 859, 861, 826, 827, 853, 854, 855, 108, 862, 863, 126] : List Nat).filterMap (fun i => lw_tbl[i]?) := by decide +kernel
def zch_2 : List Jvm.Cond := [.methodLink "SilkRise$State" 60 ⟨"SilkRise$Things", "has", "(I)Z"⟩, .instanceMethod ⟨"SilkRise$Things", "has", "(I)Z"⟩, .selects "SilkRise$Things" ⟨"SilkRise$Things", "has", "(I)Z"⟩ ⟨"SilkRise$Things", "has", "(I)Z"⟩, .methodLink "SilkRise$State" 64 ⟨"SilkRise$State", "isLoadAtFoot", "(I)Z"⟩, .instanceMethod ⟨"SilkRise$State", "isLoadAtFoot", "(I)Z"⟩, .selects "SilkRise$State" ⟨"SilkRise$State", "isLoadAtFoot", "(I)Z"⟩ ⟨"SilkRise$State", "isLoadAtFoot", "(I)Z"⟩, .methodLink "SilkRise$State" 67 ⟨"SilkRise$State", "isSilkAtFoot", "(I)Z"⟩, .instanceMethod ⟨"SilkRise$State", "isSilkAtFoot", "(I)Z"⟩, .selects "SilkRise$State" ⟨"SilkRise$State", "isSilkAtFoot", "(I)Z"⟩ ⟨"SilkRise$State", "isSilkAtFoot", "(I)Z"⟩, .methodLink "SilkRise$State" 70 ⟨"SilkRise$Things", "put", "(III)V"⟩, .methodLink "SilkRise$State" 74 ⟨"java/lang/Math", "abs", "(I)I"⟩, .static ⟨"java/lang/Math", "abs", "(I)I"⟩, .methodLink "SilkRise$Plan" 3 ⟨"java/lang/Object", "<init>", "()V"⟩, .classLink "SilkRise$Plan" 9 "SilkRise$State", .instantiable "SilkRise$State" 6, .methodLink "SilkRise$Plan" 11 ⟨"SilkRise$State", "<init>", "()V"⟩, .instanceMethod ⟨"SilkRise$State", "<init>", "()V"⟩, .fieldLink "SilkRise$Plan" 12 "SilkRise$Plan" "start" "LSilkRise$State;", .classLink "SilkRise$Plan" 18 "SilkRise$Laws", .instantiable "SilkRise$Laws" 3, .methodLink "SilkRise$Plan" 20 ⟨"SilkRise$Laws", "<init>", "()V"⟩, .instanceMethod ⟨"SilkRise$Laws", "<init>", "()V"⟩, .fieldLink "SilkRise$Plan" 21 "SilkRise$Plan" "laws" "LSilkRise$Laws;", .methodLink "SilkRise$Plan" 25 ⟨"SilkRise$Plan", "clear", "()V"⟩, .instanceMethod ⟨"SilkRise$Plan", "clear", "()V"⟩, .selects "SilkRise$Plan" ⟨"SilkRise$Plan", "clear", "()V"⟩ ⟨"SilkRise$Plan", "clear", "()V"⟩, .initialized "SilkRise$Plan", .methodLink "SilkRise$Plan" 28 ⟨"SilkRise$State", "clear", "()V"⟩, .instanceMethod ⟨"SilkRise$State", "clear", "()V"⟩, .selects "SilkRise$State" ⟨"SilkRise$State", "clear", "()V"⟩ ⟨"SilkRise$State", "clear", "()V"⟩, .methodLink "SilkRise$Plan" 29 ⟨"SilkRise$Laws", "clear", "()V"⟩, .instanceMethod ⟨"SilkRise$Laws", "clear", "()V"⟩]
theorem zchp_2 : zch_2 = ([944, 838, 839, 940, 941, 942, 945, 946, 947, 959, 1016, 1017, 140, 141, 142, 143, 144, 247, 207, 208, 209, 210, 250, 223, 224, 225, 107, 227, 228, 229, 235, 236] : List Nat).filterMap (fun i => lw_tbl[i]?) := by decide +kernel
def zch_3 : List Jvm.Cond := [.selects "SilkRise$Laws" ⟨"SilkRise$Laws", "clear", "()V"⟩ ⟨"SilkRise$Laws", "clear", "()V"⟩, .fieldLink "SilkRise$Plan" 30 "SilkRise$Plan" "rim" "I", .fieldLink "SilkRise$Plan" 34 "SilkRise$Plan" "gusts" "I", .fieldLink "SilkRise$Plan" 37 "SilkRise$Plan" "seed" "I", .methodLink "SilkRise$Plan" 40 ⟨"SilkRise$State", "become", "(LSilkRise$State;)V"⟩, .instanceMethod ⟨"SilkRise$State", "become", "(LSilkRise$State;)V"⟩, .selects "SilkRise$State" ⟨"SilkRise$State", "become", "(LSilkRise$State;)V"⟩ ⟨"SilkRise$State", "become", "(LSilkRise$State;)V"⟩, .methodLink "SilkRise$Plan" 44 ⟨"SilkRise$Laws", "become", "(LSilkRise$Laws;)V"⟩, .instanceMethod ⟨"SilkRise$Laws", "become", "(LSilkRise$Laws;)V"⟩, .selects "SilkRise$Laws" ⟨"SilkRise$Laws", "become", "(LSilkRise$Laws;)V"⟩ ⟨"SilkRise$Laws", "become", "(LSilkRise$Laws;)V"⟩, .methodLink "SilkRise$Tokens" 5 ⟨"java/lang/Object", "<init>", "()V"⟩, .arrayClass Jvm.ClassFile.FieldType.long, .fieldLink "SilkRise$Tokens" 11 "SilkRise$Tokens" "words" "[J", .fieldLink "SilkRise$Tokens" 15 "SilkRise$Tokens" "kinds" "[I", .fieldLink "SilkRise$Tokens" 19 "SilkRise$Tokens" "places" "[I", .fieldLink "SilkRise$Tokens" 22 "SilkRise$Tokens" "values" "[J", .fieldLink "SilkRise$Tokens" 25 "SilkRise$Tokens" "size" "I", .arrayClass Jvm.ClassFile.FieldType.byte, .fieldLink "SilkRise$Tokens" 29 "SilkRise$Tokens" "tape" "[B", .fieldLink "SilkRise$Tokens" 33 "SilkRise$Tokens" "tapeSize" "I", .fieldLink "SilkRise$Tokens" 36 "SilkRise$Tokens" "next" "I", .methodLink "SilkRise$Tokens" 41 ⟨"java/lang/String", "length", "()I"⟩, .instanceMethod ⟨"java/lang/String", "length", "()I"⟩, .selects "java/lang/String" ⟨"java/lang/String", "length", "()I"⟩ ⟨"java/lang/String", "length", "()I"⟩, .initialized "java/lang/String", .methodLink "SilkRise$Tokens" 47 ⟨"java/lang/String", "charAt", "(I)C"⟩, .instanceMethod ⟨"java/lang/String", "charAt", "(I)C"⟩, .selects "java/lang/String" ⟨"java/lang/String", "charAt", "(I)C"⟩ ⟨"java/lang/String", "charAt", "(I)C"⟩, .methodLink "SilkRise$Tokens" 51 ⟨"SilkRise$Tokens", "withLetter", "(JI)J"⟩, .static ⟨"SilkRise$Tokens", "withLetter", "(JI)J"⟩, .initialized "SilkRise$Tokens", .methodLink "SilkRise$Tokens" 55 ⟨"java/lang/Math", "min", "(II)I"⟩]
theorem zchp_3 : zch_3 = ([237, 253, 258, 261, 794, 795, 796, 806, 807, 808, 286, 365, 340, 341, 342, 343, 344, 166, 345, 346, 347, 288, 289, 290, 113, 298, 299, 300, 336, 337, 112, 595] : List Nat).filterMap (fun i => lw_tbl[i]?) := by decide +kernel
def zch_4 : List Jvm.Cond := [.methodLink "SilkRise$Tokens" 61 ⟨"SilkRise$Tokens", "scanOne", "()V"⟩, .instanceMethod ⟨"SilkRise$Tokens", "scanOne", "()V"⟩, .selects "SilkRise$Tokens" ⟨"SilkRise$Tokens", "scanOne", "()V"⟩ ⟨"SilkRise$Tokens", "scanOne", "()V"⟩, .methodLink "SilkRise$Tokens" 64 ⟨"SilkRise$Tokens", "byteAt", "(I)I"⟩, .instanceMethod ⟨"SilkRise$Tokens", "byteAt", "(I)I"⟩, .selects "SilkRise$Tokens" ⟨"SilkRise$Tokens", "byteAt", "(I)I"⟩ ⟨"SilkRise$Tokens", "byteAt", "(I)I"⟩, .methodLink "SilkRise$Tokens" 68 ⟨"SilkRise$Tokens", "isBlank", "(I)Z"⟩, .static ⟨"SilkRise$Tokens", "isBlank", "(I)Z"⟩, .methodLink "SilkRise$Tokens" 72 ⟨"SilkRise$Tokens", "add", "(IIJ)V"⟩, .instanceMethod ⟨"SilkRise$Tokens", "add", "(IIJ)V"⟩, .selects "SilkRise$Tokens" ⟨"SilkRise$Tokens", "add", "(IIJ)V"⟩ ⟨"SilkRise$Tokens", "add", "(IIJ)V"⟩, .methodLink "SilkRise$Tokens" 76 ⟨"SilkRise$Tokens", "isLetter", "(I)Z"⟩, .static ⟨"SilkRise$Tokens", "isLetter", "(I)Z"⟩, .methodLink "SilkRise$Tokens" 79 ⟨"SilkRise$Tokens", "scanLetters", "()V"⟩, .instanceMethod ⟨"SilkRise$Tokens", "scanLetters", "()V"⟩, .selects "SilkRise$Tokens" ⟨"SilkRise$Tokens", "scanLetters", "()V"⟩ ⟨"SilkRise$Tokens", "scanLetters", "()V"⟩, .methodLink "SilkRise$Tokens" 82 ⟨"SilkRise$Tokens", "isDigit", "(I)Z"⟩, .static ⟨"SilkRise$Tokens", "isDigit", "(I)Z"⟩, .methodLink "SilkRise$Tokens" 85 ⟨"SilkRise$Tokens", "scanDigits", "()V"⟩, .instanceMethod ⟨"SilkRise$Tokens", "scanDigits", "()V"⟩, .selects "SilkRise$Tokens" ⟨"SilkRise$Tokens", "scanDigits", "()V"⟩ ⟨"SilkRise$Tokens", "scanDigits", "()V"⟩, .methodLink "SilkRise$Tokens" 90 ⟨"java/lang/String", "indexOf", "(I)I"⟩, .instanceMethod ⟨"java/lang/String", "indexOf", "(I)I"⟩, .selects "java/lang/String" ⟨"java/lang/String", "indexOf", "(I)I"⟩ ⟨"java/lang/String", "indexOf", "(I)I"⟩, .constantLong "SilkRise$Tokens" 93 (32 : Int64), .methodLink "SilkRise$Tokens" 95 ⟨"SilkRise$Tokens", "kindOf", "(J)I"⟩, .instanceMethod ⟨"SilkRise$Tokens", "kindOf", "(J)I"⟩, .selects "SilkRise$Tokens" ⟨"SilkRise$Tokens", "kindOf", "(J)I"⟩ ⟨"SilkRise$Tokens", "kindOf", "(J)I"⟩, .methodLink "SilkRise$Reader" 3 ⟨"java/lang/Object", "<init>", "()V"⟩, .classLink "SilkRise$Reader" 9 "SilkRise$Tokens", .instantiable "SilkRise$Tokens" 8, .methodLink "SilkRise$Reader" 11 ⟨"SilkRise$Tokens", "<init>", "()V"⟩]
theorem zchp_4 : zch_4 = ([598, 600, 1, 602, 604, 2, 606, 607, 609, 611, 3, 613, 614, 616, 618, 4, 624, 625, 627, 629, 6, 632, 633, 634, 339, 620, 622, 5, 280, 281, 282, 283] : List Nat).filterMap (fun i => lw_tbl[i]?) := by decide +kernel
def zch_5 : List Jvm.Cond := [.instanceMethod ⟨"SilkRise$Tokens", "<init>", "()V"⟩, .fieldLink "SilkRise$Reader" 12 "SilkRise$Reader" "tokens" "LSilkRise$Tokens;", .fieldLink "SilkRise$Reader" 18 "SilkRise$Reader" "draft" "LSilkRise$Plan;", .fieldLink "SilkRise$Reader" 22 "SilkRise$Reader" "names" "[J", .fieldLink "SilkRise$Reader" 26 "SilkRise$Reader" "named" "I", .fieldLink "SilkRise$Reader" 30 "SilkRise$Reader" "taken" "I", .fieldLink "SilkRise$Reader" 33 "SilkRise$Reader" "kind" "I", .fieldLink "SilkRise$Reader" 36 "SilkRise$Reader" "fault" "I", .fieldLink "SilkRise$Reader" 39 "SilkRise$Reader" "faultPlace" "I", .fieldLink "SilkRise$Reader" 42 "SilkRise$Reader" "lateFault" "I", .fieldLink "SilkRise$Reader" 45 "SilkRise$Reader" "latePlace" "I", .methodLink "SilkRise$Reader" 48 ⟨"SilkRise$Plan", "clear", "()V"⟩, .methodLink "SilkRise$Reader" 53 ⟨"SilkRise$Tokens", "scan", "([BI)V"⟩, .instanceMethod ⟨"SilkRise$Tokens", "scan", "([BI)V"⟩, .selects "SilkRise$Tokens" ⟨"SilkRise$Tokens", "scan", "([BI)V"⟩ ⟨"SilkRise$Tokens", "scan", "([BI)V"⟩, .methodLink "SilkRise$Reader" 57 ⟨"SilkRise$Tokens", "kindAt", "(I)I"⟩, .instanceMethod ⟨"SilkRise$Tokens", "kindAt", "(I)I"⟩, .selects "SilkRise$Tokens" ⟨"SilkRise$Tokens", "kindAt", "(I)I"⟩ ⟨"SilkRise$Tokens", "kindAt", "(I)I"⟩, .methodLink "SilkRise$Reader" 61 ⟨"SilkRise$Reader", "statement", "()V"⟩, .instanceMethod ⟨"SilkRise$Reader", "statement", "()V"⟩, .selects "SilkRise$Reader" ⟨"SilkRise$Reader", "statement", "()V"⟩ ⟨"SilkRise$Reader", "statement", "()V"⟩, .initialized "SilkRise$Reader", .methodLink "SilkRise$Reader" 64 ⟨"SilkRise$Reader", "loadStatement", "()V"⟩, .instanceMethod ⟨"SilkRise$Reader", "loadStatement", "()V"⟩, .selects "SilkRise$Reader" ⟨"SilkRise$Reader", "loadStatement", "()V"⟩ ⟨"SilkRise$Reader", "loadStatement", "()V"⟩, .methodLink "SilkRise$Reader" 67 ⟨"SilkRise$Reader", "silkStatement", "()V"⟩, .instanceMethod ⟨"SilkRise$Reader", "silkStatement", "()V"⟩, .selects "SilkRise$Reader" ⟨"SilkRise$Reader", "silkStatement", "()V"⟩ ⟨"SilkRise$Reader", "silkStatement", "()V"⟩, .methodLink "SilkRise$Reader" 70 ⟨"SilkRise$Reader", "hookStatement", "()V"⟩, .instanceMethod ⟨"SilkRise$Reader", "hookStatement", "()V"⟩, .selects "SilkRise$Reader" ⟨"SilkRise$Reader", "hookStatement", "()V"⟩ ⟨"SilkRise$Reader", "hookStatement", "()V"⟩, .methodLink "SilkRise$Reader" 73 ⟨"SilkRise$Reader", "setting", "(II)I"⟩]
theorem zchp_5 : zch_5 = ([284, 366, 367, 368, 369, 370, 371, 372, 373, 374, 375, 590, 591, 592, 593, 689, 690, 691, 693, 695, 7, 111, 697, 699, 8, 748, 750, 15, 752, 754, 16, 756] : List Nat).filterMap (fun i => lw_tbl[i]?) := by decide +kernel
def zch_6 : List Jvm.Cond := [.instanceMethod ⟨"SilkRise$Reader", "setting", "(II)I"⟩, .selects "SilkRise$Reader" ⟨"SilkRise$Reader", "setting", "(II)I"⟩ ⟨"SilkRise$Reader", "setting", "(II)I"⟩, .fieldLinkNest "SilkRise$Reader" 77 "SilkRise$Plan" "rim" "I" "SilkRise", .fieldLinkNest "SilkRise$Reader" 80 "SilkRise$Plan" "gusts" "I" "SilkRise", .fieldLinkNest "SilkRise$Reader" 83 "SilkRise$Plan" "seed" "I" "SilkRise", .methodLink "SilkRise$Reader" 86 ⟨"SilkRise$Reader", "lawStatement", "(I)V"⟩, .instanceMethod ⟨"SilkRise$Reader", "lawStatement", "(I)V"⟩, .selects "SilkRise$Reader" ⟨"SilkRise$Reader", "lawStatement", "(I)V"⟩ ⟨"SilkRise$Reader", "lawStatement", "(I)V"⟩, .methodLink "SilkRise$Reader" 90 ⟨"SilkRise$Reader", "take", "(I)Z"⟩, .instanceMethod ⟨"SilkRise$Reader", "take", "(I)Z"⟩, .selects "SilkRise$Reader" ⟨"SilkRise$Reader", "take", "(I)Z"⟩ ⟨"SilkRise$Reader", "take", "(I)Z"⟩, .fieldLinkNest "SilkRise$Reader" 94 "SilkRise$Plan" "start" "LSilkRise$State;" "SilkRise", .fieldLinkNest "SilkRise$Reader" 98 "SilkRise$State" "loads" "LSilkRise$Things;" "SilkRise", .methodLink "SilkRise$Reader" 104 ⟨"SilkRise$Reader", "takeFirst", "(LSilkRise$Things;)V"⟩, .instanceMethod ⟨"SilkRise$Reader", "takeFirst", "(LSilkRise$Things;)V"⟩, .selects "SilkRise$Reader" ⟨"SilkRise$Reader", "takeFirst", "(LSilkRise$Things;)V"⟩ ⟨"SilkRise$Reader", "takeFirst", "(LSilkRise$Things;)V"⟩, .methodLink "SilkRise$Reader" 108 ⟨"SilkRise$Reader", "takeName", "()V"⟩, .instanceMethod ⟨"SilkRise$Reader", "takeName", "()V"⟩, .selects "SilkRise$Reader" ⟨"SilkRise$Reader", "takeName", "()V"⟩ ⟨"SilkRise$Reader", "takeName", "()V"⟩, .methodLink "SilkRise$Reader" 111 ⟨"SilkRise$Things", "add", "()I"⟩, .instanceMethod ⟨"SilkRise$Things", "add", "()I"⟩, .selects "SilkRise$Things" ⟨"SilkRise$Things", "add", "()I"⟩ ⟨"SilkRise$Things", "add", "()I"⟩, .methodLink "SilkRise$Reader" 117 ⟨"SilkRise$Reader", "takeNumber", "(III)I"⟩, .instanceMethod ⟨"SilkRise$Reader", "takeNumber", "(III)I"⟩, .selects "SilkRise$Reader" ⟨"SilkRise$Reader", "takeNumber", "(III)I"⟩ ⟨"SilkRise$Reader", "takeNumber", "(III)I"⟩, .methodLink "SilkRise$Reader" 121 ⟨"SilkRise$Things", "put", "(III)V"⟩, .fieldLinkNest "SilkRise$Reader" 125 "SilkRise$State" "silks" "LSilkRise$Things;" "SilkRise", .fieldLinkNest "SilkRise$Reader" 128 "SilkRise$State" "hooks" "LSilkRise$Things;" "SilkRise", .methodLinkNest "SilkRise$Reader" 131 ⟨"SilkRise", "isWithin", "(III)Z"⟩ "SilkRise", .static ⟨"SilkRise", "isWithin", "(III)Z"⟩, .initialized "SilkRise", .methodLink "SilkRise$Reader" 135 ⟨"SilkRise$Reader", "fail", "(I)V"⟩]
theorem zchp_6 : zch_6 = ([758, 17, 254, 260, 262, 760, 762, 18, 717, 719, 11, 249, 171, 701, 703, 9, 721, 723, 12, 733, 734, 735, 742, 744, 14, 747, 177, 181, 746, 580, 106, 709] : List Nat).filterMap (fun i => lw_tbl[i]?) := by decide +kernel
def zch_7 : List Jvm.Cond := [.instanceMethod ⟨"SilkRise$Reader", "fail", "(I)V"⟩, .selects "SilkRise$Reader" ⟨"SilkRise$Reader", "fail", "(I)V"⟩ ⟨"SilkRise$Reader", "fail", "(I)V"⟩, .fieldLinkNest "SilkRise$Reader" 138 "SilkRise$Plan" "laws" "LSilkRise$Laws;" "SilkRise", .methodLink "SilkRise$Reader" 142 ⟨"SilkRise$Laws", "begin", "(I)V"⟩, .methodLink "SilkRise$Reader" 147 ⟨"SilkRise$Reader", "sum", "(I)V"⟩, .instanceMethod ⟨"SilkRise$Reader", "sum", "(I)V"⟩, .selects "SilkRise$Reader" ⟨"SilkRise$Reader", "sum", "(I)V"⟩ ⟨"SilkRise$Reader", "sum", "(I)V"⟩, .methodLink "SilkRise$Reader" 150 ⟨"SilkRise$Laws", "addLess", "()I"⟩, .instanceMethod ⟨"SilkRise$Laws", "addLess", "()I"⟩, .selects "SilkRise$Laws" ⟨"SilkRise$Laws", "addLess", "()I"⟩ ⟨"SilkRise$Laws", "addLess", "()I"⟩, .methodLink "SilkRise$Reader" 153 ⟨"SilkRise$Laws", "add", "(I)V"⟩, .methodLink "SilkRise$Reader" 155 ⟨"SilkRise$Laws", "goHereFrom", "(I)V"⟩, .instanceMethod ⟨"SilkRise$Laws", "goHereFrom", "(I)V"⟩, .selects "SilkRise$Laws" ⟨"SilkRise$Laws", "goHereFrom", "(I)V"⟩ ⟨"SilkRise$Laws", "goHereFrom", "(I)V"⟩, .methodLink "SilkRise$Reader" 158 ⟨"SilkRise$Reader", "product", "(I)V"⟩, .instanceMethod ⟨"SilkRise$Reader", "product", "(I)V"⟩, .selects "SilkRise$Reader" ⟨"SilkRise$Reader", "product", "(I)V"⟩ ⟨"SilkRise$Reader", "product", "(I)V"⟩, .methodLink "SilkRise$Reader" 161 ⟨"SilkRise$Reader", "unit", "(I)V"⟩, .instanceMethod ⟨"SilkRise$Reader", "unit", "(I)V"⟩, .selects "SilkRise$Reader" ⟨"SilkRise$Reader", "unit", "(I)V"⟩ ⟨"SilkRise$Reader", "unit", "(I)V"⟩, .methodLink "SilkRise$Reader" 164 ⟨"SilkRise$Tokens", "valueAt", "(I)J"⟩, .instanceMethod ⟨"SilkRise$Tokens", "valueAt", "(I)J"⟩, .selects "SilkRise$Tokens" ⟨"SilkRise$Tokens", "valueAt", "(I)J"⟩ ⟨"SilkRise$Tokens", "valueAt", "(I)J"⟩, .methodLink "SilkRise$Reader" 168 ⟨"SilkRise$Things", "isFull", "()Z"⟩, .methodLink "SilkRise$Reader" 172 ⟨"SilkRise$Tokens", "placeAt", "(I)I"⟩, .instanceMethod ⟨"SilkRise$Tokens", "placeAt", "(I)I"⟩, .selects "SilkRise$Tokens" ⟨"SilkRise$Tokens", "placeAt", "(I)I"⟩ ⟨"SilkRise$Tokens", "placeAt", "(I)I"⟩, .methodLink "SilkRise$Reader" 175 ⟨"SilkRise$Reader", "failLate", "(II)V"⟩, .instanceMethod ⟨"SilkRise$Reader", "failLate", "(II)V"⟩, .selects "SilkRise$Reader" ⟨"SilkRise$Reader", "failLate", "(II)V"⟩ ⟨"SilkRise$Reader", "failLate", "(II)V"⟩, .methodLink "SilkRise$Sky" 3 ⟨"java/lang/Object", "<init>", "()V"⟩, .fieldLink "SilkRise$Sky" 9 "SilkRise$Sky" "laws" "LSilkRise$Laws;"]
theorem zchp_7 : zch_7 = ([711, 10, 252, 764, 765, 767, 19, 778, 779, 780, 777, 782, 783, 784, 769, 771, 20, 773, 775, 21, 725, 726, 727, 705, 713, 714, 715, 729, 731, 13, 404, 405] : List Nat).filterMap (fun i => lw_tbl[i]?) := by decide +kernel
def zch_8 : List Jvm.Cond := [.fieldLink "SilkRise$Sky" 15 "SilkRise$Sky" "vars" "[I", .fieldLink "SilkRise$Sky" 19 "SilkRise$Sky" "stack" "[I", .methodLink "SilkRise$Sky" 22 ⟨"SilkRise$Sky", "look", "(IIIII)V"⟩, .instanceMethod ⟨"SilkRise$Sky", "look", "(IIIII)V"⟩, .selects "SilkRise$Sky" ⟨"SilkRise$Sky", "look", "(IIIII)V"⟩ ⟨"SilkRise$Sky", "look", "(IIIII)V"⟩, .initialized "SilkRise$Sky", .methodLink "SilkRise$Sky" 26 ⟨"SilkRise$Sky", "valueOf", "(I)I"⟩, .instanceMethod ⟨"SilkRise$Sky", "valueOf", "(I)I"⟩, .selects "SilkRise$Sky" ⟨"SilkRise$Sky", "valueOf", "(I)I"⟩ ⟨"SilkRise$Sky", "valueOf", "(I)I"⟩, .methodLinkNest "SilkRise$Sky" 30 ⟨"SilkRise", "keptWithin", "(III)I"⟩ "SilkRise", .static ⟨"SilkRise", "keptWithin", "(III)I"⟩, .methodLink "SilkRise$Sky" 34 ⟨"SilkRise$Laws", "startOf", "(I)I"⟩, .instanceMethod ⟨"SilkRise$Laws", "startOf", "(I)I"⟩, .selects "SilkRise$Laws" ⟨"SilkRise$Laws", "startOf", "(I)I"⟩ ⟨"SilkRise$Laws", "startOf", "(I)I"⟩, .methodLink "SilkRise$Sky" 39 ⟨"SilkRise$Laws", "size", "()I"⟩, .instanceMethod ⟨"SilkRise$Laws", "size", "()I"⟩, .selects "SilkRise$Laws" ⟨"SilkRise$Laws", "size", "()I"⟩ ⟨"SilkRise$Laws", "size", "()I"⟩, .methodLink "SilkRise$Sky" 43 ⟨"SilkRise$Laws", "cell", "(I)I"⟩, .instanceMethod ⟨"SilkRise$Laws", "cell", "(I)I"⟩, .selects "SilkRise$Laws" ⟨"SilkRise$Laws", "cell", "(I)I"⟩ ⟨"SilkRise$Laws", "cell", "(I)I"⟩, .methodLink "SilkRise$Sky" 46 ⟨"SilkRise$Sky", "varOf", "(I)I"⟩, .instanceMethod ⟨"SilkRise$Sky", "varOf", "(I)I"⟩, .selects "SilkRise$Sky" ⟨"SilkRise$Sky", "varOf", "(I)I"⟩ ⟨"SilkRise$Sky", "varOf", "(I)I"⟩, .methodLink "SilkRise$Sky" 49 ⟨"SilkRise$Sky", "onStack", "(I)I"⟩, .instanceMethod ⟨"SilkRise$Sky", "onStack", "(I)I"⟩, .selects "SilkRise$Sky" ⟨"SilkRise$Sky", "onStack", "(I)I"⟩ ⟨"SilkRise$Sky", "onStack", "(I)I"⟩, .methodLink "SilkRise$Sky" 52 ⟨"SilkRise$Sky", "joined", "(III)I"⟩, .static ⟨"SilkRise$Sky", "joined", "(III)I"⟩, .methodLink "SilkRise$Air" 3 ⟨"java/lang/Object", "<init>", "()V"⟩, .fieldLink "SilkRise$Air" 9 "SilkRise$Air" "plan" "LSilkRise$Plan;", .fieldLink "SilkRise$Air" 15 "SilkRise$Air" "sky" "LSilkRise$Sky;", .fieldLink "SilkRise$Air" 19 "SilkRise$Air" "handsFull" "[I"]
theorem zchp_8 : zch_8 = ([406, 407, 880, 882, 22, 117, 884, 886, 23, 911, 912, 888, 889, 890, 892, 893, 894, 896, 897, 898, 900, 902, 24, 904, 906, 25, 908, 909, 420, 421, 422, 423] : List Nat).filterMap (fun i => lw_tbl[i]?) := by decide +kernel
def zch_9 : List Jvm.Cond := [.methodLink "SilkRise$Air" 23 ⟨"SilkRise$Air", "stirred", "(II)I"⟩, .static ⟨"SilkRise$Air", "stirred", "(II)I"⟩, .initialized "SilkRise$Air", .fieldLinkNest "SilkRise$Air" 27 "SilkRise$Plan" "gusts" "I" "SilkRise", .constant "SilkRise$Air" 33 (1103515245 : Int32), .methodLink "SilkRise$Air" 34 ⟨"SilkRise$State", "up", "()I"⟩, .instanceMethod ⟨"SilkRise$State", "up", "()I"⟩, .selects "SilkRise$State" ⟨"SilkRise$State", "up", "()I"⟩ ⟨"SilkRise$State", "up", "()I"⟩, .fieldLinkNest "SilkRise$Air" 40 "SilkRise$State" "hour" "I" "SilkRise", .methodLink "SilkRise$Air" 43 ⟨"SilkRise$Air", "isGust", "(II)Z"⟩, .instanceMethod ⟨"SilkRise$Air", "isGust", "(II)Z"⟩, .selects "SilkRise$Air" ⟨"SilkRise$Air", "isGust", "(II)Z"⟩ ⟨"SilkRise$Air", "isGust", "(II)Z"⟩, .methodLink "SilkRise$Air" 47 ⟨"SilkRise$Air", "passOne", "(LSilkRise$State;Z)V"⟩, .instanceMethod ⟨"SilkRise$Air", "passOne", "(LSilkRise$State;Z)V"⟩, .selects "SilkRise$Air" ⟨"SilkRise$Air", "passOne", "(LSilkRise$State;Z)V"⟩ ⟨"SilkRise$Air", "passOne", "(LSilkRise$State;Z)V"⟩, .methodLink "SilkRise$Air" 51 ⟨"SilkRise$State", "loadsThat", "(I)I"⟩, .methodLink "SilkRise$Air" 55 ⟨"SilkRise$State", "stored", "()I"⟩, .instanceMethod ⟨"SilkRise$State", "stored", "()I"⟩, .selects "SilkRise$State" ⟨"SilkRise$State", "stored", "()I"⟩ ⟨"SilkRise$State", "stored", "()I"⟩, .methodLink "SilkRise$Air" 58 ⟨"SilkRise$Sky", "begin", "(III)V"⟩, .instanceMethod ⟨"SilkRise$Sky", "begin", "(III)V"⟩, .selects "SilkRise$Sky" ⟨"SilkRise$Sky", "begin", "(III)V"⟩ ⟨"SilkRise$Sky", "begin", "(III)V"⟩, .fieldLinkNest "SilkRise$Air" 64 "SilkRise$State" "loads" "LSilkRise$Things;" "SilkRise", .methodLink "SilkRise$Air" 68 ⟨"SilkRise$Things", "size", "()I"⟩, .methodLink "SilkRise$Air" 73 ⟨"SilkRise$Air", "drift", "(LSilkRise$State;IZ)V"⟩, .instanceMethod ⟨"SilkRise$Air", "drift", "(LSilkRise$State;IZ)V"⟩, .selects "SilkRise$Air" ⟨"SilkRise$Air", "drift", "(LSilkRise$State;IZ)V"⟩ ⟨"SilkRise$Air", "drift", "(LSilkRise$State;IZ)V"⟩, .methodLink "SilkRise$Air" 77 ⟨"SilkRise$Things", "at", "(II)I"⟩, .fieldLinkNest "SilkRise$Air" 80 "SilkRise$Plan" "rim" "I" "SilkRise", .methodLink "SilkRise$Air" 83 ⟨"SilkRise$Air", "comeToRim", "(LSilkRise$State;I)V"⟩, .instanceMethod ⟨"SilkRise$Air", "comeToRim", "(LSilkRise$State;I)V"⟩, .selects "SilkRise$Air" ⟨"SilkRise$Air", "comeToRim", "(LSilkRise$State;I)V"⟩ ⟨"SilkRise$Air", "comeToRim", "(LSilkRise$State;I)V"⟩]
theorem zchp_9 : zch_9 = ([983, 984, 118, 259, 986, 978, 850, 851, 187, 979, 980, 981, 987, 989, 27, 991, 992, 869, 870, 993, 873, 874, 172, 994, 995, 997, 28, 999, 256, 1004, 1006, 29] : List Nat).filterMap (fun i => lw_tbl[i]?) := by decide +kernel
def zch_10 : List Jvm.Cond := [.methodLink "SilkRise$Air" 87 ⟨"SilkRise$State", "bringDown", "(II)V"⟩, .instanceMethod ⟨"SilkRise$State", "bringDown", "(II)V"⟩, .selects "SilkRise$State" ⟨"SilkRise$State", "bringDown", "(II)V"⟩ ⟨"SilkRise$State", "bringDown", "(II)V"⟩, .fieldLinkNest "SilkRise$Air" 91 "SilkRise$State" "silks" "LSilkRise$Things;" "SilkRise", .methodLink "SilkRise$Air" 94 ⟨"SilkRise$Sky", "lift", "(IIII)I"⟩, .instanceMethod ⟨"SilkRise$Sky", "lift", "(IIII)I"⟩, .selects "SilkRise$Sky" ⟨"SilkRise$Sky", "lift", "(IIII)I"⟩ ⟨"SilkRise$Sky", "lift", "(IIII)I"⟩, .methodLink "SilkRise$Air" 98 ⟨"SilkRise$Sky", "wind", "(II)I"⟩, .instanceMethod ⟨"SilkRise$Sky", "wind", "(II)I"⟩, .selects "SilkRise$Sky" ⟨"SilkRise$Sky", "wind", "(II)I"⟩ ⟨"SilkRise$Sky", "wind", "(II)I"⟩, .methodLink "SilkRise$Air" 101 ⟨"SilkRise$Things", "put", "(III)V"⟩, .methodLinkNest "SilkRise$Air" 104 ⟨"SilkRise", "keptWithin", "(III)I"⟩ "SilkRise", .methodLink "SilkRise$Air" 108 ⟨"SilkRise$Air", "busyHooks", "(LSilkRise$State;)I"⟩, .instanceMethod ⟨"SilkRise$Air", "busyHooks", "(LSilkRise$State;)I"⟩, .selects "SilkRise$Air" ⟨"SilkRise$Air", "busyHooks", "(LSilkRise$State;)I"⟩ ⟨"SilkRise$Air", "busyHooks", "(LSilkRise$State;)I"⟩, .methodLink "SilkRise$Air" 112 ⟨"SilkRise$State", "nearestHook", "(II)I"⟩, .instanceMethod ⟨"SilkRise$State", "nearestHook", "(II)I"⟩, .selects "SilkRise$State" ⟨"SilkRise$State", "nearestHook", "(II)I"⟩ ⟨"SilkRise$State", "nearestHook", "(II)I"⟩, .fieldLinkNest "SilkRise$Air" 115 "SilkRise$State" "hooks" "LSilkRise$Things;" "SilkRise", .fieldLinkNest "SilkRise$Air" 118 "SilkRise$State" "earned" "I" "SilkRise", .methodLink "SilkRise$Air" 121 ⟨"SilkRise$Sky", "pays", "(II)I"⟩, .instanceMethod ⟨"SilkRise$Sky", "pays", "(II)I"⟩, .selects "SilkRise$Sky" ⟨"SilkRise$Sky", "pays", "(II)I"⟩ ⟨"SilkRise$Sky", "pays", "(II)I"⟩, .methodLink "SilkRise$Course" 3 ⟨"java/lang/Object", "<init>", "()V"⟩, .fieldLink "SilkRise$Course" 9 "SilkRise$Course" "plan" "LSilkRise$Plan;", .fieldLink "SilkRise$Course" 15 "SilkRise$Course" "now" "LSilkRise$State;", .fieldLink "SilkRise$Course" 19 "SilkRise$Course" "sky" "LSilkRise$Sky;", .fieldLink "SilkRise$Course" 23 "SilkRise$Course" "hours" "I", .fieldLink "SilkRise$Course" 27 "SilkRise$Course" "end" "I", .fieldLink "SilkRise$Course" 30 "SilkRise$Course" "hook" "I", .fieldLink "SilkRise$Course" 33 "SilkRise$Course" "x" "I", .fieldLink "SilkRise$Course" 36 "SilkRise$Course" "earned" "I"]
theorem zchp_10 : zch_10 = ([1019, 1020, 1021, 178, 1000, 877, 878, 1001, 917, 918, 1002, 1003, 1008, 1010, 30, 1012, 1013, 1014, 182, 190, 1023, 925, 926, 436, 437, 438, 439, 440, 442, 445, 447, 450] : List Nat).filterMap (fun i => lw_tbl[i]?) := by decide +kernel
def zch_11 : List Jvm.Cond := [.fieldLinkNest "SilkRise$Course" 39 "SilkRise$State" "loads" "LSilkRise$Things;" "SilkRise", .methodLink "SilkRise$Course" 45 ⟨"SilkRise$Things", "at", "(II)I"⟩, .fieldLinkNest "SilkRise$Course" 51 "SilkRise$State" "silks" "LSilkRise$Things;" "SilkRise", .fieldLinkNest "SilkRise$Course" 54 "SilkRise$State" "hour" "I" "SilkRise", .methodLink "SilkRise$Course" 57 ⟨"SilkRise$Course", "go", "(IIIIII)V"⟩, .instanceMethod ⟨"SilkRise$Course", "go", "(IIIIII)V"⟩, .selects "SilkRise$Course" ⟨"SilkRise$Course", "go", "(IIIIII)V"⟩ ⟨"SilkRise$Course", "go", "(IIIIII)V"⟩, .initialized "SilkRise$Course", .methodLink "SilkRise$Course" 61 ⟨"SilkRise$Sky", "pays", "(II)I"⟩, .methodLink "SilkRise$Course" 66 ⟨"SilkRise$State", "stored", "()I"⟩, .methodLink "SilkRise$Course" 70 ⟨"SilkRise$Sky", "begin", "(III)V"⟩, .methodLink "SilkRise$Course" 74 ⟨"SilkRise$Sky", "lift", "(IIII)I"⟩, .methodLink "SilkRise$Course" 78 ⟨"SilkRise$Sky", "wind", "(II)I"⟩, .methodLinkNest "SilkRise$Course" 81 ⟨"SilkRise", "keptWithin", "(III)I"⟩ "SilkRise", .methodLink "SilkRise$Course" 85 ⟨"SilkRise$Course", "endAt", "(II)V"⟩, .instanceMethod ⟨"SilkRise$Course", "endAt", "(II)V"⟩, .selects "SilkRise$Course" ⟨"SilkRise$Course", "endAt", "(II)V"⟩ ⟨"SilkRise$Course", "endAt", "(II)V"⟩, .fieldLinkNest "SilkRise$Course" 89 "SilkRise$Plan" "rim" "I" "SilkRise", .methodLink "SilkRise$Course" 94 ⟨"SilkRise$State", "nearestHook", "(II)I"⟩, .methodLink "SilkRise$Filling" 3 ⟨"java/lang/Object", "<init>", "()V"⟩, .fieldLink "SilkRise$Filling" 9 "SilkRise$Filling" "now" "LSilkRise$State;", .fieldLink "SilkRise$Filling" 15 "SilkRise$Filling" "sky" "LSilkRise$Sky;", .fieldLink "SilkRise$Filling" 19 "SilkRise$Filling" "course" "LSilkRise$Course;", .classLink "SilkRise$Filling" 23 "[[I", .arrayOver (Jvm.ClassFile.FieldType.array Jvm.ClassFile.FieldType.int), .fieldLink "SilkRise$Filling" 25 "SilkRise$Filling" "gains" "[[I", .fieldLink "SilkRise$Filling" 28 "SilkRise$Filling" "best" "[[I", .fieldLink "SilkRise$Filling" 31 "SilkRise$Filling" "hooks" "[I", .methodLink "SilkRise$Filling" 35 ⟨"SilkRise$State", "isReady", "(II)Z"⟩, .instanceMethod ⟨"SilkRise$State", "isReady", "(II)Z"⟩, .selects "SilkRise$State" ⟨"SilkRise$State", "isReady", "(II)Z"⟩ ⟨"SilkRise$State", "isReady", "(II)Z"⟩, .methodLink "SilkRise$Filling" 41 ⟨"SilkRise$Filling", "gainOf", "(II)I"⟩]
theorem zchp_11 : zch_11 = ([169, 1040, 176, 186, 1041, 1042, 1043, 119, 1055, 1045, 1046, 1047, 1048, 1049, 1050, 1052, 31, 255, 1054, 475, 478, 479, 480, 476, 477, 481, 482, 483, 1091, 937, 938, 1092] : List Nat).filterMap (fun i => lw_tbl[i]?) := by decide +kernel
def zch_12 : List Jvm.Cond := [.instanceMethod ⟨"SilkRise$Filling", "gainOf", "(II)I"⟩, .selects "SilkRise$Filling" ⟨"SilkRise$Filling", "gainOf", "(II)I"⟩ ⟨"SilkRise$Filling", "gainOf", "(II)I"⟩, .initialized "SilkRise$Filling", .constant "SilkRise$Filling" 45 (-1000000 : Int32), .methodLink "SilkRise$Filling" 46 ⟨"SilkRise$Filling", "bestFrom", "(II)I"⟩, .instanceMethod ⟨"SilkRise$Filling", "bestFrom", "(II)I"⟩, .selects "SilkRise$Filling" ⟨"SilkRise$Filling", "bestFrom", "(II)I"⟩ ⟨"SilkRise$Filling", "bestFrom", "(II)I"⟩, .fieldLinkNest "SilkRise$Filling" 49 "SilkRise$State" "silks" "LSilkRise$Things;" "SilkRise", .methodLink "SilkRise$Filling" 53 ⟨"SilkRise$Things", "at", "(II)I"⟩, .methodLink "SilkRise$Filling" 58 ⟨"SilkRise$Course", "fly", "(IIII)V"⟩, .instanceMethod ⟨"SilkRise$Course", "fly", "(IIII)V"⟩, .selects "SilkRise$Course" ⟨"SilkRise$Course", "fly", "(IIII)V"⟩ ⟨"SilkRise$Course", "fly", "(IIII)V"⟩, .fieldLinkNest "SilkRise$Filling" 64 "SilkRise$Course" "end" "I" "SilkRise", .fieldLinkNest "SilkRise$Filling" 68 "SilkRise$State" "hour" "I" "SilkRise", .methodLink "SilkRise$Filling" 71 ⟨"SilkRise$State", "up", "()I"⟩, .methodLink "SilkRise$Filling" 75 ⟨"SilkRise$State", "stored", "()I"⟩, .methodLink "SilkRise$Filling" 78 ⟨"SilkRise$Sky", "begin", "(III)V"⟩, .fieldLinkNest "SilkRise$Filling" 84 "SilkRise$Course" "earned" "I" "SilkRise", .fieldLinkNest "SilkRise$Filling" 87 "SilkRise$State" "loads" "LSilkRise$Things;" "SilkRise", .methodLink "SilkRise$Filling" 90 ⟨"SilkRise$Sky", "ties", "(II)I"⟩, .instanceMethod ⟨"SilkRise$Sky", "ties", "(II)I"⟩, .selects "SilkRise$Sky" ⟨"SilkRise$Sky", "ties", "(II)I"⟩ ⟨"SilkRise$Sky", "ties", "(II)I"⟩, .methodLink "SilkRise$Filling" 93 ⟨"SilkRise$Filling", "sumBy", "(III)I"⟩, .instanceMethod ⟨"SilkRise$Filling", "sumBy", "(III)I"⟩, .selects "SilkRise$Filling" ⟨"SilkRise$Filling", "sumBy", "(III)I"⟩ ⟨"SilkRise$Filling", "sumBy", "(III)I"⟩, .methodLink "SilkRise$Filling" 97 ⟨"java/lang/Math", "max", "(II)I"⟩, .static ⟨"java/lang/Math", "max", "(II)I"⟩, .methodLink "SilkRise$Filling" 102 ⟨"SilkRise$Filling", "firstBest", "(II)I"⟩, .instanceMethod ⟨"SilkRise$Filling", "firstBest", "(II)I"⟩, .selects "SilkRise$Filling" ⟨"SilkRise$Filling", "firstBest", "(II)I"⟩ ⟨"SilkRise$Filling", "firstBest", "(II)I"⟩, .methodLink "SilkRise$Filling" 105 ⟨"SilkRise$Filling", "hooksFor", "(II)I"⟩, .instanceMethod ⟨"SilkRise$Filling", "hooksFor", "(II)I"⟩]
theorem zchp_12 : zch_12 = ([1094, 33, 120, 1098, 1103, 1105, 34, 175, 1096, 1097, 1037, 1038, 443, 185, 1099, 1100, 1101, 451, 170, 1102, 921, 922, 1107, 1109, 35, 1111, 648, 1120, 1122, 36, 1133, 1135] : List Nat).filterMap (fun i => lw_tbl[i]?) := by decide +kernel
def zch_13 : List Jvm.Cond := [.selects "SilkRise$Filling" ⟨"SilkRise$Filling", "hooksFor", "(II)I"⟩ ⟨"SilkRise$Filling", "hooksFor", "(II)I"⟩, .methodLink "SilkRise$Filling" 108 ⟨"SilkRise$Course", "isAtRim", "()Z"⟩, .instanceMethod ⟨"SilkRise$Course", "isAtRim", "()Z"⟩, .selects "SilkRise$Course" ⟨"SilkRise$Course", "isAtRim", "()Z"⟩ ⟨"SilkRise$Course", "isAtRim", "()Z"⟩, .fieldLinkNest "SilkRise$Filling" 112 "SilkRise$Course" "x" "I" "SilkRise", .methodLink "SilkRise$Filling" 115 ⟨"SilkRise$State", "hooksReaching", "(I)I"⟩, .instanceMethod ⟨"SilkRise$State", "hooksReaching", "(I)I"⟩, .selects "SilkRise$State" ⟨"SilkRise$State", "hooksReaching", "(I)I"⟩ ⟨"SilkRise$State", "hooksReaching", "(I)I"⟩, .methodLink "SilkRise$Past" 3 ⟨"java/lang/Object", "<init>", "()V"⟩, .classLink "SilkRise$Past" 9 "SilkRise$State", .arrayOver (Jvm.ClassFile.FieldType.object "SilkRise$State"), .fieldLink "SilkRise$Past" 11 "SilkRise$Past" "done" "[LSilkRise$State;", .methodLink "SilkRise$Past" 17 ⟨"SilkRise$State", "<init>", "()V"⟩, .fieldLink "SilkRise$Past" 18 "SilkRise$Past" "slots" "[LSilkRise$State;", .fieldLink "SilkRise$Past" 21 "SilkRise$Past" "next" "I", .fieldLink "SilkRise$Past" 25 "SilkRise$Past" "depth" "I", .fieldLink "SilkRise$Past" 28 "SilkRise$Past" "heldSlots" "I", .methodLink "SilkRise$Past" 31 ⟨"java/lang/Integer", "bitCount", "(I)I"⟩, .methodLink "SilkRise$Past" 37 ⟨"SilkRise$State", "become", "(LSilkRise$State;)V"⟩, .methodLink "SilkRise$Past" 41 ⟨"java/lang/Math", "min", "(II)I"⟩, .methodLink "SilkRise$Past" 47 ⟨"SilkRise$Past", "isSlot", "(I)Z"⟩, .instanceMethod ⟨"SilkRise$Past", "isSlot", "(I)Z"⟩, .selects "SilkRise$Past" ⟨"SilkRise$Past", "isSlot", "(I)Z"⟩ ⟨"SilkRise$Past", "isSlot", "(I)Z"⟩, .initialized "SilkRise$Past", .methodLink "SilkRise" 1 ⟨"java/lang/Object", "<init>", "()V"⟩, .fieldLink "SilkRise" 9 "SilkRise" "tape" "[B", .fieldLink "SilkRise" 13 "SilkRise" "tapeSize" "I", .fieldLink "SilkRise" 17 "SilkRise" "faultPlace" "I", .classLink "SilkRise" 20 "SilkRise$Plan", .instantiable "SilkRise$Plan" 5, .methodLink "SilkRise" 22 ⟨"SilkRise$Plan", "<init>", "()V"⟩, .instanceMethod ⟨"SilkRise$Plan", "<init>", "()V"⟩]
theorem zchp_13 : zch_13 = ([37, 1137, 1079, 1080, 448, 1138, 1139, 1140, 502, 503, 504, 506, 505, 509, 507, 508, 510, 1233, 953, 954, 1208, 1210, 42, 121, 132, 524, 525, 526, 135, 136, 137, 138] : List Nat).filterMap (fun i => lw_tbl[i]?) := by decide +kernel
def zch_14 : List Jvm.Cond := [.fieldLink "SilkRise" 23 "SilkRise" "plan" "LSilkRise$Plan;", .fieldLink "SilkRise" 27 "SilkRise" "draft" "LSilkRise$Plan;", .classLink "SilkRise" 30 "SilkRise$Reader", .instantiable "SilkRise$Reader" 10, .methodLink "SilkRise" 32 ⟨"SilkRise$Reader", "<init>", "(LSilkRise$Plan;)V"⟩, .instanceMethod ⟨"SilkRise$Reader", "<init>", "(LSilkRise$Plan;)V"⟩, .fieldLink "SilkRise" 35 "SilkRise" "reader" "LSilkRise$Reader;", .classLink "SilkRise" 39 "SilkRise$State", .methodLink "SilkRise" 41 ⟨"SilkRise$State", "<init>", "()V"⟩, .fieldLink "SilkRise" 42 "SilkRise" "now" "LSilkRise$State;", .fieldLink "SilkRise" 46 "SilkRise" "trial" "LSilkRise$State;", .classLink "SilkRise" 49 "SilkRise$Sky", .instantiable "SilkRise$Sky" 3, .fieldLinkNest "SilkRise" 51 "SilkRise$Plan" "laws" "LSilkRise$Laws;" "SilkRise", .methodLink "SilkRise" 55 ⟨"SilkRise$Sky", "<init>", "(LSilkRise$Laws;)V"⟩, .instanceMethod ⟨"SilkRise$Sky", "<init>", "(LSilkRise$Laws;)V"⟩, .fieldLink "SilkRise" 58 "SilkRise" "sky" "LSilkRise$Sky;", .classLink "SilkRise" 62 "SilkRise$Air", .instantiable "SilkRise$Air" 3, .methodLink "SilkRise" 64 ⟨"SilkRise$Air", "<init>", "(LSilkRise$Plan;LSilkRise$Sky;)V"⟩, .instanceMethod ⟨"SilkRise$Air", "<init>", "(LSilkRise$Plan;LSilkRise$Sky;)V"⟩, .fieldLink "SilkRise" 67 "SilkRise" "air" "LSilkRise$Air;", .classLink "SilkRise" 71 "SilkRise$Course", .instantiable "SilkRise$Course" 8, .methodLink "SilkRise" 73 ⟨"SilkRise$Course", "<init>", "(LSilkRise$Plan;LSilkRise$State;LSilkRise$Sky;)V"⟩, .instanceMethod ⟨"SilkRise$Course", "<init>", "(LSilkRise$Plan;LSilkRise$State;LSilkRise$Sky;)V"⟩, .fieldLink "SilkRise" 76 "SilkRise" "course" "LSilkRise$Course;", .classLink "SilkRise" 80 "SilkRise$Filling", .instantiable "SilkRise$Filling" 6, .methodLink "SilkRise" 82 ⟨"SilkRise$Filling", "<init>", "(LSilkRise$State;LSilkRise$Sky;LSilkRise$Course;)V"⟩, .instanceMethod ⟨"SilkRise$Filling", "<init>", "(LSilkRise$State;LSilkRise$Sky;LSilkRise$Course;)V"⟩, .fieldLink "SilkRise" 85 "SilkRise" "filling" "LSilkRise$Filling;"]
theorem zchp_14 : zch_14 = ([527, 528, 275, 276, 277, 278, 529, 397, 398, 530, 531, 399, 400, 251, 401, 402, 532, 415, 416, 417, 418, 533, 431, 432, 433, 434, 534, 470, 471, 472, 473, 535] : List Nat).filterMap (fun i => lw_tbl[i]?) := by decide +kernel
def zch_15 : List Jvm.Cond := [.classLink "SilkRise" 89 "SilkRise$Past", .instantiable "SilkRise$Past" 5, .methodLink "SilkRise" 91 ⟨"SilkRise$Past", "<init>", "()V"⟩, .instanceMethod ⟨"SilkRise$Past", "<init>", "()V"⟩, .fieldLink "SilkRise" 92 "SilkRise" "past" "LSilkRise$Past;", .classLink "SilkRise" 96 "SilkRise$Things", .methodLink "SilkRise" 98 ⟨"SilkRise$Things", "<init>", "(II)V"⟩, .fieldLink "SilkRise" 101 "SilkRise" "told" "LSilkRise$Things;", .methodLink "SilkRise" 105 ⟨"SilkRise", "appendBytes", "(I)V"⟩, .instanceMethod ⟨"SilkRise", "appendBytes", "(I)V"⟩, .selects "SilkRise" ⟨"SilkRise", "appendBytes", "(I)V"⟩ ⟨"SilkRise", "appendBytes", "(I)V"⟩, .methodLink "SilkRise" 109 ⟨"SilkRise", "isWithin", "(III)Z"⟩, .methodLink "SilkRise" 113 ⟨"SilkRise$Reader", "faultOf", "([BI)I"⟩, .instanceMethod ⟨"SilkRise$Reader", "faultOf", "([BI)I"⟩, .selects "SilkRise$Reader" ⟨"SilkRise$Reader", "faultOf", "([BI)I"⟩ ⟨"SilkRise$Reader", "faultOf", "([BI)I"⟩, .methodLink "SilkRise" 117 ⟨"SilkRise$Reader", "faultPlace", "()I"⟩, .instanceMethod ⟨"SilkRise$Reader", "faultPlace", "()I"⟩, .selects "SilkRise$Reader" ⟨"SilkRise$Reader", "faultPlace", "()I"⟩ ⟨"SilkRise$Reader", "faultPlace", "()I"⟩, .methodLink "SilkRise" 120 ⟨"SilkRise$Plan", "become", "(LSilkRise$Plan;)V"⟩, .instanceMethod ⟨"SilkRise$Plan", "become", "(LSilkRise$Plan;)V"⟩, .selects "SilkRise$Plan" ⟨"SilkRise$Plan", "become", "(LSilkRise$Plan;)V"⟩ ⟨"SilkRise$Plan", "become", "(LSilkRise$Plan;)V"⟩, .fieldLinkNest "SilkRise" 123 "SilkRise$Plan" "start" "LSilkRise$State;" "SilkRise", .methodLink "SilkRise" 126 ⟨"SilkRise$State", "become", "(LSilkRise$State;)V"⟩, .methodLink "SilkRise" 129 ⟨"SilkRise$Past", "clear", "()V"⟩, .instanceMethod ⟨"SilkRise$Past", "clear", "()V"⟩, .selects "SilkRise$Past" ⟨"SilkRise$Past", "clear", "()V"⟩ ⟨"SilkRise$Past", "clear", "()V"⟩, .methodLink "SilkRise" 132 ⟨"SilkRise$Things", "clear", "()V"⟩, .fieldLinkNest "SilkRise" 133 "SilkRise$State" "loads" "LSilkRise$Things;" "SilkRise", .methodLink "SilkRise" 136 ⟨"SilkRise$Things", "at", "(II)I"⟩, .fieldLinkNest "SilkRise" 140 "SilkRise$State" "silks" "LSilkRise$Things;" "SilkRise", .methodLink "SilkRise" 143 ⟨"SilkRise$Things", "has", "(I)Z"⟩, .fieldLinkNest "SilkRise" 147 "SilkRise$State" "hooks" "LSilkRise$Things;" "SilkRise"]
theorem zchp_15 : zch_15 = ([497, 498, 499, 500, 536, 522, 523, 537, 571, 573, 0, 579, 586, 587, 588, 786, 787, 788, 790, 791, 792, 248, 811, 812, 813, 814, 816, 173, 825, 179, 837, 183] : List Nat).filterMap (fun i => lw_tbl[i]?) := by decide +kernel
def zch_16 : List Jvm.Cond := [.fieldLinkNest "SilkRise" 150 "SilkRise$State" "hour" "I" "SilkRise", .methodLink "SilkRise" 153 ⟨"SilkRise$State", "up", "()I"⟩, .methodLink "SilkRise" 156 ⟨"SilkRise$State", "stored", "()I"⟩, .methodLink "SilkRise" 159 ⟨"SilkRise$Sky", "begin", "(III)V"⟩, .methodLink "SilkRise" 163 ⟨"SilkRise$Sky", "lift", "(IIII)I"⟩, .methodLink "SilkRise" 167 ⟨"SilkRise$Sky", "wind", "(II)I"⟩, .methodLink "SilkRise" 170 ⟨"SilkRise$Sky", "ties", "(II)I"⟩, .methodLink "SilkRise" 173 ⟨"SilkRise$Sky", "pays", "(II)I"⟩, .methodLink "SilkRise" 176 ⟨"SilkRise", "isPair", "(II)Z"⟩, .instanceMethod ⟨"SilkRise", "isPair", "(II)Z"⟩, .selects "SilkRise" ⟨"SilkRise", "isPair", "(II)Z"⟩ ⟨"SilkRise", "isPair", "(II)Z"⟩, .methodLink "SilkRise" 180 ⟨"SilkRise$State", "isReady", "(II)Z"⟩, .methodLink "SilkRise" 183 ⟨"SilkRise$Past", "keep", "(LSilkRise$State;)V"⟩, .instanceMethod ⟨"SilkRise$Past", "keep", "(LSilkRise$State;)V"⟩, .selects "SilkRise$Past" ⟨"SilkRise$Past", "keep", "(LSilkRise$State;)V"⟩ ⟨"SilkRise$Past", "keep", "(LSilkRise$State;)V"⟩, .methodLink "SilkRise" 186 ⟨"SilkRise$State", "letGo", "(II)V"⟩, .instanceMethod ⟨"SilkRise$State", "letGo", "(II)V"⟩, .selects "SilkRise$State" ⟨"SilkRise$State", "letGo", "(II)V"⟩ ⟨"SilkRise$State", "letGo", "(II)V"⟩, .fieldLinkNest "SilkRise" 189 "SilkRise$State" "paid" "I" "SilkRise", .methodLink "SilkRise" 192 ⟨"SilkRise$Things", "put", "(III)V"⟩, .methodLink "SilkRise" 195 ⟨"SilkRise$State", "isSilkAtFoot", "(I)Z"⟩, .fieldLinkNest "SilkRise" 198 "SilkRise$Plan" "seed" "I" "SilkRise", .methodLink "SilkRise" 201 ⟨"SilkRise$Air", "pass", "(LSilkRise$State;II)V"⟩, .instanceMethod ⟨"SilkRise$Air", "pass", "(LSilkRise$State;II)V"⟩, .selects "SilkRise$Air" ⟨"SilkRise$Air", "pass", "(LSilkRise$State;II)V"⟩ ⟨"SilkRise$Air", "pass", "(LSilkRise$State;II)V"⟩, .methodLink "SilkRise" 205 ⟨"SilkRise$Past", "undoInto", "(LSilkRise$State;)Z"⟩, .instanceMethod ⟨"SilkRise$Past", "undoInto", "(LSilkRise$State;)Z"⟩, .selects "SilkRise$Past" ⟨"SilkRise$Past", "undoInto", "(LSilkRise$State;)Z"⟩ ⟨"SilkRise$Past", "undoInto", "(LSilkRise$State;)Z"⟩, .methodLink "SilkRise" 209 ⟨"SilkRise$Course", "fly", "(IIII)V"⟩, .fieldLinkNest "SilkRise" 213 "SilkRise$Course" "hours" "I" "SilkRise", .fieldLinkNest "SilkRise" 216 "SilkRise$Course" "end" "I" "SilkRise", .fieldLinkNest "SilkRise" 219 "SilkRise$Course" "hook" "I" "SilkRise"]
theorem zchp_16 : zch_16 = ([188, 849, 868, 872, 876, 916, 920, 924, 932, 934, 26, 936, 949, 950, 951, 955, 956, 957, 193, 964, 969, 263, 974, 975, 976, 1028, 1029, 1030, 1036, 441, 444, 446] : List Nat).filterMap (fun i => lw_tbl[i]?) := by decide +kernel
def zch_17 : List Jvm.Cond := [.fieldLinkNest "SilkRise" 222 "SilkRise$Course" "x" "I" "SilkRise", .methodLink "SilkRise" 225 ⟨"SilkRise", "comesTo", "(IIII)Z"⟩, .instanceMethod ⟨"SilkRise", "comesTo", "(IIII)Z"⟩, .selects "SilkRise" ⟨"SilkRise", "comesTo", "(IIII)Z"⟩ ⟨"SilkRise", "comesTo", "(IIII)Z"⟩, .methodLink "SilkRise" 229 ⟨"SilkRise$State", "nearestHook", "(II)I"⟩, .methodLink "SilkRise" 232 ⟨"SilkRise$Course", "go", "(IIIIII)V"⟩, .methodLink "SilkRise" 236 ⟨"SilkRise$Course", "isAtRim", "()Z"⟩, .constant "SilkRise" 240 (-100000 : Int32), .methodLink "SilkRise" 241 ⟨"SilkRise$Filling", "weigh", "()V"⟩, .instanceMethod ⟨"SilkRise$Filling", "weigh", "()V"⟩, .selects "SilkRise$Filling" ⟨"SilkRise$Filling", "weigh", "()V"⟩ ⟨"SilkRise$Filling", "weigh", "()V"⟩, .methodLink "SilkRise" 244 ⟨"SilkRise$Filling", "most", "()I"⟩, .instanceMethod ⟨"SilkRise$Filling", "most", "()I"⟩, .selects "SilkRise$Filling" ⟨"SilkRise$Filling", "most", "()I"⟩ ⟨"SilkRise$Filling", "most", "()I"⟩, .methodLink "SilkRise" 247 ⟨"SilkRise$Filling", "silkOf", "(I)I"⟩, .instanceMethod ⟨"SilkRise$Filling", "silkOf", "(I)I"⟩, .selects "SilkRise$Filling" ⟨"SilkRise$Filling", "silkOf", "(I)I"⟩ ⟨"SilkRise$Filling", "silkOf", "(I)I"⟩, .methodLink "SilkRise" 251 ⟨"SilkRise$Things", "size", "()I"⟩, .methodLink "SilkRise" 254 ⟨"SilkRise$Filling", "findHooks", "()V"⟩, .instanceMethod ⟨"SilkRise$Filling", "findHooks", "()V"⟩, .selects "SilkRise$Filling" ⟨"SilkRise$Filling", "findHooks", "()V"⟩ ⟨"SilkRise$Filling", "findHooks", "()V"⟩, .methodLink "SilkRise" 257 ⟨"java/lang/Integer", "bitCount", "(I)I"⟩, .methodLink "SilkRise" 262 ⟨"SilkRise$Filling", "isServedBy", "(I)Z"⟩, .instanceMethod ⟨"SilkRise$Filling", "isServedBy", "(I)Z"⟩, .selects "SilkRise$Filling" ⟨"SilkRise$Filling", "isServedBy", "(I)Z"⟩ ⟨"SilkRise$Filling", "isServedBy", "(I)Z"⟩, .methodLink "SilkRise" 265 ⟨"SilkRise", "gainBehind", "(III)I"⟩, .instanceMethod ⟨"SilkRise", "gainBehind", "(III)I"⟩, .selects "SilkRise" ⟨"SilkRise", "gainBehind", "(III)I"⟩ ⟨"SilkRise", "gainBehind", "(III)I"⟩, .methodLink "SilkRise" 269 ⟨"SilkRise", "tryHours", "(II)V"⟩, .instanceMethod ⟨"SilkRise", "tryHours", "(II)V"⟩, .selects "SilkRise" ⟨"SilkRise", "tryHours", "(II)V"⟩ ⟨"SilkRise", "tryHours", "(II)V"⟩, .fieldLinkNest "SilkRise" 272 "SilkRise$State" "earned" "I" "SilkRise"]
theorem zchp_17 : zch_17 = ([449, 1064, 1066, 32, 1072, 1077, 1078, 1086, 1087, 1088, 1089, 1112, 1113, 1114, 1116, 1117, 1118, 1128, 1129, 1130, 1131, 1142, 1143, 1144, 1145, 1151, 1153, 38, 1159, 1161, 39, 191] : List Nat).filterMap (fun i => lw_tbl[i]?) := by decide +kernel
def zch_18 : List Jvm.Cond := [.methodLink "SilkRise" 275 ⟨"SilkRise$Things", "isFull", "()Z"⟩, .methodLink "SilkRise" 278 ⟨"SilkRise$Things", "add", "()I"⟩, .methodLink "SilkRise" 281 ⟨"SilkRise", "pullsKnownBy", "(I)I"⟩, .instanceMethod ⟨"SilkRise", "pullsKnownBy", "(I)I"⟩, .selects "SilkRise" ⟨"SilkRise", "pullsKnownBy", "(I)I"⟩ ⟨"SilkRise", "pullsKnownBy", "(I)I"⟩, .methodLink "SilkRise" 284 ⟨"SilkRise", "bitOf", "(I)I"⟩, .static ⟨"SilkRise", "bitOf", "(I)I"⟩, .methodLink "SilkRise" 287 ⟨"SilkRise$Past", "holdIn", "(ILSilkRise$State;)Z"⟩, .instanceMethod ⟨"SilkRise$Past", "holdIn", "(ILSilkRise$State;)Z"⟩, .selects "SilkRise$Past" ⟨"SilkRise$Past", "holdIn", "(ILSilkRise$State;)Z"⟩ ⟨"SilkRise$Past", "holdIn", "(ILSilkRise$State;)Z"⟩, .methodLink "SilkRise" 291 ⟨"SilkRise$Past", "restoreFrom", "(ILSilkRise$State;)Z"⟩, .instanceMethod ⟨"SilkRise$Past", "restoreFrom", "(ILSilkRise$State;)Z"⟩, .selects "SilkRise$Past" ⟨"SilkRise$Past", "restoreFrom", "(ILSilkRise$State;)Z"⟩ ⟨"SilkRise$Past", "restoreFrom", "(ILSilkRise$State;)Z"⟩, .methodLink "SilkRise" 294 ⟨"SilkRise$State", "loadsThat", "(I)I"⟩, .methodLink "SilkRise" 297 ⟨"SilkRise$Past", "depth", "()I"⟩, .instanceMethod ⟨"SilkRise$Past", "depth", "()I"⟩, .selects "SilkRise$Past" ⟨"SilkRise$Past", "depth", "()I"⟩ ⟨"SilkRise$Past", "depth", "()I"⟩, .methodLink "SilkRise" 300 ⟨"SilkRise$Past", "held", "()I"⟩, .instanceMethod ⟨"SilkRise$Past", "held", "()I"⟩, .selects "SilkRise$Past" ⟨"SilkRise$Past", "held", "()I"⟩ ⟨"SilkRise$Past", "held", "()I"⟩, .methodLink "SilkRise" 303 ⟨"SilkRise$Air", "isGust", "(II)Z"⟩, .fieldLinkNest "SilkRise" 306 "SilkRise$Plan" "rim" "I" "SilkRise", .methodLink "SilkRise" 309 ⟨"java/lang/Math", "min", "(II)I"⟩, .methodLink "SilkRise" 314 ⟨"java/lang/Math", "max", "(II)I"⟩, .fieldLinkNest "SilkRise" 317 "SilkRise$Course" "earned" "I" "SilkRise", .methodLink "SilkRise" 318 ⟨"SilkRise", "fitsKnown", "(II)Z"⟩, .instanceMethod ⟨"SilkRise", "fitsKnown", "(II)Z"⟩, .selects "SilkRise" ⟨"SilkRise", "fitsKnown", "(II)Z"⟩ ⟨"SilkRise", "fitsKnown", "(II)Z"⟩, .methodLink "SilkRiseModel" 7 ⟨"java/lang/Object", "<init>", "()V"⟩, .fieldLink "SilkRiseModel" 13 "SilkRiseModel" "tape" "[B", .fieldLink "SilkRiseModel" 17 "SilkRiseModel" "text" "[B", .fieldLink "SilkRiseModel" 20 "SilkRiseModel" "tKind" "[I"]
theorem zchp_18 : zch_18 = ([1175, 1176, 1185, 1187, 40, 1193, 1194, 1204, 1205, 1206, 1216, 1217, 1218, 1224, 1225, 1226, 1227, 1229, 1230, 1231, 1234, 257, 914, 915, 452, 1189, 1191, 41, 1240, 1260, 1262, 1264] : List Nat).filterMap (fun i => lw_tbl[i]?) := by decide +kernel
def zch_19 : List Jvm.Cond := [.fieldLink "SilkRiseModel" 24 "SilkRiseModel" "tPlace" "[I", .fieldLink "SilkRiseModel" 27 "SilkRiseModel" "tValue" "[I", .fieldLink "SilkRiseModel" 30 "SilkRiseModel" "tName" "[J", .fieldLink "SilkRiseModel" 34 "SilkRiseModel" "keys" "[J", .fieldLink "SilkRiseModel" 37 "SilkRiseModel" "place" "I", .fieldLink "SilkRiseModel" 40 "SilkRiseModel" "nameOf" "[J", .fieldLink "SilkRiseModel" 43 "SilkRiseModel" "loads" "[I", .fieldLink "SilkRiseModel" 46 "SilkRiseModel" "xTold" "[I", .fieldLink "SilkRiseModel" 49 "SilkRiseModel" "weightOf" "[I", .fieldLink "SilkRiseModel" 52 "SilkRiseModel" "priceOf" "[I", .fieldLink "SilkRiseModel" 55 "SilkRiseModel" "silks" "[I", .fieldLink "SilkRiseModel" 58 "SilkRiseModel" "sizeOf" "[I", .fieldLink "SilkRiseModel" 61 "SilkRiseModel" "pullTold" "[I", .fieldLink "SilkRiseModel" 64 "SilkRiseModel" "hooks" "[I", .fieldLink "SilkRiseModel" 67 "SilkRiseModel" "hookTold" "[I", .fieldLink "SilkRiseModel" 70 "SilkRiseModel" "reachOf" "[I", .fieldLink "SilkRiseModel" 73 "SilkRiseModel" "handsOf" "[I", .fieldLink "SilkRiseModel" 76 "SilkRiseModel" "rim" "[I", .fieldLink "SilkRiseModel" 79 "SilkRiseModel" "gusts" "[I", .fieldLink "SilkRiseModel" 82 "SilkRiseModel" "seed" "[I", .fieldLink "SilkRiseModel" 85 "SilkRiseModel" "lawFirst" "[I", .fieldLink "SilkRiseModel" 88 "SilkRiseModel" "lawLast" "[I", .arrayClass Jvm.ClassFile.FieldType.boolean, .fieldLink "SilkRiseModel" 91 "SilkRiseModel" "hasTest" "[Z", .fieldLink "SilkRiseModel" 95 "SilkRiseModel" "testFrom" "[I", .fieldLink "SilkRiseModel" 98 "SilkRiseModel" "testMid" "[I", .fieldLink "SilkRiseModel" 101 "SilkRiseModel" "testTo" "[I", .fieldLink "SilkRiseModel" 104 "SilkRiseModel" "termTo" "[I", .fieldLink "SilkRiseModel" 107 "SilkRiseModel" "code" "[I", .fieldLink "SilkRiseModel" 110 "SilkRiseModel" "codeInt" "[I", .fieldLink "SilkRiseModel" 113 "SilkRiseModel" "waits" "[I", .fieldLink "SilkRiseModel" 116 "SilkRiseModel" "variables" "[I"]
theorem zchp_19 : zch_19 = ([1265, 1266, 1267, 1268, 1276, 1280, 1281, 1282, 1283, 1284, 1285, 1286, 1287, 1288, 1289, 1290, 1291, 1292, 1293, 1294, 1295, 1296, 1506, 1298, 1299, 1300, 1301, 1302, 1304, 1305, 1306, 1308] : List Nat).filterMap (fun i => lw_tbl[i]?) := by decide +kernel
def zch_20 : List Jvm.Cond := [.fieldLink "SilkRiseModel" 119 "SilkRiseModel" "pile" "[I", .fieldLink "SilkRiseModel" 122 "SilkRiseModel" "now" "[I", .fieldLink "SilkRiseModel" 125 "SilkRiseModel" "row" "[I", .fieldLink "SilkRiseModel" 128 "SilkRiseModel" "hookedNow" "[I", .fieldLink "SilkRiseModel" 131 "SilkRiseModel" "highThen" "[I", .fieldLink "SilkRiseModel" 134 "SilkRiseModel" "xThen" "[I", .fieldLink "SilkRiseModel" 137 "SilkRiseModel" "paysNow" "[I", .fieldLink "SilkRiseModel" 140 "SilkRiseModel" "history" "[I", .fieldLink "SilkRiseModel" 143 "SilkRiseModel" "footLoads" "[I", .fieldLink "SilkRiseModel" 146 "SilkRiseModel" "bringsBy" "[I", .fieldLink "SilkRiseModel" 149 "SilkRiseModel" "canBe" "[Z", .fieldLink "SilkRiseModel" 152 "SilkRiseModel" "needOf" "[I", .fieldLink "SilkRiseModel" 155 "SilkRiseModel" "toldSize" "[I", .fieldLink "SilkRiseModel" 158 "SilkRiseModel" "toldWeight" "[I", .fieldLink "SilkRiseModel" 161 "SilkRiseModel" "toldX" "[I", .fieldLink "SilkRiseModel" 164 "SilkRiseModel" "toldHours" "[I", .fieldLink "SilkRiseModel" 167 "SilkRiseModel" "toldAt" "[I", .fieldLink "SilkRiseModel" 170 "SilkRiseModel" "isHeld" "[Z", .fieldLink "SilkRiseModel" 173 "SilkRiseModel" "heldRows" "[I", .methodLink "SilkRiseModel" 176 ⟨"SilkRiseModel", "plain", "(I)V"⟩, .instanceMethod ⟨"SilkRiseModel", "plain", "(I)V"⟩, .selects "SilkRiseModel" ⟨"SilkRiseModel", "plain", "(I)V"⟩ ⟨"SilkRiseModel", "plain", "(I)V"⟩, .initialized "SilkRiseModel", .methodLink "SilkRiseModel" 180 ⟨"SilkRiseModel", "word", "(IIIIIII)J"⟩, .static ⟨"SilkRiseModel", "word", "(IIIIIII)J"⟩, .methodLink "SilkRiseModel" 184 ⟨"SilkRiseModel", "begins", "()V"⟩, .instanceMethod ⟨"SilkRiseModel", "begins", "()V"⟩, .selects "SilkRiseModel" ⟨"SilkRiseModel", "begins", "()V"⟩ ⟨"SilkRiseModel", "begins", "()V"⟩, .methodLink "SilkRiseModel" 187 ⟨"SilkRiseModel", "keepsRow", "()V"⟩, .instanceMethod ⟨"SilkRiseModel", "keepsRow", "()V"⟩, .selects "SilkRiseModel" ⟨"SilkRiseModel", "keepsRow", "()V"⟩ ⟨"SilkRiseModel", "keepsRow", "()V"⟩, .fieldLink "SilkRiseModel" 190 "SilkRiseModel" "taped" "I"]
theorem zchp_20 : zch_20 = ([1309, 1311, 1312, 1314, 1315, 1316, 1317, 1319, 1326, 1328, 1329, 1332, 1334, 1335, 1336, 1337, 1338, 1339, 1340, 1241, 1243, 43, 122, 1245, 1246, 1252, 1254, 44, 1256, 1258, 45, 1261] : List Nat).filterMap (fun i => lw_tbl[i]?) := by decide +kernel
def zch_21 : List Jvm.Cond := [.methodLink "SilkRiseModel" 193 ⟨"SilkRiseModel", "put", "(I)V"⟩, .instanceMethod ⟨"SilkRiseModel", "put", "(I)V"⟩, .selects "SilkRiseModel" ⟨"SilkRiseModel", "put", "(I)V"⟩ ⟨"SilkRiseModel", "put", "(I)V"⟩, .fieldLink "SilkRiseModel" 196 "SilkRiseModel" "size" "I", .constantLong "SilkRiseModel" 199 (27 : Int64), .methodLink "SilkRiseModel" 201 ⟨"SilkRiseModel", "appends", "(JI)J"⟩, .static ⟨"SilkRiseModel", "appends", "(JI)J"⟩, .fieldLink "SilkRiseModel" 205 "SilkRiseModel" "tokens" "I", .methodLink "SilkRiseModel" 208 ⟨"SilkRiseModel", "byteAt", "(I)I"⟩, .instanceMethod ⟨"SilkRiseModel", "byteAt", "(I)I"⟩, .selects "SilkRiseModel" ⟨"SilkRiseModel", "byteAt", "(I)I"⟩ ⟨"SilkRiseModel", "byteAt", "(I)I"⟩, .methodLink "SilkRiseModel" 212 ⟨"SilkRiseModel", "token", "(IIIJ)V"⟩, .instanceMethod ⟨"SilkRiseModel", "token", "(IIIJ)V"⟩, .selects "SilkRiseModel" ⟨"SilkRiseModel", "token", "(IIIJ)V"⟩ ⟨"SilkRiseModel", "token", "(IIIJ)V"⟩, .methodLink "SilkRiseModel" 216 ⟨"SilkRiseModel", "isLetter", "(I)Z"⟩, .static ⟨"SilkRiseModel", "isLetter", "(I)Z"⟩, .methodLink "SilkRiseModel" 220 ⟨"SilkRiseModel", "isDigit", "(I)Z"⟩, .static ⟨"SilkRiseModel", "isDigit", "(I)Z"⟩, .methodLink "SilkRiseModel" 223 ⟨"SilkRiseModel", "sign", "(III)I"⟩, .instanceMethod ⟨"SilkRiseModel", "sign", "(III)I"⟩, .selects "SilkRiseModel" ⟨"SilkRiseModel", "sign", "(III)I"⟩ ⟨"SilkRiseModel", "sign", "(III)I"⟩, .fieldLink "SilkRiseModel" 227 "SilkRiseModel" "fault" "I", .fieldLink "SilkRiseModel" 230 "SilkRiseModel" "t" "I", .fieldLink "SilkRiseModel" 233 "SilkRiseModel" "faultPlace" "I", .fieldLink "SilkRiseModel" 236 "SilkRiseModel" "worst" "I", .fieldLink "SilkRiseModel" 239 "SilkRiseModel" "worstPlace" "I", .methodLink "SilkRiseModel" 242 ⟨"SilkRiseModel", "fail", "(I)V"⟩, .instanceMethod ⟨"SilkRiseModel", "fail", "(I)V"⟩, .selects "SilkRiseModel" ⟨"SilkRiseModel", "fail", "(I)V"⟩ ⟨"SilkRiseModel", "fail", "(I)V"⟩, .methodLink "SilkRiseModel" 245 ⟨"SilkRiseModel", "is", "(I)Z"⟩, .instanceMethod ⟨"SilkRiseModel", "is", "(I)Z"⟩, .selects "SilkRiseModel" ⟨"SilkRiseModel", "is", "(I)Z"⟩ ⟨"SilkRiseModel", "is", "(I)Z"⟩]
theorem zchp_21 : zch_21 = ([1511, 1513, 46, 1263, 1251, 1248, 1249, 1269, 1527, 1529, 48, 1531, 1533, 49, 1535, 1536, 1538, 1539, 1541, 1543, 50, 1272, 1270, 1273, 1274, 1275, 1557, 1559, 54, 1545, 1547, 51] : List Nat).filterMap (fun i => lw_tbl[i]?) := by decide +kernel
def zch_22 : List Jvm.Cond := [.methodLink "SilkRiseModel" 248 ⟨"SilkRiseModel", "goesOn", "()V"⟩, .instanceMethod ⟨"SilkRiseModel", "goesOn", "()V"⟩, .selects "SilkRiseModel" ⟨"SilkRiseModel", "goesOn", "()V"⟩ ⟨"SilkRiseModel", "goesOn", "()V"⟩, .methodLink "SilkRiseModel" 251 ⟨"SilkRiseModel", "cut", "()V"⟩, .instanceMethod ⟨"SilkRiseModel", "cut", "()V"⟩, .selects "SilkRiseModel" ⟨"SilkRiseModel", "cut", "()V"⟩ ⟨"SilkRiseModel", "cut", "()V"⟩, .fieldLink "SilkRiseModel" 254 "SilkRiseModel" "open" "I", .fieldLink "SilkRiseModel" 257 "SilkRiseModel" "live" "I", .fieldLink "SilkRiseModel" 260 "SilkRiseModel" "side" "I", .fieldLink "SilkRiseModel" 263 "SilkRiseModel" "names" "I", .fieldLink "SilkRiseModel" 266 "SilkRiseModel" "branches" "I", .fieldLink "SilkRiseModel" 269 "SilkRiseModel" "codes" "I", .methodLink "SilkRiseModel" 272 ⟨"SilkRiseModel", "tellOne", "()V"⟩, .instanceMethod ⟨"SilkRiseModel", "tellOne", "()V"⟩, .selects "SilkRiseModel" ⟨"SilkRiseModel", "tellOne", "()V"⟩ ⟨"SilkRiseModel", "tellOne", "()V"⟩, .fieldLink "SilkRiseModel" 275 "SilkRiseModel" "undos" "I", .fieldLink "SilkRiseModel" 278 "SilkRiseModel" "tolds" "I", .methodLink "SilkRiseModel" 281 ⟨"SilkRiseModel", "bounded", "(II)I"⟩, .instanceMethod ⟨"SilkRiseModel", "bounded", "(II)I"⟩, .selects "SilkRiseModel" ⟨"SilkRiseModel", "bounded", "(II)I"⟩ ⟨"SilkRiseModel", "bounded", "(II)I"⟩, .methodLink "SilkRiseModel" 285 ⟨"SilkRiseModel", "must", "(I)V"⟩, .instanceMethod ⟨"SilkRiseModel", "must", "(I)V"⟩, .selects "SilkRiseModel" ⟨"SilkRiseModel", "must", "(I)V"⟩ ⟨"SilkRiseModel", "must", "(I)V"⟩, .methodLink "SilkRiseModel" 288 ⟨"SilkRiseModel", "roomFor", "(II)V"⟩, .instanceMethod ⟨"SilkRiseModel", "roomFor", "(II)V"⟩, .selects "SilkRiseModel" ⟨"SilkRiseModel", "roomFor", "(II)V"⟩ ⟨"SilkRiseModel", "roomFor", "(II)V"⟩, .methodLink "SilkRiseModel" 292 ⟨"SilkRiseModel", "tellLoad", "()V"⟩, .instanceMethod ⟨"SilkRiseModel", "tellLoad", "()V"⟩, .selects "SilkRiseModel" ⟨"SilkRiseModel", "tellLoad", "()V"⟩ ⟨"SilkRiseModel", "tellLoad", "()V"⟩, .methodLink "SilkRiseModel" 295 ⟨"SilkRiseModel", "tellSilk", "()V"⟩, .instanceMethod ⟨"SilkRiseModel", "tellSilk", "()V"⟩, .selects "SilkRiseModel" ⟨"SilkRiseModel", "tellSilk", "()V"⟩ ⟨"SilkRiseModel", "tellSilk", "()V"⟩]
theorem zchp_22 : zch_22 = ([1561, 1563, 55, 1523, 1525, 47, 1271, 1277, 1278, 1279, 1297, 1303, 1549, 1551, 52, 1318, 1333, 1581, 1583, 60, 1573, 1575, 58, 1553, 1555, 53, 1565, 1567, 56, 1589, 1591, 62] : List Nat).filterMap (fun i => lw_tbl[i]?) := by decide +kernel
def zch_23 : List Jvm.Cond := [.methodLink "SilkRiseModel" 298 ⟨"SilkRiseModel", "tellHook", "()V"⟩, .instanceMethod ⟨"SilkRiseModel", "tellHook", "()V"⟩, .selects "SilkRiseModel" ⟨"SilkRiseModel", "tellHook", "()V"⟩ ⟨"SilkRiseModel", "tellHook", "()V"⟩, .methodLink "SilkRiseModel" 301 ⟨"SilkRiseModel", "toldInt", "(II)I"⟩, .instanceMethod ⟨"SilkRiseModel", "toldInt", "(II)I"⟩, .selects "SilkRiseModel" ⟨"SilkRiseModel", "toldInt", "(II)I"⟩ ⟨"SilkRiseModel", "toldInt", "(II)I"⟩, .methodLink "SilkRiseModel" 304 ⟨"SilkRiseModel", "tellLaw", "(I)V"⟩, .instanceMethod ⟨"SilkRiseModel", "tellLaw", "(I)V"⟩, .selects "SilkRiseModel" ⟨"SilkRiseModel", "tellLaw", "(I)V"⟩ ⟨"SilkRiseModel", "tellLaw", "(I)V"⟩, .methodLink "SilkRiseModel" 307 ⟨"SilkRiseModel", "wrong", "(II)V"⟩, .instanceMethod ⟨"SilkRiseModel", "wrong", "(II)V"⟩, .selects "SilkRiseModel" ⟨"SilkRiseModel", "wrong", "(II)V"⟩ ⟨"SilkRiseModel", "wrong", "(II)V"⟩, .methodLink "SilkRiseModel" 310 ⟨"SilkRiseModel", "named", "()I"⟩, .instanceMethod ⟨"SilkRiseModel", "named", "()I"⟩, .selects "SilkRiseModel" ⟨"SilkRiseModel", "named", "()I"⟩ ⟨"SilkRiseModel", "named", "()I"⟩, .methodLink "SilkRiseModel" 314 ⟨"SilkRiseModel", "ends", "(I)V"⟩, .instanceMethod ⟨"SilkRiseModel", "ends", "(I)V"⟩, .selects "SilkRiseModel" ⟨"SilkRiseModel", "ends", "(I)V"⟩ ⟨"SilkRiseModel", "ends", "(I)V"⟩, .methodLink "SilkRiseModel" 317 ⟨"SilkRiseModel", "expression", "()V"⟩, .instanceMethod ⟨"SilkRiseModel", "expression", "()V"⟩, .selects "SilkRiseModel" ⟨"SilkRiseModel", "expression", "()V"⟩ ⟨"SilkRiseModel", "expression", "()V"⟩, .methodLink "SilkRiseModel" 320 ⟨"SilkRiseModel", "term", "()V"⟩, .instanceMethod ⟨"SilkRiseModel", "term", "()V"⟩, .selects "SilkRiseModel" ⟨"SilkRiseModel", "term", "()V"⟩ ⟨"SilkRiseModel", "term", "()V"⟩, .fieldLink "SilkRiseModel" 323 "SilkRiseModel" "waiting" "I", .methodLink "SilkRiseModel" 326 ⟨"SilkRiseModel", "emit", "(II)V"⟩, .instanceMethod ⟨"SilkRiseModel", "emit", "(II)V"⟩, .selects "SilkRiseModel" ⟨"SilkRiseModel", "emit", "(II)V"⟩ ⟨"SilkRiseModel", "emit", "(II)V"⟩, .methodLink "SilkRiseModel" 329 ⟨"SilkRiseModel", "unit", "()V"⟩, .instanceMethod ⟨"SilkRiseModel", "unit", "()V"⟩, .selects "SilkRiseModel" ⟨"SilkRiseModel", "unit", "()V"⟩ ⟨"SilkRiseModel", "unit", "()V"⟩, .methodLink "SilkRiseModel" 332 ⟨"SilkRiseModel", "comesOut", "(Z)V"⟩]
theorem zchp_23 : zch_23 = ([1593, 1595, 63, 1597, 1599, 64, 1601, 1603, 65, 1577, 1579, 59, 1569, 1571, 57, 1585, 1587, 61, 1605, 1607, 66, 1621, 1623, 70, 1307, 1613, 1615, 68, 1609, 1611, 67, 1617] : List Nat).filterMap (fun i => lw_tbl[i]?) := by decide +kernel
def zch_24 : List Jvm.Cond := [.instanceMethod ⟨"SilkRiseModel", "comesOut", "(Z)V"⟩, .selects "SilkRiseModel" ⟨"SilkRiseModel", "comesOut", "(Z)V"⟩ ⟨"SilkRiseModel", "comesOut", "(Z)V"⟩, .fieldLink "SilkRiseModel" 336 "SilkRiseModel" "isBroken" "Z", .methodLink "SilkRiseModel" 340 ⟨"SilkRiseModel", "in", "(III)Z"⟩, .static ⟨"SilkRiseModel", "in", "(III)Z"⟩, .fieldLink "SilkRiseModel" 344 "SilkRiseModel" "lots" "I", .constant "SilkRiseModel" 347 (1103515245 : Int32), .methodLink "SilkRiseModel" 348 ⟨"SilkRiseModel", "mixed", "(II)I"⟩, .static ⟨"SilkRiseModel", "mixed", "(II)I"⟩, .methodLink "SilkRiseModel" 351 ⟨"SilkRiseModel", "loadsSo", "(I)I"⟩, .instanceMethod ⟨"SilkRiseModel", "loadsSo", "(I)I"⟩, .selects "SilkRiseModel" ⟨"SilkRiseModel", "loadsSo", "(I)I"⟩ ⟨"SilkRiseModel", "loadsSo", "(I)I"⟩, .methodLink "SilkRiseModel" 354 ⟨"SilkRiseModel", "bits", "(I)I"⟩, .static ⟨"SilkRiseModel", "bits", "(I)I"⟩, .methodLink "SilkRiseModel" 357 ⟨"SilkRiseModel", "termOf", "(II)I"⟩, .instanceMethod ⟨"SilkRiseModel", "termOf", "(II)I"⟩, .selects "SilkRiseModel" ⟨"SilkRiseModel", "termOf", "(II)I"⟩ ⟨"SilkRiseModel", "termOf", "(II)I"⟩, .methodLink "SilkRiseModel" 360 ⟨"SilkRiseModel", "looks", "(II)V"⟩, .instanceMethod ⟨"SilkRiseModel", "looks", "(II)V"⟩, .selects "SilkRiseModel" ⟨"SilkRiseModel", "looks", "(II)V"⟩ ⟨"SilkRiseModel", "looks", "(II)V"⟩, .methodLink "SilkRiseModel" 363 ⟨"SilkRiseModel", "lawTells", "(II)I"⟩, .instanceMethod ⟨"SilkRiseModel", "lawTells", "(II)I"⟩, .selects "SilkRiseModel" ⟨"SilkRiseModel", "lawTells", "(II)I"⟩ ⟨"SilkRiseModel", "lawTells", "(II)I"⟩, .methodLink "SilkRiseModel" 366 ⟨"SilkRiseModel", "held", "(III)I"⟩, .static ⟨"SilkRiseModel", "held", "(III)I"⟩, .methodLink "SilkRiseModel" 369 ⟨"SilkRiseModel", "off", "(II)I"⟩, .static ⟨"SilkRiseModel", "off", "(II)I"⟩, .methodLink "SilkRiseModel" 372 ⟨"SilkRiseModel", "hookAt", "(I)I"⟩, .instanceMethod ⟨"SilkRiseModel", "hookAt", "(I)I"⟩, .selects "SilkRiseModel" ⟨"SilkRiseModel", "hookAt", "(I)I"⟩ ⟨"SilkRiseModel", "hookAt", "(I)I"⟩, .methodLink "SilkRiseModel" 375 ⟨"SilkRiseModel", "isDown", "(II)V"⟩, .instanceMethod ⟨"SilkRiseModel", "isDown", "(II)V"⟩]
theorem zchp_24 : zch_24 = ([1619, 69, 1310, 1637, 1638, 1313, 1753, 1750, 1751, 1672, 1674, 76, 1676, 1677, 1691, 1693, 80, 1683, 1685, 78, 1687, 1689, 79, 1695, 1696, 1770, 1771, 1766, 1768, 93, 1773, 1775] : List Nat).filterMap (fun i => lw_tbl[i]?) := by decide +kernel
def zch_25 : List Jvm.Cond := [.selects "SilkRiseModel" ⟨"SilkRiseModel", "isDown", "(II)V"⟩ ⟨"SilkRiseModel", "isDown", "(II)V"⟩, .methodLink "SilkRiseModel" 378 ⟨"SilkRiseModel", "windBy", "(IIII)I"⟩, .instanceMethod ⟨"SilkRiseModel", "windBy", "(IIII)I"⟩, .selects "SilkRiseModel" ⟨"SilkRiseModel", "windBy", "(IIII)I"⟩ ⟨"SilkRiseModel", "windBy", "(IIII)I"⟩, .methodLink "SilkRiseModel" 382 ⟨"SilkRiseModel", "liftBy", "(IIIIII)I"⟩, .instanceMethod ⟨"SilkRiseModel", "liftBy", "(IIIIII)I"⟩, .selects "SilkRiseModel" ⟨"SilkRiseModel", "liftBy", "(IIIIII)I"⟩ ⟨"SilkRiseModel", "liftBy", "(IIIIII)I"⟩, .methodLink "SilkRiseModel" 386 ⟨"SilkRiseModel", "paysBy", "(III)I"⟩, .instanceMethod ⟨"SilkRiseModel", "paysBy", "(III)I"⟩, .selects "SilkRiseModel" ⟨"SilkRiseModel", "paysBy", "(III)I"⟩ ⟨"SilkRiseModel", "paysBy", "(III)I"⟩, .methodLink "SilkRiseModel" 389 ⟨"SilkRiseModel", "isGust", "()Z"⟩, .instanceMethod ⟨"SilkRiseModel", "isGust", "()Z"⟩, .selects "SilkRiseModel" ⟨"SilkRiseModel", "isGust", "()Z"⟩ ⟨"SilkRiseModel", "isGust", "()Z"⟩, .methodLink "SilkRiseModel" 393 ⟨"SilkRiseModel", "handsFree", "()V"⟩, .instanceMethod ⟨"SilkRiseModel", "handsFree", "()V"⟩, .selects "SilkRiseModel" ⟨"SilkRiseModel", "handsFree", "()V"⟩ ⟨"SilkRiseModel", "handsFree", "()V"⟩, .methodLink "SilkRiseModel" 396 ⟨"SilkRiseModel", "looksOn", "(IIZ)V"⟩, .instanceMethod ⟨"SilkRiseModel", "looksOn", "(IIZ)V"⟩, .selects "SilkRiseModel" ⟨"SilkRiseModel", "looksOn", "(IIZ)V"⟩ ⟨"SilkRiseModel", "looksOn", "(IIZ)V"⟩, .methodLink "SilkRiseModel" 400 ⟨"SilkRiseModel", "comesUp", "(I)V"⟩, .instanceMethod ⟨"SilkRiseModel", "comesUp", "(I)V"⟩, .selects "SilkRiseModel" ⟨"SilkRiseModel", "comesUp", "(I)V"⟩ ⟨"SilkRiseModel", "comesUp", "(I)V"⟩, .methodLink "SilkRiseModel" 403 ⟨"SilkRiseModel", "hourGoes", "()V"⟩, .instanceMethod ⟨"SilkRiseModel", "hourGoes", "()V"⟩, .selects "SilkRiseModel" ⟨"SilkRiseModel", "hourGoes", "()V"⟩ ⟨"SilkRiseModel", "hourGoes", "()V"⟩, .methodLink "SilkRiseModel" 406 ⟨"SilkRiseModel", "isLoad", "(I)Z"⟩, .instanceMethod ⟨"SilkRiseModel", "isLoad", "(I)Z"⟩, .selects "SilkRiseModel" ⟨"SilkRiseModel", "isLoad", "(I)Z"⟩ ⟨"SilkRiseModel", "isLoad", "(I)Z"⟩, .methodLink "SilkRiseModel" 409 ⟨"SilkRiseModel", "isSilk", "(I)Z"⟩, .instanceMethod ⟨"SilkRiseModel", "isSilk", "(I)Z"⟩, .selects "SilkRiseModel" ⟨"SilkRiseModel", "isSilk", "(I)Z"⟩ ⟨"SilkRiseModel", "isSilk", "(I)Z"⟩, .methodLink "SilkRiseModel" 412 ⟨"SilkRiseModel", "isHook", "(I)Z"⟩]
theorem zchp_25 : zch_25 = ([94, 1698, 1700, 81, 1679, 1681, 77, 1706, 1708, 83, 1746, 1748, 89, 1754, 1756, 90, 1758, 1760, 91, 1762, 1764, 92, 1742, 1744, 88, 1633, 1635, 71, 1644, 1646, 72, 1656] : List Nat).filterMap (fun i => lw_tbl[i]?) := by decide +kernel
def zch_26 : List Jvm.Cond := [.instanceMethod ⟨"SilkRiseModel", "isHook", "(I)Z"⟩, .selects "SilkRiseModel" ⟨"SilkRiseModel", "isHook", "(I)Z"⟩ ⟨"SilkRiseModel", "isHook", "(I)Z"⟩, .methodLink "SilkRiseModel" 415 ⟨"SilkRiseModel", "copies", "()V"⟩, .instanceMethod ⟨"SilkRiseModel", "copies", "()V"⟩, .selects "SilkRiseModel" ⟨"SilkRiseModel", "copies", "()V"⟩ ⟨"SilkRiseModel", "copies", "()V"⟩, .methodLink "SilkRiseModel" 418 ⟨"SilkRiseModel", "upNow", "()I"⟩, .instanceMethod ⟨"SilkRiseModel", "upNow", "()I"⟩, .selects "SilkRiseModel" ⟨"SilkRiseModel", "upNow", "()I"⟩ ⟨"SilkRiseModel", "upNow", "()I"⟩, .methodLink "SilkRiseModel" 421 ⟨"SilkRiseModel", "tiesBy", "(IIII)I"⟩, .instanceMethod ⟨"SilkRiseModel", "tiesBy", "(IIII)I"⟩, .selects "SilkRiseModel" ⟨"SilkRiseModel", "tiesBy", "(IIII)I"⟩ ⟨"SilkRiseModel", "tiesBy", "(IIII)I"⟩, .methodLink "SilkRiseModel" 424 ⟨"SilkRiseModel", "areBoth", "(II)Z"⟩, .instanceMethod ⟨"SilkRiseModel", "areBoth", "(II)Z"⟩, .selects "SilkRiseModel" ⟨"SilkRiseModel", "areBoth", "(II)Z"⟩ ⟨"SilkRiseModel", "areBoth", "(II)Z"⟩, .methodLink "SilkRiseModel" 428 ⟨"SilkRiseModel", "areAtFoot", "(II)Z"⟩, .instanceMethod ⟨"SilkRiseModel", "areAtFoot", "(II)Z"⟩, .selects "SilkRiseModel" ⟨"SilkRiseModel", "areAtFoot", "(II)Z"⟩ ⟨"SilkRiseModel", "areAtFoot", "(II)Z"⟩, .methodLink "SilkRiseModel" 431 ⟨"SilkRiseModel", "records", "()V"⟩, .instanceMethod ⟨"SilkRiseModel", "records", "()V"⟩, .selects "SilkRiseModel" ⟨"SilkRiseModel", "records", "()V"⟩ ⟨"SilkRiseModel", "records", "()V"⟩, .methodLink "SilkRiseModel" 434 ⟨"SilkRiseModel", "goes", "(I)V"⟩, .instanceMethod ⟨"SilkRiseModel", "goes", "(I)V"⟩, .selects "SilkRiseModel" ⟨"SilkRiseModel", "goes", "(I)V"⟩ ⟨"SilkRiseModel", "goes", "(I)V"⟩, .fieldLink "SilkRiseModel" 437 "SilkRiseModel" "flightHours" "I", .fieldLink "SilkRiseModel" 440 "SilkRiseModel" "flightHow" "I", .fieldLink "SilkRiseModel" 443 "SilkRiseModel" "flightHook" "I", .fieldLink "SilkRiseModel" 446 "SilkRiseModel" "flightX" "I", .fieldLink "SilkRiseModel" 449 "SilkRiseModel" "flightHigh" "I", .fieldLink "SilkRiseModel" 452 "SilkRiseModel" "flightPays" "I", .methodLink "SilkRiseModel" 455 ⟨"SilkRiseModel", "beginsFlight", "(I)V"⟩, .instanceMethod ⟨"SilkRiseModel", "beginsFlight", "(I)V"⟩, .selects "SilkRiseModel" ⟨"SilkRiseModel", "beginsFlight", "(I)V"⟩ ⟨"SilkRiseModel", "beginsFlight", "(I)V"⟩]
theorem zchp_26 : zch_26 = ([1658, 73, 1664, 1666, 74, 1668, 1670, 75, 1702, 1704, 82, 1714, 1716, 84, 1718, 1720, 85, 1722, 1724, 86, 1738, 1740, 87, 1320, 1321, 1322, 1323, 1324, 1325, 1793, 1795, 97] : List Nat).filterMap (fun i => lw_tbl[i]?) := by decide +kernel
def zch_27 : List Jvm.Cond := [.methodLink "SilkRiseModel" 458 ⟨"SilkRiseModel", "flies", "(IIIII)V"⟩, .instanceMethod ⟨"SilkRiseModel", "flies", "(IIIII)V"⟩, .selects "SilkRiseModel" ⟨"SilkRiseModel", "flies", "(IIIII)V"⟩ ⟨"SilkRiseModel", "flies", "(IIIII)V"⟩, .methodLink "SilkRiseModel" 462 ⟨"SilkRiseModel", "fliesOn", "(IIIIII)V"⟩, .instanceMethod ⟨"SilkRiseModel", "fliesOn", "(IIIIII)V"⟩, .selects "SilkRiseModel" ⟨"SilkRiseModel", "fliesOn", "(IIIIII)V"⟩ ⟨"SilkRiseModel", "fliesOn", "(IIIIII)V"⟩, .methodLink "SilkRiseModel" 466 ⟨"SilkRiseModel", "fliesFrom", "(IIII)V"⟩, .instanceMethod ⟨"SilkRiseModel", "fliesFrom", "(IIII)V"⟩, .selects "SilkRiseModel" ⟨"SilkRiseModel", "fliesFrom", "(IIII)V"⟩ ⟨"SilkRiseModel", "fliesFrom", "(IIII)V"⟩, .fieldLink "SilkRiseModel" 470 "SilkRiseModel" "atFoot" "I", .methodLink "SilkRiseModel" 473 ⟨"SilkRiseModel", "sixes", "(I)I"⟩, .static ⟨"SilkRiseModel", "sixes", "(I)I"⟩, .constant "SilkRiseModel" 476 (-100000 : Int32), .methodLink "SilkRiseModel" 477 ⟨"SilkRiseModel", "fillsBrings", "()V"⟩, .instanceMethod ⟨"SilkRiseModel", "fillsBrings", "()V"⟩, .selects "SilkRiseModel" ⟨"SilkRiseModel", "fillsBrings", "()V"⟩ ⟨"SilkRiseModel", "fillsBrings", "()V"⟩, .fieldLink "SilkRiseModel" 480 "SilkRiseModel" "fillWay" "I", .methodLink "SilkRiseModel" 483 ⟨"SilkRiseModel", "isWay", "(I)Z"⟩, .instanceMethod ⟨"SilkRiseModel", "isWay", "(I)Z"⟩, .selects "SilkRiseModel" ⟨"SilkRiseModel", "isWay", "(I)Z"⟩ ⟨"SilkRiseModel", "isWay", "(I)Z"⟩, .methodLink "SilkRiseModel" 486 ⟨"SilkRiseModel", "bringsAll", "(I)I"⟩, .instanceMethod ⟨"SilkRiseModel", "bringsAll", "(I)I"⟩, .selects "SilkRiseModel" ⟨"SilkRiseModel", "bringsAll", "(I)I"⟩ ⟨"SilkRiseModel", "bringsAll", "(I)I"⟩, .fieldLink "SilkRiseModel" 489 "SilkRiseModel" "fillMost" "I", .methodLink "SilkRiseModel" 492 ⟨"SilkRiseModel", "hooksFor", "(I)I"⟩, .instanceMethod ⟨"SilkRiseModel", "hooksFor", "(I)I"⟩, .selects "SilkRiseModel" ⟨"SilkRiseModel", "hooksFor", "(I)I"⟩ ⟨"SilkRiseModel", "hooksFor", "(I)I"⟩, .methodLink "SilkRiseModel" 495 ⟨"SilkRiseModel", "isLong", "(I)Z"⟩, .static ⟨"SilkRiseModel", "isLong", "(I)Z"⟩, .methodLink "SilkRiseModel" 498 ⟨"SilkRiseModel", "isDigit9", "(I)Z"⟩, .static ⟨"SilkRiseModel", "isDigit9", "(I)Z"⟩, .methodLink "SilkRiseModel" 501 ⟨"SilkRiseModel", "isSo", "(II)Z"⟩]
theorem zchp_27 : zch_27 = ([1797, 1799, 98, 1789, 1791, 96, 1785, 1787, 95, 1327, 1826, 1827, 1821, 1822, 1824, 99, 1331, 1829, 1831, 100, 1833, 1835, 101, 1330, 1841, 1843, 102, 1853, 1854, 1868, 1869, 1883] : List Nat).filterMap (fun i => lw_tbl[i]?) := by decide +kernel
def zch_28 : List Jvm.Cond := [.instanceMethod ⟨"SilkRiseModel", "isSo", "(II)Z"⟩, .selects "SilkRiseModel" ⟨"SilkRiseModel", "isSo", "(II)Z"⟩ ⟨"SilkRiseModel", "isSo", "(II)Z"⟩, .methodLink "SilkRiseModel" 504 ⟨"SilkRiseModel", "pullBits", "(I)I"⟩, .instanceMethod ⟨"SilkRiseModel", "pullBits", "(I)I"⟩, .selects "SilkRiseModel" ⟨"SilkRiseModel", "pullBits", "(I)I"⟩ ⟨"SilkRiseModel", "pullBits", "(I)I"⟩, .fieldLink "java/lang/String" 9 "java/lang/String" "value" "[B", .methodLink "java/lang/String" 335 ⟨"java/lang/String", "coder", "()B"⟩, .instanceMethod ⟨"java/lang/String", "coder", "()B"⟩, .selects "java/lang/String" ⟨"java/lang/String", "coder", "()B"⟩ ⟨"java/lang/String", "coder", "()B"⟩, .fieldLink "java/lang/String" 38 "java/lang/String" "COMPACT_STRINGS" "Z", .fieldLink "java/lang/String" 15 "java/lang/String" "coder" "B", .methodLink "java/lang/String" 492 ⟨"java/lang/String", "isLatin1", "()Z"⟩, .instanceMethod ⟨"java/lang/String", "isLatin1", "()Z"⟩, .selects "java/lang/String" ⟨"java/lang/String", "isLatin1", "()Z"⟩ ⟨"java/lang/String", "isLatin1", "()Z"⟩, .methodLink "java/lang/String" 495 ⟨"java/lang/StringLatin1", "charAt", "([BI)C"⟩, .static ⟨"java/lang/StringLatin1", "charAt", "([BI)C"⟩, .initialized "java/lang/StringLatin1", .methodLink "java/lang/StringLatin1" 9 ⟨"java/lang/String", "checkIndex", "(II)V"⟩, .static ⟨"java/lang/String", "checkIndex", "(II)V"⟩, .fieldLink "java/lang/String" 1053 "jdk/internal/util/Preconditions" "SIOOBE_FORMATTER" "Ljava/util/function/BiFunction;", .methodLink "java/lang/String" 1059 ⟨"jdk/internal/util/Preconditions", "checkIndex", "(IILjava/util/function/BiFunction;)I"⟩, .static ⟨"jdk/internal/util/Preconditions", "checkIndex", "(IILjava/util/function/BiFunction;)I"⟩, .initialized "jdk/internal/util/Preconditions", .methodLink "java/lang/String" 633 ⟨"java/lang/String", "indexOf", "(II)I"⟩, .instanceMethod ⟨"java/lang/String", "indexOf", "(II)I"⟩, .selects "java/lang/String" ⟨"java/lang/String", "indexOf", "(II)I"⟩ ⟨"java/lang/String", "indexOf", "(II)I"⟩, .methodLink "java/lang/String" 505 ⟨"java/lang/String", "length", "()I"⟩, .methodLink "java/lang/String" 637 ⟨"java/lang/StringLatin1", "indexOf", "([BIII)I"⟩, .static ⟨"java/lang/StringLatin1", "indexOf", "([BIII)I"⟩, .methodLink "java/lang/StringLatin1" 88 ⟨"java/lang/StringLatin1", "canEncode", "(I)Z"⟩, .static ⟨"java/lang/StringLatin1", "canEncode", "(I)Z"⟩, .methodLink "java/lang/StringLatin1" 92 ⟨"java/lang/Math", "max", "(II)I"⟩]
theorem zchp_28 : zch_28 = ([1885, 104, 1879, 1881, 103, 1903, 292, 293, 294, 296, 1904, 302, 303, 304, 306, 307, 114, 309, 310, 312, 314, 315, 115, 636, 637, 638, 640, 641, 642, 644, 645, 647] : List Nat).filterMap (fun i => lw_tbl[i]?) := by decide +kernel
def zch_29 : List Jvm.Cond := [.methodLink "java/lang/StringLatin1" 38 ⟨"java/lang/Math", "min", "(II)I"⟩, .methodLink "java/lang/StringLatin1" 95 ⟨"java/lang/StringLatin1", "indexOfChar", "([BIII)I"⟩, .static ⟨"java/lang/StringLatin1", "indexOfChar", "([BIII)I"⟩, .constant "java/lang/Integer" 265 (1431655765 : Int32), .constant "java/lang/Integer" 266 (858993459 : Int32), .constant "java/lang/Integer" 267 (252645135 : Int32), .classLink "SilkRiseLaw" 7 "SilkRise", .instantiable "SilkRise" 14, .methodLink "SilkRiseLaw" 9 ⟨"SilkRise", "<init>", "()V"⟩, .instanceMethod ⟨"SilkRise", "<init>", "()V"⟩, .classLink "SilkRiseLaw" 10 "SilkRiseModel", .instantiable "SilkRiseModel" 82, .methodLink "SilkRiseLaw" 12 ⟨"SilkRiseModel", "<init>", "()V"⟩, .instanceMethod ⟨"SilkRiseModel", "<init>", "()V"⟩, .methodLink "SilkRiseLaw" 13 ⟨"SilkRise", "feed", "(IIIII)I"⟩, .instanceMethod ⟨"SilkRise", "feed", "(IIIII)I"⟩, .selects "SilkRise" ⟨"SilkRise", "feed", "(IIIII)I"⟩ ⟨"SilkRise", "feed", "(IIIII)I"⟩, .methodLink "SilkRiseLaw" 17 ⟨"SilkRiseModel", "feed", "(IIIII)I"⟩, .instanceMethod ⟨"SilkRiseModel", "feed", "(IIIII)I"⟩, .selects "SilkRiseModel" ⟨"SilkRiseModel", "feed", "(IIIII)I"⟩ ⟨"SilkRiseModel", "feed", "(IIIII)I"⟩, .methodLink "SilkRiseLaw" 18 ⟨"SilkRise", "back", "(I)I"⟩, .instanceMethod ⟨"SilkRise", "back", "(I)I"⟩, .selects "SilkRise" ⟨"SilkRise", "back", "(I)I"⟩ ⟨"SilkRise", "back", "(I)I"⟩, .methodLink "SilkRiseLaw" 22 ⟨"SilkRiseModel", "back", "(I)I"⟩, .instanceMethod ⟨"SilkRiseModel", "back", "(I)I"⟩, .selects "SilkRiseModel" ⟨"SilkRiseModel", "back", "(I)I"⟩ ⟨"SilkRiseModel", "back", "(I)I"⟩, .methodLink "SilkRiseLaw" 23 ⟨"SilkRise", "read", "()I"⟩, .instanceMethod ⟨"SilkRise", "read", "()I"⟩, .selects "SilkRise" ⟨"SilkRise", "read", "()I"⟩ ⟨"SilkRise", "read", "()I"⟩, .methodLink "SilkRiseLaw" 27 ⟨"SilkRiseModel", "read", "()I"⟩, .instanceMethod ⟨"SilkRiseModel", "read", "()I"⟩, .selects "SilkRiseModel" ⟨"SilkRiseModel", "read", "()I"⟩ ⟨"SilkRiseModel", "read", "()I"⟩]
theorem zchp_29 : zch_29 = ([650, 651, 652, 865, 866, 867, 127, 128, 129, 130, 1235, 1236, 1237, 1238, 567, 568, 569, 1507, 1508, 1509, 575, 576, 577, 1515, 1516, 1517, 582, 583, 584, 1519, 1520, 1521] : List Nat).filterMap (fun i => lw_tbl[i]?) := by decide +kernel
def zch_30 : List Jvm.Cond := [.methodLink "SilkRiseLaw" 28 ⟨"SilkRise", "place", "()I"⟩, .instanceMethod ⟨"SilkRise", "place", "()I"⟩, .selects "SilkRise" ⟨"SilkRise", "place", "()I"⟩ ⟨"SilkRise", "place", "()I"⟩, .methodLink "SilkRiseLaw" 31 ⟨"SilkRiseModel", "place", "()I"⟩, .instanceMethod ⟨"SilkRiseModel", "place", "()I"⟩, .selects "SilkRiseModel" ⟨"SilkRiseModel", "place", "()I"⟩ ⟨"SilkRiseModel", "place", "()I"⟩, .methodLink "SilkRiseLaw" 32 ⟨"SilkRise", "load", "(II)I"⟩, .instanceMethod ⟨"SilkRise", "load", "(II)I"⟩, .selects "SilkRise" ⟨"SilkRise", "load", "(II)I"⟩ ⟨"SilkRise", "load", "(II)I"⟩, .methodLink "SilkRiseLaw" 36 ⟨"SilkRiseModel", "load", "(II)I"⟩, .instanceMethod ⟨"SilkRiseModel", "load", "(II)I"⟩, .selects "SilkRiseModel" ⟨"SilkRiseModel", "load", "(II)I"⟩ ⟨"SilkRiseModel", "load", "(II)I"⟩, .methodLink "SilkRiseLaw" 37 ⟨"SilkRise", "silk", "(II)I"⟩, .instanceMethod ⟨"SilkRise", "silk", "(II)I"⟩, .selects "SilkRise" ⟨"SilkRise", "silk", "(II)I"⟩ ⟨"SilkRise", "silk", "(II)I"⟩, .methodLink "SilkRiseLaw" 40 ⟨"SilkRiseModel", "silk", "(II)I"⟩, .instanceMethod ⟨"SilkRiseModel", "silk", "(II)I"⟩, .selects "SilkRiseModel" ⟨"SilkRiseModel", "silk", "(II)I"⟩ ⟨"SilkRiseModel", "silk", "(II)I"⟩, .methodLink "SilkRiseLaw" 41 ⟨"SilkRise", "pull", "(I)I"⟩, .instanceMethod ⟨"SilkRise", "pull", "(I)I"⟩, .selects "SilkRise" ⟨"SilkRise", "pull", "(I)I"⟩ ⟨"SilkRise", "pull", "(I)I"⟩, .methodLink "SilkRiseLaw" 44 ⟨"SilkRiseModel", "pull", "(I)I"⟩, .instanceMethod ⟨"SilkRiseModel", "pull", "(I)I"⟩, .selects "SilkRiseModel" ⟨"SilkRiseModel", "pull", "(I)I"⟩ ⟨"SilkRiseModel", "pull", "(I)I"⟩, .methodLink "SilkRiseLaw" 45 ⟨"SilkRise", "hook", "(II)I"⟩, .instanceMethod ⟨"SilkRise", "hook", "(II)I"⟩, .selects "SilkRise" ⟨"SilkRise", "hook", "(II)I"⟩ ⟨"SilkRise", "hook", "(II)I"⟩, .methodLink "SilkRiseLaw" 48 ⟨"SilkRiseModel", "hook", "(II)I"⟩, .instanceMethod ⟨"SilkRiseModel", "hook", "(II)I"⟩, .selects "SilkRiseModel" ⟨"SilkRiseModel", "hook", "(II)I"⟩ ⟨"SilkRiseModel", "hook", "(II)I"⟩, .methodLink "SilkRiseLaw" 49 ⟨"SilkRise", "tells", "(III)I"⟩, .instanceMethod ⟨"SilkRise", "tells", "(III)I"⟩]
theorem zchp_30 : zch_30 = ([817, 818, 819, 1625, 1626, 1627, 821, 822, 823, 1629, 1630, 1631, 829, 830, 831, 1640, 1641, 1642, 833, 834, 835, 1648, 1649, 1650, 841, 842, 843, 1652, 1653, 1654, 845, 846] : List Nat).filterMap (fun i => lw_tbl[i]?) := by decide +kernel
def zch_31 : List Jvm.Cond := [.selects "SilkRise" ⟨"SilkRise", "tells", "(III)I"⟩ ⟨"SilkRise", "tells", "(III)I"⟩, .methodLink "SilkRiseLaw" 53 ⟨"SilkRiseModel", "tells", "(III)I"⟩, .instanceMethod ⟨"SilkRiseModel", "tells", "(III)I"⟩, .selects "SilkRiseModel" ⟨"SilkRiseModel", "tells", "(III)I"⟩ ⟨"SilkRiseModel", "tells", "(III)I"⟩, .methodLink "SilkRiseLaw" 54 ⟨"SilkRise", "tie", "(II)I"⟩, .instanceMethod ⟨"SilkRise", "tie", "(II)I"⟩, .selects "SilkRise" ⟨"SilkRise", "tie", "(II)I"⟩ ⟨"SilkRise", "tie", "(II)I"⟩, .methodLink "SilkRiseLaw" 57 ⟨"SilkRiseModel", "tie", "(II)I"⟩, .instanceMethod ⟨"SilkRiseModel", "tie", "(II)I"⟩, .selects "SilkRiseModel" ⟨"SilkRiseModel", "tie", "(II)I"⟩ ⟨"SilkRiseModel", "tie", "(II)I"⟩, .methodLink "SilkRiseLaw" 58 ⟨"SilkRise", "move", "(II)Z"⟩, .instanceMethod ⟨"SilkRise", "move", "(II)Z"⟩, .selects "SilkRise" ⟨"SilkRise", "move", "(II)Z"⟩ ⟨"SilkRise", "move", "(II)Z"⟩, .methodLink "SilkRiseLaw" 62 ⟨"SilkRiseModel", "move", "(II)Z"⟩, .instanceMethod ⟨"SilkRiseModel", "move", "(II)Z"⟩, .selects "SilkRiseModel" ⟨"SilkRiseModel", "move", "(II)Z"⟩ ⟨"SilkRiseModel", "move", "(II)Z"⟩, .methodLink "SilkRiseLaw" 63 ⟨"SilkRise", "patch", "(IZ)Z"⟩, .instanceMethod ⟨"SilkRise", "patch", "(IZ)Z"⟩, .selects "SilkRise" ⟨"SilkRise", "patch", "(IZ)Z"⟩ ⟨"SilkRise", "patch", "(IZ)Z"⟩, .methodLink "SilkRiseLaw" 67 ⟨"SilkRiseModel", "patch", "(IZ)Z"⟩, .instanceMethod ⟨"SilkRiseModel", "patch", "(IZ)Z"⟩, .selects "SilkRiseModel" ⟨"SilkRiseModel", "patch", "(IZ)Z"⟩ ⟨"SilkRiseModel", "patch", "(IZ)Z"⟩, .methodLink "SilkRiseLaw" 68 ⟨"SilkRise", "hours", "(I)I"⟩, .instanceMethod ⟨"SilkRise", "hours", "(I)I"⟩, .selects "SilkRise" ⟨"SilkRise", "hours", "(I)I"⟩ ⟨"SilkRise", "hours", "(I)I"⟩, .methodLink "SilkRiseLaw" 71 ⟨"SilkRiseModel", "hours", "(I)I"⟩, .instanceMethod ⟨"SilkRiseModel", "hours", "(I)I"⟩, .selects "SilkRiseModel" ⟨"SilkRiseModel", "hours", "(I)I"⟩ ⟨"SilkRiseModel", "hours", "(I)I"⟩, .methodLink "SilkRiseLaw" 72 ⟨"SilkRise", "undo", "()Z"⟩, .instanceMethod ⟨"SilkRise", "undo", "()Z"⟩, .selects "SilkRise" ⟨"SilkRise", "undo", "()Z"⟩ ⟨"SilkRise", "undo", "()Z"⟩, .methodLink "SilkRiseLaw" 76 ⟨"SilkRiseModel", "undo", "()Z"⟩]
theorem zchp_31 : zch_31 = ([847, 1660, 1661, 1662, 928, 929, 930, 1710, 1711, 1712, 960, 961, 962, 1726, 1727, 1728, 965, 966, 967, 1730, 1731, 1732, 970, 971, 972, 1734, 1735, 1736, 1024, 1025, 1026, 1777] : List Nat).filterMap (fun i => lw_tbl[i]?) := by decide +kernel
def zch_32 : List Jvm.Cond := [.instanceMethod ⟨"SilkRiseModel", "undo", "()Z"⟩, .selects "SilkRiseModel" ⟨"SilkRiseModel", "undo", "()Z"⟩ ⟨"SilkRiseModel", "undo", "()Z"⟩, .methodLink "SilkRiseLaw" 77 ⟨"SilkRise", "flight", "(IIII)I"⟩, .instanceMethod ⟨"SilkRise", "flight", "(IIII)I"⟩, .selects "SilkRise" ⟨"SilkRise", "flight", "(IIII)I"⟩ ⟨"SilkRise", "flight", "(IIII)I"⟩, .methodLink "SilkRiseLaw" 81 ⟨"SilkRiseModel", "flight", "(IIII)I"⟩, .instanceMethod ⟨"SilkRiseModel", "flight", "(IIII)I"⟩, .selects "SilkRiseModel" ⟨"SilkRiseModel", "flight", "(IIII)I"⟩ ⟨"SilkRiseModel", "flight", "(IIII)I"⟩, .methodLink "SilkRiseLaw" 82 ⟨"SilkRise", "soon", "(III)I"⟩, .instanceMethod ⟨"SilkRise", "soon", "(III)I"⟩, .selects "SilkRise" ⟨"SilkRise", "soon", "(III)I"⟩ ⟨"SilkRise", "soon", "(III)I"⟩, .methodLink "SilkRiseLaw" 85 ⟨"SilkRiseModel", "soon", "(III)I"⟩, .instanceMethod ⟨"SilkRiseModel", "soon", "(III)I"⟩, .selects "SilkRiseModel" ⟨"SilkRiseModel", "soon", "(III)I"⟩ ⟨"SilkRiseModel", "soon", "(III)I"⟩, .methodLink "SilkRiseLaw" 86 ⟨"SilkRise", "patches", "(III)I"⟩, .instanceMethod ⟨"SilkRise", "patches", "(III)I"⟩, .selects "SilkRise" ⟨"SilkRise", "patches", "(III)I"⟩ ⟨"SilkRise", "patches", "(III)I"⟩, .methodLink "SilkRiseLaw" 89 ⟨"SilkRiseModel", "patches", "(III)I"⟩, .instanceMethod ⟨"SilkRiseModel", "patches", "(III)I"⟩, .selects "SilkRiseModel" ⟨"SilkRiseModel", "patches", "(III)I"⟩ ⟨"SilkRiseModel", "patches", "(III)I"⟩, .methodLink "SilkRiseLaw" 90 ⟨"SilkRise", "near", "(I)I"⟩, .instanceMethod ⟨"SilkRise", "near", "(I)I"⟩, .selects "SilkRise" ⟨"SilkRise", "near", "(I)I"⟩ ⟨"SilkRise", "near", "(I)I"⟩, .methodLink "SilkRiseLaw" 93 ⟨"SilkRiseModel", "near", "(I)I"⟩, .instanceMethod ⟨"SilkRiseModel", "near", "(I)I"⟩, .selects "SilkRiseModel" ⟨"SilkRiseModel", "near", "(I)I"⟩ ⟨"SilkRiseModel", "near", "(I)I"⟩, .methodLink "SilkRiseLaw" 94 ⟨"SilkRise", "lifts", "(II)I"⟩, .instanceMethod ⟨"SilkRise", "lifts", "(II)I"⟩, .selects "SilkRise" ⟨"SilkRise", "lifts", "(II)I"⟩ ⟨"SilkRise", "lifts", "(II)I"⟩, .methodLink "SilkRiseLaw" 97 ⟨"SilkRiseModel", "lifts", "(II)I"⟩, .instanceMethod ⟨"SilkRiseModel", "lifts", "(II)I"⟩, .selects "SilkRiseModel" ⟨"SilkRiseModel", "lifts", "(II)I"⟩ ⟨"SilkRiseModel", "lifts", "(II)I"⟩]
theorem zchp_32 : zch_32 = ([1778, 1779, 1032, 1033, 1034, 1781, 1782, 1783, 1056, 1057, 1058, 1801, 1802, 1803, 1060, 1061, 1062, 1805, 1806, 1807, 1068, 1069, 1070, 1809, 1810, 1811, 1073, 1074, 1075, 1813, 1814, 1815] : List Nat).filterMap (fun i => lw_tbl[i]?) := by decide +kernel
def zch_33 : List Jvm.Cond := [.methodLink "SilkRiseLaw" 98 ⟨"SilkRise", "fill", "(I)I"⟩, .instanceMethod ⟨"SilkRise", "fill", "(I)I"⟩, .selects "SilkRise" ⟨"SilkRise", "fill", "(I)I"⟩ ⟨"SilkRise", "fill", "(I)I"⟩, .methodLink "SilkRiseLaw" 101 ⟨"SilkRiseModel", "fill", "(I)I"⟩, .instanceMethod ⟨"SilkRiseModel", "fill", "(I)I"⟩, .selects "SilkRiseModel" ⟨"SilkRiseModel", "fill", "(I)I"⟩ ⟨"SilkRiseModel", "fill", "(I)I"⟩, .methodLink "SilkRiseLaw" 102 ⟨"SilkRise", "fewest", "()I"⟩, .instanceMethod ⟨"SilkRise", "fewest", "()I"⟩, .selects "SilkRise" ⟨"SilkRise", "fewest", "()I"⟩ ⟨"SilkRise", "fewest", "()I"⟩, .methodLink "SilkRiseLaw" 105 ⟨"SilkRiseModel", "fewest", "()I"⟩, .instanceMethod ⟨"SilkRiseModel", "fewest", "()I"⟩, .selects "SilkRiseModel" ⟨"SilkRiseModel", "fewest", "()I"⟩ ⟨"SilkRiseModel", "fewest", "()I"⟩, .methodLink "SilkRiseLaw" 106 ⟨"SilkRise", "waits", "(III)I"⟩, .instanceMethod ⟨"SilkRise", "waits", "(III)I"⟩, .selects "SilkRise" ⟨"SilkRise", "waits", "(III)I"⟩ ⟨"SilkRise", "waits", "(III)I"⟩, .methodLink "SilkRiseLaw" 109 ⟨"SilkRiseModel", "waits", "(III)I"⟩, .instanceMethod ⟨"SilkRiseModel", "waits", "(III)I"⟩, .selects "SilkRiseModel" ⟨"SilkRiseModel", "waits", "(III)I"⟩ ⟨"SilkRiseModel", "waits", "(III)I"⟩, .methodLink "SilkRiseLaw" 110 ⟨"SilkRise", "then", "(III)I"⟩, .instanceMethod ⟨"SilkRise", "then", "(III)I"⟩, .selects "SilkRise" ⟨"SilkRise", "then", "(III)I"⟩ ⟨"SilkRise", "then", "(III)I"⟩, .methodLink "SilkRiseLaw" 113 ⟨"SilkRiseModel", "then", "(III)I"⟩, .instanceMethod ⟨"SilkRiseModel", "then", "(III)I"⟩, .selects "SilkRiseModel" ⟨"SilkRiseModel", "then", "(III)I"⟩ ⟨"SilkRiseModel", "then", "(III)I"⟩, .methodLink "SilkRiseLaw" 114 ⟨"SilkRise", "earns", "(I)I"⟩, .instanceMethod ⟨"SilkRise", "earns", "(I)I"⟩, .selects "SilkRise" ⟨"SilkRise", "earns", "(I)I"⟩ ⟨"SilkRise", "earns", "(I)I"⟩, .methodLink "SilkRiseLaw" 117 ⟨"SilkRiseModel", "earns", "(I)I"⟩, .instanceMethod ⟨"SilkRiseModel", "earns", "(I)I"⟩, .selects "SilkRiseModel" ⟨"SilkRiseModel", "earns", "(I)I"⟩ ⟨"SilkRiseModel", "earns", "(I)I"⟩, .methodLink "SilkRiseLaw" 118 ⟨"SilkRise", "year", "(III)I"⟩, .instanceMethod ⟨"SilkRise", "year", "(III)I"⟩]
theorem zchp_33 : zch_33 = ([1082, 1083, 1084, 1817, 1818, 1819, 1124, 1125, 1126, 1837, 1838, 1839, 1147, 1148, 1149, 1845, 1846, 1847, 1155, 1156, 1157, 1849, 1850, 1851, 1163, 1164, 1165, 1856, 1857, 1858, 1167, 1168] : List Nat).filterMap (fun i => lw_tbl[i]?) := by decide +kernel
def zch_34 : List Jvm.Cond := [.selects "SilkRise" ⟨"SilkRise", "year", "(III)I"⟩ ⟨"SilkRise", "year", "(III)I"⟩, .methodLink "SilkRiseLaw" 121 ⟨"SilkRiseModel", "year", "(III)I"⟩, .instanceMethod ⟨"SilkRiseModel", "year", "(III)I"⟩, .selects "SilkRiseModel" ⟨"SilkRiseModel", "year", "(III)I"⟩ ⟨"SilkRiseModel", "year", "(III)I"⟩, .methodLink "SilkRiseLaw" 122 ⟨"SilkRise", "tell", "(IIIII)I"⟩, .instanceMethod ⟨"SilkRise", "tell", "(IIIII)I"⟩, .selects "SilkRise" ⟨"SilkRise", "tell", "(IIIII)I"⟩ ⟨"SilkRise", "tell", "(IIIII)I"⟩, .methodLink "SilkRiseLaw" 125 ⟨"SilkRiseModel", "tell", "(IIIII)I"⟩, .instanceMethod ⟨"SilkRiseModel", "tell", "(IIIII)I"⟩, .selects "SilkRiseModel" ⟨"SilkRiseModel", "tell", "(IIIII)I"⟩ ⟨"SilkRiseModel", "tell", "(IIIII)I"⟩, .methodLink "SilkRiseLaw" 126 ⟨"SilkRise", "forget", "()I"⟩, .instanceMethod ⟨"SilkRise", "forget", "()I"⟩, .selects "SilkRise" ⟨"SilkRise", "forget", "()I"⟩ ⟨"SilkRise", "forget", "()I"⟩, .methodLink "SilkRiseLaw" 129 ⟨"SilkRiseModel", "forget", "()I"⟩, .instanceMethod ⟨"SilkRiseModel", "forget", "()I"⟩, .selects "SilkRiseModel" ⟨"SilkRiseModel", "forget", "()I"⟩ ⟨"SilkRiseModel", "forget", "()I"⟩, .methodLink "SilkRiseLaw" 130 ⟨"SilkRise", "pulls", "(II)I"⟩, .instanceMethod ⟨"SilkRise", "pulls", "(II)I"⟩, .selects "SilkRise" ⟨"SilkRise", "pulls", "(II)I"⟩ ⟨"SilkRise", "pulls", "(II)I"⟩, .methodLink "SilkRiseLaw" 133 ⟨"SilkRiseModel", "pulls", "(II)I"⟩, .instanceMethod ⟨"SilkRiseModel", "pulls", "(II)I"⟩, .selects "SilkRiseModel" ⟨"SilkRiseModel", "pulls", "(II)I"⟩ ⟨"SilkRiseModel", "pulls", "(II)I"⟩, .methodLink "SilkRiseLaw" 134 ⟨"SilkRise", "sure", "(I)I"⟩, .instanceMethod ⟨"SilkRise", "sure", "(I)I"⟩, .selects "SilkRise" ⟨"SilkRise", "sure", "(I)I"⟩ ⟨"SilkRise", "sure", "(I)I"⟩, .methodLink "SilkRiseLaw" 137 ⟨"SilkRiseModel", "sure", "(I)I"⟩, .instanceMethod ⟨"SilkRiseModel", "sure", "(I)I"⟩, .selects "SilkRiseModel" ⟨"SilkRiseModel", "sure", "(I)I"⟩ ⟨"SilkRiseModel", "sure", "(I)I"⟩, .methodLink "SilkRiseLaw" 138 ⟨"SilkRise", "hold", "(I)Z"⟩, .instanceMethod ⟨"SilkRise", "hold", "(I)Z"⟩, .selects "SilkRise" ⟨"SilkRise", "hold", "(I)Z"⟩ ⟨"SilkRise", "hold", "(I)Z"⟩, .methodLink "SilkRiseLaw" 142 ⟨"SilkRiseModel", "hold", "(I)Z"⟩]
theorem zchp_34 : zch_34 = ([1169, 1860, 1861, 1862, 1171, 1172, 1173, 1864, 1865, 1866, 1177, 1178, 1179, 1871, 1872, 1873, 1181, 1182, 1183, 1875, 1876, 1877, 1196, 1197, 1198, 1887, 1888, 1889, 1200, 1201, 1202, 1891] : List Nat).filterMap (fun i => lw_tbl[i]?) := by decide +kernel
def zch_35 : List Jvm.Cond := [.instanceMethod ⟨"SilkRiseModel", "hold", "(I)Z"⟩, .selects "SilkRiseModel" ⟨"SilkRiseModel", "hold", "(I)Z"⟩ ⟨"SilkRiseModel", "hold", "(I)Z"⟩, .methodLink "SilkRiseLaw" 143 ⟨"SilkRise", "restore", "(I)Z"⟩, .instanceMethod ⟨"SilkRise", "restore", "(I)Z"⟩, .selects "SilkRise" ⟨"SilkRise", "restore", "(I)Z"⟩ ⟨"SilkRise", "restore", "(I)Z"⟩, .methodLink "SilkRiseLaw" 146 ⟨"SilkRiseModel", "restore", "(I)Z"⟩, .instanceMethod ⟨"SilkRiseModel", "restore", "(I)Z"⟩, .selects "SilkRiseModel" ⟨"SilkRiseModel", "restore", "(I)Z"⟩ ⟨"SilkRiseModel", "restore", "(I)Z"⟩, .methodLink "SilkRiseLaw" 147 ⟨"SilkRise", "count", "(I)I"⟩, .instanceMethod ⟨"SilkRise", "count", "(I)I"⟩, .selects "SilkRise" ⟨"SilkRise", "count", "(I)I"⟩ ⟨"SilkRise", "count", "(I)I"⟩, .methodLink "SilkRiseLaw" 150 ⟨"SilkRiseModel", "count", "(I)I"⟩, .instanceMethod ⟨"SilkRiseModel", "count", "(I)I"⟩, .selects "SilkRiseModel" ⟨"SilkRiseModel", "count", "(I)I"⟩ ⟨"SilkRiseModel", "count", "(I)I"⟩]
theorem zchp_35 : zch_35 = ([1892, 1893, 1212, 1213, 1214, 1895, 1896, 1897, 1220, 1221, 1222, 1899, 1900, 1901] : List Nat).filterMap (fun i => lw_tbl[i]?) := by decide +kernel
def zchL : List (List Jvm.Cond) := [zch_0, zch_1, zch_2, zch_3, zch_4, zch_5, zch_6, zch_7, zch_8, zch_9, zch_10, zch_11, zch_12, zch_13, zch_14, zch_15, zch_16, zch_17, zch_18, zch_19, zch_20, zch_21, zch_22, zch_23, zch_24, zch_25, zch_26, zch_27, zch_28, zch_29, zch_30, zch_31, zch_32, zch_33, zch_34, zch_35]
theorem zch_sub {l : List Jvm.Cond} {ps : List Nat} (h : l = ps.filterMap (fun i => lw_tbl[i]?)) : ∀ w ∈ l, w ∈ lw_tbl := fun w hw => by
  rw [h] at hw
  obtain ⟨i, -, hi⟩ := List.mem_filterMap.mp hw
  exact List.mem_of_getElem? hi
theorem zchL_in : ∀ l ∈ zchL, ∀ w ∈ l, w ∈ lw_tbl := by
  intro l hl
  unfold zchL at hl
  simp only [List.mem_cons, List.not_mem_nil, or_false] at hl
  rcases hl with rfl | rfl | rfl | rfl | rfl | rfl | rfl | rfl | rfl | rfl | rfl | rfl | rfl | rfl | rfl | rfl | rfl | rfl | rfl | rfl | rfl | rfl | rfl | rfl | rfl | rfl | rfl | rfl | rfl | rfl | rfl | rfl | rfl | rfl | rfl | rfl
  · exact zch_sub zchp_0
  · exact zch_sub zchp_1
  · exact zch_sub zchp_2
  · exact zch_sub zchp_3
  · exact zch_sub zchp_4
  · exact zch_sub zchp_5
  · exact zch_sub zchp_6
  · exact zch_sub zchp_7
  · exact zch_sub zchp_8
  · exact zch_sub zchp_9
  · exact zch_sub zchp_10
  · exact zch_sub zchp_11
  · exact zch_sub zchp_12
  · exact zch_sub zchp_13
  · exact zch_sub zchp_14
  · exact zch_sub zchp_15
  · exact zch_sub zchp_16
  · exact zch_sub zchp_17
  · exact zch_sub zchp_18
  · exact zch_sub zchp_19
  · exact zch_sub zchp_20
  · exact zch_sub zchp_21
  · exact zch_sub zchp_22
  · exact zch_sub zchp_23
  · exact zch_sub zchp_24
  · exact zch_sub zchp_25
  · exact zch_sub zchp_26
  · exact zch_sub zchp_27
  · exact zch_sub zchp_28
  · exact zch_sub zchp_29
  · exact zch_sub zchp_30
  · exact zch_sub zchp_31
  · exact zch_sub zchp_32
  · exact zch_sub zchp_33
  · exact zch_sub zchp_34
  · exact zch_sub zchp_35
def nestw : Jvm.Cond → Bool
  | .fieldLinkNest .. => true
  | .methodLinkNest .. => true
  | .arrayOver _ => true
  | _ => false
theorem zchL_good : zchL.all (fun l => l.all (fun w => goodWord w || nestw w)) = true := by decide +kernel
def zuws : List (List Jvm.Cond) := [u_ws RX0 TX0 3, u_ws RX1 TX1 8, u_ws RX2 TX2 6, u_ws RX3 TX3 3, u_ws RX4 TX4 5, u_ws RX5 TX5 5, u_ws RX6 TX6 10, u_ws RX7 TX7 3, u_ws RX8 TX8 6, u_ws RX9 TX9 4, u_ws RX10 TX10 8, u_ws RX11 TX11 14, u_ws RX12 TX12 82]
theorem zuws_in : ∀ l ∈ zuws, ∀ w ∈ l, w ∈ lw_tbl := by
  intro l hl
  unfold zuws at hl
  simp only [List.mem_cons, List.not_mem_nil, or_false] at hl
  rcases hl with rfl | rfl | rfl | rfl | rfl | rfl | rfl | rfl | rfl | rfl | rfl | rfl | rfl
  · exact zin_0
  · exact zin_1
  · exact zin_2
  · exact zin_3
  · exact zin_4
  · exact zin_5
  · exact zin_6
  · exact zin_7
  · exact zin_8
  · exact zin_9
  · exact zin_10
  · exact zin_11
  · exact zin_12
theorem zuws_good : zuws.all (fun l => l.all goodWord) = true := by decide +kernel
/-- a word by its place -/
def zT (i : Nat) : Option Jvm.Cond := (zchL.getD (i / 32) [])[i % 32]?
end
section
/-! the code that the pure machine runs; a row an instruction: place, instruction, next place, numbers resolved, live locals where something jumps to -/
def zc_X9_init : List zE := [(0, .aload_n 0, 1, [], none), (1, .invokespecial 3, 4, [9998, 0, 1, 2], none), (4, .aload_n 0, 5, [], none), (5, .iload_n 1, 6, [], none), (6, .putfield 9, 9, [9, 0, 0, 3, 0, 1], none), (9, .aload_n 0, 10, [], none), (10, .iload_n 2, 11, [], none), (11, .putfield 15, 14, [9, 1, 0, 4, 0, 1], none), (14, .aload_n 0, 15, [], none), (15, .iload_n 1, 16, [], none), (16, .iload_n 2, 17, [], none), (17, .imul, 18, [], none), (18, .newarray .int, 20, [20, 5], none), (20, .putfield 18, 23, [9, 2, 2, 6, 0, 1], none), (23, .aload_n 0, 24, [], some [0]), (24, .iconst 0, 25, [], none), (25, .putfield 22, 28, [9, 3, 0, 7, 0, 0], none), (28, .return_, 29, [], none)]
def zc_X9_size : List zE := [(0, .aload_n 0, 1, [], none), (1, .getfield 22, 4, [9, 3, 0, 7, 0], none), (4, .ireturn, 5, [0], none)]
def zc_X9_has : List zE := [(0, .iload_n 1, 1, [], none), (1, .ifCond .lt 15, 4, [16], none), (4, .iload_n 1, 5, [], none), (5, .aload_n 0, 6, [], none), (6, .getfield 22, 9, [9, 3, 0, 7, 0], none), (9, .if_icmp .ge 7, 12, [16], none), (12, .iconst 1, 13, [], none), (13, .goto 4, 16, [17], none), (16, .iconst 0, 17, [], some []), (17, .ireturn, 18, [1], some [])]
def zc_X9_isFull : List zE := [(0, .aload_n 0, 1, [], none), (1, .getfield 22, 4, [9, 3, 0, 7, 0], none), (4, .aload_n 0, 5, [], none), (5, .getfield 9, 8, [9, 0, 0, 3, 0], none), (8, .if_icmp .lt 7, 11, [15], none), (11, .iconst 1, 12, [], none), (12, .goto 4, 15, [16], none), (15, .iconst 0, 16, [], some []), (16, .ireturn, 17, [1], some [])]
def zc_X9_clear : List zE := [(0, .aload_n 0, 1, [], none), (1, .iconst 0, 2, [], none), (2, .putfield 22, 5, [9, 3, 0, 7, 0, 0], none), (5, .return_, 6, [], none)]
def zc_X9_at : List zE := [(0, .iload_n 1, 1, [], none), (1, .ifCond .lt 39, 4, [40], none), (4, .iload_n 1, 5, [], none), (5, .aload_n 0, 6, [], none), (6, .getfield 22, 9, [9, 3, 0, 7, 0], none), (9, .if_icmp .ge 31, 12, [40], none), (12, .iload_n 2, 13, [], none), (13, .ifCond .lt 27, 16, [40], none), (16, .iload_n 2, 17, [], none), (17, .aload_n 0, 18, [], none), (18, .getfield 15, 21, [9, 1, 0, 4, 0], none), (21, .if_icmp .ge 19, 24, [40], none), (24, .aload_n 0, 25, [], none), (25, .getfield 18, 28, [9, 2, 2, 6, 0], none), (28, .iload_n 1, 29, [], none), (29, .aload_n 0, 30, [], none), (30, .getfield 15, 33, [9, 1, 0, 4, 0], none), (33, .imul, 34, [], none), (34, .iload_n 2, 35, [], none), (35, .iadd, 36, [], none), (36, .iaload, 37, [20], none), (37, .goto 4, 40, [41], none), (40, .iconst (-1), 41, [], some []), (41, .ireturn, 42, [0], some [])]
def zc_X9_put : List zE := [(0, .iload_n 1, 1, [], none), (1, .ifCond .lt 37, 4, [38], none), (4, .iload_n 1, 5, [], none), (5, .aload_n 0, 6, [], none), (6, .getfield 22, 9, [9, 3, 0, 7, 0], none), (9, .if_icmp .ge 29, 12, [38], none), (12, .iload_n 2, 13, [], none), (13, .ifCond .lt 25, 16, [38], none), (16, .iload_n 2, 17, [], none), (17, .aload_n 0, 18, [], none), (18, .getfield 15, 21, [9, 1, 0, 4, 0], none), (21, .if_icmp .ge 17, 24, [38], none), (24, .aload_n 0, 25, [], none), (25, .getfield 18, 28, [9, 2, 2, 6, 0], none), (28, .iload_n 1, 29, [], none), (29, .aload_n 0, 30, [], none), (30, .getfield 15, 33, [9, 1, 0, 4, 0], none), (33, .imul, 34, [], none), (34, .iload_n 2, 35, [], none), (35, .iadd, 36, [], none), (36, .iload_n 3, 37, [], none), (37, .iastore, 38, [20], none), (38, .return_, 39, [], some [])]
def zc_X9_add : List zE := [(0, .aload_n 0, 1, [], none), (1, .invokevirtual 25, 4, [3, 0, 1, 9, 8, 9, 10, 11], none), (4, .ifCond .eq 5, 7, [9], none), (7, .iconst (-1), 8, [], none), (8, .ireturn, 9, [0], none), (9, .aload_n 0, 10, [], some [0]), (10, .dup, 11, [], none), (11, .getfield 22, 14, [9, 3, 0, 7, 0], none), (14, .iconst 1, 15, [], none), (15, .iadd, 16, [], none), (16, .putfield 22, 19, [9, 3, 0, 7, 0, 0], none), (19, .iconst 0, 20, [], none), (20, .istore_n 1, 21, [], none), (21, .iload_n 1, 22, [], some [0, 1]), (22, .aload_n 0, 23, [], none), (23, .getfield 15, 26, [9, 1, 0, 4, 0], none), (26, .if_icmp .ge 21, 29, [47], none), (29, .aload_n 0, 30, [], none), (30, .aload_n 0, 31, [], none), (31, .getfield 22, 34, [9, 3, 0, 7, 0], none), (34, .iconst 1, 35, [], none), (35, .isub, 36, [], none), (36, .iload_n 1, 37, [], none), (37, .iconst 0, 38, [], none), (38, .invokevirtual 29, 41, [6, 3, 0, 9, 12, 13, 14, 11], none), (41, .iinc 1 1, 44, [], none), (44, .goto (-23), 47, [21], none), (47, .aload_n 0, 48, [], some [0]), (48, .getfield 22, 51, [9, 3, 0, 7, 0], none), (51, .iconst 1, 52, [], none), (52, .isub, 53, [], none), (53, .ireturn, 54, [0], none)]
def zc_X9_become : List zE := [(0, .aload_n 1, 1, [], none), (1, .getfield 18, 4, [9, 2, 2, 6, 0], none), (4, .iconst 0, 5, [], none), (5, .aload_n 0, 6, [], none), (6, .getfield 18, 9, [9, 2, 2, 6, 0], none), (9, .iconst 0, 10, [], none), (10, .aload_n 0, 11, [], none), (11, .getfield 18, 14, [9, 2, 2, 6, 0], none), (14, .arraylength, 15, [20], none), (15, .aload_n 1, 16, [], none), (16, .getfield 18, 19, [9, 2, 2, 6, 0], none), (19, .arraylength, 20, [20], none), (20, .invokestatic 33, 23, [275, 2, 1, 0, 15, 16, 17], none), (23, .invokestatic 39, 26, [9999, 18, 19, 20, 21], none), (26, .aload_n 0, 27, [], none), (27, .aload_n 0, 28, [], none), (28, .getfield 9, 31, [9, 0, 0, 3, 0], none), (31, .aload_n 1, 32, [], none), (32, .getfield 22, 35, [9, 3, 0, 7, 0], none), (35, .invokestatic 33, 38, [275, 2, 1, 0, 15, 16, 17], none), (38, .putfield 22, 41, [9, 3, 0, 7, 0, 0], none), (41, .return_, 42, [], some [])]
def zc_X3_init : List zE := [(0, .aload_n 0, 1, [], none), (1, .invokespecial 3, 4, [9998, 22, 1, 2], none), (4, .aload_n 0, 5, [], none), (5, .sipush 432, 8, [], none), (8, .newarray .int, 10, [20, 5], none), (10, .putfield 11, 13, [3, 0, 2, 23, 0, 1], none), (13, .aload_n 0, 14, [], some [0]), (14, .iconst 4, 15, [], none), (15, .newarray .int, 17, [20, 5], none), (17, .putfield 15, 20, [3, 1, 2, 24, 0, 1], none), (20, .aload_n 0, 21, [], some [0]), (21, .iconst 0, 22, [], none), (22, .putfield 18, 25, [3, 2, 0, 25, 0, 0], none), (25, .return_, 26, [], none)]
def zc_X3_clear : List zE := [(0, .aload_n 0, 1, [], none), (1, .iconst 0, 2, [], none), (2, .putfield 18, 5, [3, 2, 0, 25, 0, 0], none), (5, .aload_n 0, 6, [], none), (6, .iconst 0, 7, [], none), (7, .invokevirtual 22, 10, [12, 1, 0, 3, 26, 27, 28, 29], none), (10, .aload_n 0, 11, [], none), (11, .bipush (-12), 13, [], none), (13, .invokevirtual 26, 16, [14, 1, 0, 3, 30, 31, 32, 29], none), (16, .aload_n 0, 17, [], none), (17, .bipush (-13), 19, [], none), (19, .invokevirtual 26, 22, [14, 1, 0, 3, 30, 31, 32, 29], none), (22, .aload_n 0, 23, [], some [0]), (23, .bipush (-2), 25, [], none), (25, .invokevirtual 26, 28, [14, 1, 0, 3, 30, 31, 32, 29], none), (28, .aload_n 0, 29, [], none), (29, .bipush (-6), 31, [], none), (31, .invokevirtual 26, 34, [14, 1, 0, 3, 30, 31, 32, 29], none), (34, .aload_n 0, 35, [], none), (35, .iconst 1, 36, [], none), (36, .invokevirtual 22, 39, [12, 1, 0, 3, 26, 27, 28, 29], none), (39, .aload_n 0, 40, [], none), (40, .iconst 0, 41, [], none), (41, .invokevirtual 26, 44, [14, 1, 0, 3, 30, 31, 32, 29], none), (44, .aload_n 0, 45, [], some [0]), (45, .bipush (-6), 47, [], none), (47, .invokevirtual 26, 50, [14, 1, 0, 3, 30, 31, 32, 29], none), (50, .aload_n 0, 51, [], none), (51, .iconst 2, 52, [], none), (52, .invokevirtual 22, 55, [12, 1, 0, 3, 26, 27, 28, 29], none), (55, .aload_n 0, 56, [], none), (56, .bipush (-13), 58, [], none), (58, .invokevirtual 26, 61, [14, 1, 0, 3, 30, 31, 32, 29], none), (61, .aload_n 0, 62, [], none), (62, .bipush (-6), 64, [], none), (64, .invokevirtual 26, 67, [14, 1, 0, 3, 30, 31, 32, 29], none), (67, .aload_n 0, 68, [], some [0]), (68, .iconst 3, 69, [], none), (69, .invokevirtual 22, 72, [12, 1, 0, 3, 26, 27, 28, 29], none), (72, .aload_n 0, 73, [], none), (73, .bipush (-16), 75, [], none), (75, .invokevirtual 26, 78, [14, 1, 0, 3, 30, 31, 32, 29], none), (78, .aload_n 0, 79, [], none), (79, .bipush (-6), 81, [], none), (81, .invokevirtual 26, 84, [14, 1, 0, 3, 30, 31, 32, 29], none), (84, .return_, 85, [], none)]
def zc_X3_become : List zE := [(0, .aload_n 1, 1, [], none), (1, .getfield 11, 4, [3, 0, 2, 23, 0], none), (4, .iconst 0, 5, [], none), (5, .aload_n 0, 6, [], none), (6, .getfield 11, 9, [3, 0, 2, 23, 0], none), (9, .iconst 0, 10, [], none), (10, .aload_n 0, 11, [], none), (11, .getfield 11, 14, [3, 0, 2, 23, 0], none), (14, .arraylength, 15, [20], none), (15, .invokestatic 29, 18, [9999, 33, 19, 20, 21], none), (18, .aload_n 1, 19, [], none), (19, .getfield 15, 22, [3, 1, 2, 24, 0], none), (22, .iconst 0, 23, [], none), (23, .aload_n 0, 24, [], none), (24, .getfield 15, 27, [3, 1, 2, 24, 0], none), (27, .iconst 0, 28, [], none), (28, .aload_n 0, 29, [], none), (29, .getfield 15, 32, [3, 1, 2, 24, 0], none), (32, .arraylength, 33, [20], none), (33, .invokestatic 29, 36, [9999, 33, 19, 20, 21], none), (36, .aload_n 0, 37, [], none), (37, .aload_n 1, 38, [], none), (38, .getfield 18, 41, [3, 2, 0, 25, 0], none), (41, .putfield 18, 44, [3, 2, 0, 25, 0, 0], none), (44, .return_, 45, [], none)]
def zc_X3_begin : List zE := [(0, .iload_n 1, 1, [], none), (1, .ifCond .lt 22, 4, [23], none), (4, .iload_n 1, 5, [], none), (5, .aload_n 0, 6, [], none), (6, .getfield 15, 9, [3, 1, 2, 24, 0], none), (9, .arraylength, 10, [20], none), (10, .if_icmp .ge 13, 13, [23], none), (13, .aload_n 0, 14, [], none), (14, .getfield 15, 17, [3, 1, 2, 24, 0], none), (17, .iload_n 1, 18, [], none), (18, .aload_n 0, 19, [], none), (19, .getfield 18, 22, [3, 2, 0, 25, 0], none), (22, .iastore, 23, [20], none), (23, .return_, 24, [], some [])]
def zc_X3_startOf : List zE := [(0, .iload_n 1, 1, [], none), (1, .ifCond .lt 21, 4, [22], none), (4, .iload_n 1, 5, [], none), (5, .aload_n 0, 6, [], none), (6, .getfield 15, 9, [3, 1, 2, 24, 0], none), (9, .arraylength, 10, [20], none), (10, .if_icmp .ge 12, 13, [22], none), (13, .aload_n 0, 14, [], none), (14, .getfield 15, 17, [3, 1, 2, 24, 0], none), (17, .iload_n 1, 18, [], none), (18, .iaload, 19, [20], none), (19, .goto 7, 22, [26], none), (22, .aload_n 0, 23, [], some [0]), (23, .getfield 18, 26, [3, 2, 0, 25, 0], none), (26, .ireturn, 27, [0], some [])]
def zc_X3_add : List zE := [(0, .aload_n 0, 1, [], none), (1, .getfield 18, 4, [3, 2, 0, 25, 0], none), (4, .aload_n 0, 5, [], none), (5, .getfield 11, 8, [3, 0, 2, 23, 0], none), (8, .arraylength, 9, [20], none), (9, .if_icmp .ge 23, 12, [32], none), (12, .aload_n 0, 13, [], none), (13, .getfield 11, 16, [3, 0, 2, 23, 0], none), (16, .aload_n 0, 17, [], none), (17, .getfield 18, 20, [3, 2, 0, 25, 0], none), (20, .iload_n 1, 21, [], none), (21, .iastore, 22, [20], none), (22, .aload_n 0, 23, [], none), (23, .dup, 24, [], none), (24, .getfield 18, 27, [3, 2, 0, 25, 0], none), (27, .iconst 1, 28, [], none), (28, .iadd, 29, [], none), (29, .putfield 18, 32, [3, 2, 0, 25, 0, 0], none), (32, .return_, 33, [], some [])]
def zc_X3_addLess : List zE := [(0, .aload_n 0, 1, [], none), (1, .bipush (-5), 3, [], none), (3, .invokevirtual 26, 6, [14, 1, 0, 3, 30, 31, 32, 29], none), (6, .aload_n 0, 7, [], none), (7, .iconst 0, 8, [], none), (8, .invokevirtual 26, 11, [14, 1, 0, 3, 30, 31, 32, 29], none), (11, .aload_n 0, 12, [], none), (12, .getfield 18, 15, [3, 2, 0, 25, 0], none), (15, .iconst 1, 16, [], none), (16, .isub, 17, [], none), (17, .ireturn, 18, [0], none)]
def zc_X3_goHereFrom : List zE := [(0, .iload_n 1, 1, [], none), (1, .ifCond .lt 21, 4, [22], none), (4, .iload_n 1, 5, [], none), (5, .aload_n 0, 6, [], none), (6, .getfield 18, 9, [3, 2, 0, 25, 0], none), (9, .if_icmp .ge 13, 12, [22], none), (12, .aload_n 0, 13, [], none), (13, .getfield 11, 16, [3, 0, 2, 23, 0], none), (16, .iload_n 1, 17, [], none), (17, .aload_n 0, 18, [], none), (18, .getfield 18, 21, [3, 2, 0, 25, 0], none), (21, .iastore, 22, [20], none), (22, .return_, 23, [], some [])]
def zc_X3_cell : List zE := [(0, .iload_n 1, 1, [], none), (1, .ifCond .lt 20, 4, [21], none), (4, .iload_n 1, 5, [], none), (5, .aload_n 0, 6, [], none), (6, .getfield 18, 9, [3, 2, 0, 25, 0], none), (9, .if_icmp .ge 12, 12, [21], none), (12, .aload_n 0, 13, [], none), (13, .getfield 11, 16, [3, 0, 2, 23, 0], none), (16, .iload_n 1, 17, [], none), (17, .iaload, 18, [20], none), (18, .goto 5, 21, [23], none), (21, .bipush (-6), 23, [], some []), (23, .ireturn, 24, [0], some [])]
def zc_X3_size : List zE := [(0, .aload_n 0, 1, [], none), (1, .getfield 18, 4, [3, 2, 0, 25, 0], none), (4, .ireturn, 5, [0], none)]
def zc_X8_init : List zE := [(0, .aload_n 0, 1, [], none), (1, .invokespecial 3, 4, [9998, 34, 1, 2], none), (4, .aload_n 0, 5, [], none), (5, .new 9, 8, [9, 4, 35, 36, 11], none), (8, .dup, 9, [], none), (9, .bipush 7, 11, [], none), (11, .bipush 7, 13, [], none), (13, .invokespecial 11, 16, [0, 2, 0, 37, 38, 11], none), (16, .putfield 14, 19, [8, 0, 2, 39, 0, 1], none), (19, .aload_n 0, 20, [], some [0]), (20, .new 9, 23, [9, 4, 35, 36, 11], none), (23, .dup, 24, [], none), (24, .iconst 5, 25, [], none), (25, .iconst 4, 26, [], none), (26, .invokespecial 11, 29, [0, 2, 0, 37, 38, 11], none), (29, .putfield 20, 32, [8, 1, 2, 40, 0, 1], none), (32, .aload_n 0, 33, [], some [0]), (33, .new 9, 36, [9, 4, 35, 36, 11], none), (36, .dup, 37, [], none), (37, .iconst 5, 38, [], none), (38, .iconst 4, 39, [], none), (39, .invokespecial 11, 42, [0, 2, 0, 37, 38, 11], none), (42, .putfield 23, 45, [8, 2, 2, 41, 0, 1], none), (45, .aload_n 0, 46, [], some [0]), (46, .iconst 0, 47, [], none), (47, .putfield 26, 50, [8, 3, 0, 42, 0, 0], none), (50, .aload_n 0, 51, [], none), (51, .iconst 0, 52, [], none), (52, .putfield 30, 55, [8, 4, 0, 43, 0, 0], none), (55, .aload_n 0, 56, [], none), (56, .iconst 0, 57, [], none), (57, .putfield 33, 60, [8, 5, 0, 44, 0, 0], none), (60, .return_, 61, [], none)]
def zc_X8_clear : List zE := [(0, .aload_n 0, 1, [], none), (1, .getfield 14, 4, [8, 0, 2, 39, 0], none), (4, .invokevirtual 36, 7, [4, 0, 0, 9, 45, 46, 47, 11], none), (7, .aload_n 0, 8, [], none), (8, .getfield 20, 11, [8, 1, 2, 40, 0], none), (11, .invokevirtual 36, 14, [4, 0, 0, 9, 45, 46, 47, 11], none), (14, .aload_n 0, 15, [], none), (15, .getfield 23, 18, [8, 2, 2, 41, 0], none), (18, .invokevirtual 36, 21, [4, 0, 0, 9, 45, 46, 47, 11], none), (21, .aload_n 0, 22, [], none), (22, .iconst 0, 23, [], none), (23, .putfield 26, 26, [8, 3, 0, 42, 0, 0], none), (26, .aload_n 0, 27, [], some [0]), (27, .iconst 0, 28, [], none), (28, .putfield 30, 31, [8, 4, 0, 43, 0, 0], none), (31, .aload_n 0, 32, [], none), (32, .iconst 0, 33, [], none), (33, .putfield 33, 36, [8, 5, 0, 44, 0, 0], none), (36, .return_, 37, [], none)]
def zc_X8_become : List zE := [(0, .aload_n 0, 1, [], none), (1, .getfield 14, 4, [8, 0, 2, 39, 0], none), (4, .aload_n 1, 5, [], none), (5, .getfield 14, 8, [8, 0, 2, 39, 0], none), (8, .invokevirtual 39, 11, [8, 1, 0, 9, 48, 49, 50, 11], none), (11, .aload_n 0, 12, [], none), (12, .getfield 20, 15, [8, 1, 2, 40, 0], none), (15, .aload_n 1, 16, [], none), (16, .getfield 20, 19, [8, 1, 2, 40, 0], none), (19, .invokevirtual 39, 22, [8, 1, 0, 9, 48, 49, 50, 11], none), (22, .aload_n 0, 23, [], none), (23, .getfield 23, 26, [8, 2, 2, 41, 0], none), (26, .aload_n 1, 27, [], none), (27, .getfield 23, 30, [8, 2, 2, 41, 0], none), (30, .invokevirtual 39, 33, [8, 1, 0, 9, 48, 49, 50, 11], none), (33, .aload_n 0, 34, [], none), (34, .aload_n 1, 35, [], none), (35, .getfield 26, 38, [8, 3, 0, 42, 0], none), (38, .putfield 26, 41, [8, 3, 0, 42, 0, 0], none), (41, .aload_n 0, 42, [], some [0, 1]), (42, .aload_n 1, 43, [], none), (43, .getfield 30, 46, [8, 4, 0, 43, 0], none), (46, .putfield 30, 49, [8, 4, 0, 43, 0, 0], none), (49, .aload_n 0, 50, [], none), (50, .aload_n 1, 51, [], none), (51, .getfield 33, 54, [8, 5, 0, 44, 0], none), (54, .putfield 33, 57, [8, 5, 0, 44, 0, 0], none), (57, .return_, 58, [], none)]
def zc_X8_loadsThat : List zE := [(0, .iconst 0, 1, [], none), (1, .istore_n 2, 2, [], none), (2, .iconst 0, 3, [], none), (3, .istore_n 3, 4, [], none), (4, .iload_n 3, 5, [], some [0, 1, 2, 3]), (5, .aload_n 0, 6, [], none), (6, .getfield 14, 9, [8, 0, 2, 39, 0], none), (9, .invokevirtual 43, 12, [1, 0, 1, 9, 51, 52, 53, 11], none), (12, .if_icmp .ge 28, 15, [40], none), (15, .aload_n 0, 16, [], none), (16, .getfield 14, 19, [8, 0, 2, 39, 0], none), (19, .iload_n 3, 20, [], none), (20, .iconst 3, 21, [], none), (21, .invokevirtual 47, 24, [5, 2, 1, 9, 54, 55, 56, 11], none), (24, .iload_n 1, 25, [], none), (25, .if_icmp .ne 9, 28, [34], none), (28, .iload_n 2, 29, [], none), (29, .iconst 1, 30, [], none), (30, .iload_n 3, 31, [], none), (31, .ishl, 32, [], none), (32, .ior, 33, [], none), (33, .istore_n 2, 34, [], none), (34, .iinc 3 1, 37, [], some [0, 1, 2, 3]), (37, .goto (-33), 40, [4], none), (40, .iload_n 2, 41, [], some [2]), (41, .ireturn, 42, [0], none)]
def zc_X8_up : List zE := [(0, .aload_n 0, 1, [], none), (1, .iconst 1, 2, [], none), (2, .invokevirtual 51, 5, [22, 1, 1, 8, 57, 58, 59, 60], none), (5, .invokestatic 55, 8, [277, 1, 1, 0, 61, 62, 63], none), (8, .ireturn, 9, [0], none)]
def zc_X8_stored : List zE := [(0, .aload_n 0, 1, [], none), (1, .iconst 2, 2, [], none), (2, .invokevirtual 51, 5, [22, 1, 1, 8, 57, 58, 59, 60], none), (5, .invokestatic 55, 8, [277, 1, 1, 0, 61, 62, 63], none), (8, .ireturn, 9, [0], none)]
def zc_X8_isLoadAtFoot : List zE := [(0, .aload_n 0, 1, [], none), (1, .getfield 14, 4, [8, 0, 2, 39, 0], none), (4, .iload_n 1, 5, [], none), (5, .invokevirtual 60, 8, [2, 1, 1, 9, 64, 65, 66, 11], none), (8, .ifCond .eq 19, 11, [27], none), (11, .aload_n 0, 12, [], none), (12, .getfield 14, 15, [8, 0, 2, 39, 0], none), (15, .iload_n 1, 16, [], none), (16, .iconst 3, 17, [], none), (17, .invokevirtual 47, 20, [5, 2, 1, 9, 54, 55, 56, 11], none), (20, .ifCond .ne 7, 23, [27], none), (23, .iconst 1, 24, [], none), (24, .goto 4, 27, [28], none), (27, .iconst 0, 28, [], some []), (28, .ireturn, 29, [1], some [])]
def zc_X8_isSilkAtFoot : List zE := [(0, .aload_n 0, 1, [], none), (1, .getfield 20, 4, [8, 1, 2, 40, 0], none), (4, .iload_n 1, 5, [], none), (5, .invokevirtual 60, 8, [2, 1, 1, 9, 64, 65, 66, 11], none), (8, .ifCond .eq 21, 11, [29], none), (11, .aload_n 0, 12, [], none), (12, .getfield 20, 15, [8, 1, 2, 40, 0], none), (15, .iload_n 1, 16, [], none), (16, .iconst 1, 17, [], none), (17, .invokevirtual 47, 20, [5, 2, 1, 9, 54, 55, 56, 11], none), (20, .bipush (-2), 22, [], none), (22, .if_icmp .ne 7, 25, [29], none), (25, .iconst 1, 26, [], none), (26, .goto 4, 29, [30], none), (29, .iconst 0, 30, [], some []), (30, .ireturn, 31, [1], some [])]
def zc_X8_isReady : List zE := [(0, .aload_n 0, 1, [], none), (1, .iload_n 1, 2, [], none), (2, .invokevirtual 64, 5, [25, 1, 1, 8, 67, 68, 69, 60], none), (5, .ifCond .eq 15, 8, [20], none), (8, .aload_n 0, 9, [], none), (9, .iload_n 2, 10, [], none), (10, .invokevirtual 67, 13, [26, 1, 1, 8, 70, 71, 72, 60], none), (13, .ifCond .eq 7, 16, [20], none), (16, .iconst 1, 17, [], none), (17, .goto 4, 20, [21], none), (20, .iconst 0, 21, [], some []), (21, .ireturn, 22, [1], some [])]
def zc_X8_letGo : List zE := [(0, .aload_n 0, 1, [], none), (1, .getfield 14, 4, [8, 0, 2, 39, 0], none), (4, .iload_n 1, 5, [], none), (5, .iconst 3, 6, [], none), (6, .iconst 1, 7, [], none), (7, .invokevirtual 70, 10, [6, 3, 0, 9, 73, 13, 14, 11], none), (10, .aload_n 0, 11, [], none), (11, .getfield 14, 14, [8, 0, 2, 39, 0], none), (14, .iload_n 1, 15, [], none), (15, .iconst 4, 16, [], none), (16, .iconst 0, 17, [], none), (17, .invokevirtual 70, 20, [6, 3, 0, 9, 73, 13, 14, 11], none), (20, .aload_n 0, 21, [], none), (21, .getfield 14, 24, [8, 0, 2, 39, 0], none), (24, .iload_n 1, 25, [], none), (25, .iconst 5, 26, [], none), (26, .iload_n 2, 27, [], none), (27, .invokevirtual 70, 30, [6, 3, 0, 9, 73, 13, 14, 11], none), (30, .aload_n 0, 31, [], none), (31, .getfield 20, 34, [8, 1, 2, 40, 0], none), (34, .iload_n 2, 35, [], none), (35, .iconst 1, 36, [], none), (36, .iload_n 1, 37, [], none), (37, .invokevirtual 70, 40, [6, 3, 0, 9, 73, 13, 14, 11], none), (40, .aload_n 0, 41, [], some [0, 2]), (41, .getfield 20, 44, [8, 1, 2, 40, 0], none), (44, .iload_n 2, 45, [], none), (45, .iconst 2, 46, [], none), (46, .aload_n 0, 47, [], none), (47, .getfield 20, 50, [8, 1, 2, 40, 0], none), (50, .iload_n 2, 51, [], none), (51, .iconst 2, 52, [], none), (52, .invokevirtual 47, 55, [5, 2, 1, 9, 54, 55, 56, 11], none), (55, .iconst 1, 56, [], none), (56, .iadd, 57, [], none), (57, .invokevirtual 70, 60, [6, 3, 0, 9, 73, 13, 14, 11], none), (60, .return_, 61, [], none)]
def zc_X8_bringDown : List zE := [(0, .aload_n 0, 1, [], none), (1, .getfield 20, 4, [8, 1, 2, 40, 0], none), (4, .aload_n 0, 5, [], none), (5, .getfield 14, 8, [8, 0, 2, 39, 0], none), (8, .iload_n 1, 9, [], none), (9, .iconst 5, 10, [], none), (10, .invokevirtual 47, 13, [5, 2, 1, 9, 54, 55, 56, 11], none), (13, .iconst 1, 14, [], none), (14, .bipush (-2), 16, [], none), (16, .invokevirtual 70, 19, [6, 3, 0, 9, 73, 13, 14, 11], none), (19, .aload_n 0, 20, [], none), (20, .getfield 14, 23, [8, 0, 2, 39, 0], none), (23, .iload_n 1, 24, [], none), (24, .iconst 3, 25, [], none), (25, .iload_n 2, 26, [], none), (26, .invokevirtual 70, 29, [6, 3, 0, 9, 73, 13, 14, 11], none), (29, .aload_n 0, 30, [], none), (30, .getfield 14, 33, [8, 0, 2, 39, 0], none), (33, .iload_n 1, 34, [], none), (34, .iconst 4, 35, [], none), (35, .iconst 0, 36, [], none), (36, .invokevirtual 70, 39, [6, 3, 0, 9, 73, 13, 14, 11], none), (39, .aload_n 0, 40, [], some [0, 1]), (40, .getfield 14, 43, [8, 0, 2, 39, 0], none), (43, .iload_n 1, 44, [], none), (44, .iconst 5, 45, [], none), (45, .bipush (-2), 47, [], none), (47, .invokevirtual 70, 50, [6, 3, 0, 9, 73, 13, 14, 11], none), (50, .return_, 51, [], none)]
def zc_X8_nearestHook : List zE := [(0, .bipush (-2), 2, [], none), (2, .istore_n 3, 3, [], none), (3, .bipush 20, 5, [], none), (5, .istore 4, 7, [], none), (7, .iconst 0, 8, [], none), (8, .istore 5, 10, [], none), (10, .iload 5, 12, [], some [0, 1, 2, 3, 4, 5]), (12, .aload_n 0, 13, [], none), (13, .getfield 23, 16, [8, 2, 2, 41, 0], none), (16, .invokevirtual 43, 19, [1, 0, 1, 9, 51, 52, 53, 11], none), (19, .if_icmp .ge 64, 22, [83], none), (22, .aload_n 0, 23, [], none), (23, .getfield 23, 26, [8, 2, 2, 41, 0], none), (26, .iload 5, 28, [], none), (28, .iconst 0, 29, [], none), (29, .invokevirtual 47, 32, [5, 2, 1, 9, 54, 55, 56, 11], none), (32, .iload_n 1, 33, [], none), (33, .isub, 34, [], none), (34, .invokestatic 74, 37, [276, 1, 1, 0, 74, 75, 17], none), (37, .istore 6, 39, [], none), (39, .iload 6, 41, [], none), (41, .iload 4, 43, [], none), (43, .if_icmp .ge 34, 46, [77], none), (46, .iload 6, 48, [], none), (48, .aload_n 0, 49, [], none), (49, .getfield 23, 52, [8, 2, 2, 41, 0], none), (52, .iload 5, 54, [], none), (54, .iconst 1, 55, [], none), (55, .invokevirtual 47, 58, [5, 2, 1, 9, 54, 55, 56, 11], none), (58, .if_icmp .gt 19, 61, [77], none), (61, .iload_n 2, 62, [], some [0, 1, 2, 3, 4, 5, 6]), (62, .iload 5, 64, [], none), (64, .ishr, 65, [], none), (65, .iconst 1, 66, [], none), (66, .iand, 67, [], none), (67, .ifCond .ne 10, 70, [77], none), (70, .iload 5, 72, [], none), (72, .istore_n 3, 73, [], none), (73, .iload 6, 75, [], none), (75, .istore 4, 77, [], none), (77, .iinc 5 1, 80, [], some [0, 1, 2, 3, 4, 5]), (80, .goto (-70), 83, [10], none), (83, .iload_n 3, 84, [], some [3]), (84, .ireturn, 85, [0], none)]
def zc_X8_hooksReaching : List zE := [(0, .iconst 0, 1, [], none), (1, .istore_n 2, 2, [], none), (2, .iconst 0, 3, [], none), (3, .istore_n 3, 4, [], none), (4, .iload_n 3, 5, [], some [0, 1, 2, 3]), (5, .aload_n 0, 6, [], none), (6, .getfield 23, 9, [8, 2, 2, 41, 0], none), (9, .invokevirtual 43, 12, [1, 0, 1, 9, 51, 52, 53, 11], none), (12, .if_icmp .ge 41, 15, [53], none), (15, .aload_n 0, 16, [], none), (16, .getfield 23, 19, [8, 2, 2, 41, 0], none), (19, .iload_n 3, 20, [], none), (20, .iconst 0, 21, [], none), (21, .invokevirtual 47, 24, [5, 2, 1, 9, 54, 55, 56, 11], none), (24, .iload_n 1, 25, [], none), (25, .isub, 26, [], none), (26, .invokestatic 74, 29, [276, 1, 1, 0, 74, 75, 17], none), (29, .aload_n 0, 30, [], none), (30, .getfield 23, 33, [8, 2, 2, 41, 0], none), (33, .iload_n 3, 34, [], none), (34, .iconst 1, 35, [], none), (35, .invokevirtual 47, 38, [5, 2, 1, 9, 54, 55, 56, 11], none), (38, .if_icmp .gt 9, 41, [47], none), (41, .iload_n 2, 42, [], some [0, 1, 2, 3]), (42, .iconst 1, 43, [], none), (43, .iload_n 3, 44, [], none), (44, .ishl, 45, [], none), (45, .ior, 46, [], none), (46, .istore_n 2, 47, [], none), (47, .iinc 3 1, 50, [], some [0, 1, 2, 3]), (50, .goto (-46), 53, [4], none), (53, .iload_n 2, 54, [], some [2]), (54, .ireturn, 55, [0], none)]
def zc_X5_init : List zE := [(0, .aload_n 0, 1, [], none), (1, .invokespecial 3, 4, [9998, 76, 1, 2], none), (4, .aload_n 0, 5, [], none), (5, .new 9, 8, [8, 6, 77, 78, 60], none), (8, .dup, 9, [], none), (9, .invokespecial 11, 12, [19, 0, 0, 79, 80, 60], none), (12, .putfield 12, 15, [5, 0, 2, 81, 0, 1], none), (15, .aload_n 0, 16, [], some [0]), (16, .new 18, 19, [3, 3, 82, 83, 29], none), (19, .dup, 20, [], none), (20, .invokespecial 20, 23, [9, 0, 0, 84, 85, 29], none), (23, .putfield 21, 26, [5, 1, 2, 86, 0, 1], none), (26, .aload_n 0, 27, [], some [0]), (27, .invokevirtual 25, 30, [33, 0, 0, 5, 87, 88, 89, 90], none), (30, .return_, 31, [], none)]
def zc_X5_clear : List zE := [(0, .aload_n 0, 1, [], none), (1, .getfield 12, 4, [5, 0, 2, 81, 0], none), (4, .invokevirtual 28, 7, [20, 0, 0, 8, 91, 92, 93, 60], none), (7, .aload_n 0, 8, [], none), (8, .getfield 21, 11, [5, 1, 2, 86, 0], none), (11, .invokevirtual 29, 14, [10, 0, 0, 3, 94, 95, 96, 29], none), (14, .aload_n 0, 15, [], none), (15, .bipush 10, 17, [], none), (17, .putfield 30, 20, [5, 2, 0, 97, 0, 0], none), (20, .aload_n 0, 21, [], none), (21, .iconst 0, 22, [], none), (22, .putfield 34, 25, [5, 3, 0, 98, 0, 0], none), (25, .aload_n 0, 26, [], some [0]), (26, .iconst 0, 27, [], none), (27, .putfield 37, 30, [5, 4, 0, 99, 0, 0], none), (30, .return_, 31, [], none)]
def zc_X5_become : List zE := [(0, .aload_n 0, 1, [], none), (1, .getfield 12, 4, [5, 0, 2, 81, 0], none), (4, .aload_n 1, 5, [], none), (5, .getfield 12, 8, [5, 0, 2, 81, 0], none), (8, .invokevirtual 40, 11, [21, 1, 0, 8, 100, 101, 102, 60], none), (11, .aload_n 0, 12, [], none), (12, .getfield 21, 15, [5, 1, 2, 86, 0], none), (15, .aload_n 1, 16, [], none), (16, .getfield 21, 19, [5, 1, 2, 86, 0], none), (19, .invokevirtual 44, 22, [11, 1, 0, 3, 103, 104, 105, 29], none), (22, .aload_n 0, 23, [], none), (23, .aload_n 1, 24, [], none), (24, .getfield 30, 27, [5, 2, 0, 97, 0], none), (27, .putfield 30, 30, [5, 2, 0, 97, 0, 0], none), (30, .aload_n 0, 31, [], none), (31, .aload_n 1, 32, [], none), (32, .getfield 34, 35, [5, 3, 0, 98, 0], none), (35, .putfield 34, 38, [5, 3, 0, 98, 0, 0], none), (38, .aload_n 0, 39, [], some [0, 1]), (39, .aload_n 1, 40, [], none), (40, .getfield 37, 43, [5, 4, 0, 99, 0], none), (43, .putfield 37, 46, [5, 4, 0, 99, 0, 0], none), (46, .return_, 47, [], none)]
def zc_X10_init : List zE := [(0, .aload_n 0, 1, [], none), (1, .invokespecial 5, 4, [9998, 106, 1, 2], none), (4, .aload_n 0, 5, [], none), (5, .bipush 22, 7, [], none), (7, .newarray .long, 9, [23, 107], none), (9, .putfield 11, 12, [10, 0, 2, 108, 0, 1], none), (12, .aload_n 0, 13, [], some [0]), (13, .sipush 401, 16, [], none), (16, .newarray .int, 18, [20, 5], none), (18, .putfield 15, 21, [10, 1, 2, 109, 0, 1], none), (21, .aload_n 0, 22, [], some [0]), (22, .sipush 401, 25, [], none), (25, .newarray .int, 27, [20, 5], none), (27, .putfield 19, 30, [10, 2, 2, 110, 0, 1], none), (30, .aload_n 0, 31, [], some [0]), (31, .sipush 401, 34, [], none), (34, .newarray .long, 36, [23, 107], none), (36, .putfield 22, 39, [10, 3, 2, 111, 0, 1], none), (39, .aload_n 0, 40, [], some [0]), (40, .iconst 0, 41, [], none), (41, .putfield 25, 44, [10, 4, 0, 112, 0, 0], none), (44, .aload_n 0, 45, [], none), (45, .iconst 0, 46, [], none), (46, .newarray .byte, 48, [21, 113], none), (48, .putfield 29, 51, [10, 5, 2, 114, 0, 0], none), (51, .aload_n 0, 52, [], some [0]), (52, .iconst 0, 53, [], none), (53, .putfield 33, 56, [10, 6, 0, 115, 0, 0], none), (56, .aload_n 0, 57, [], none), (57, .iconst 0, 58, [], none), (58, .putfield 36, 61, [10, 7, 0, 116, 0, 0], none), (61, .iconst 0, 62, [], none), (62, .istore_n 1, 63, [], none), (63, .iconst 0, 64, [], none), (64, .istore_n 2, 65, [], none), (65, .iload_n 2, 66, [], some [0, 1, 2]), (66, .ldc 39, 68, [1, 0], none), (68, .invokevirtual 41, 71, [262, 0, 1, 30, 117, 118, 119, 120], none), (71, .if_icmp .ge 53, 74, [124], none), (74, .iload_n 1, 75, [], none), (75, .aload_n 0, 76, [], none), (76, .getfield 11, 79, [10, 0, 2, 108, 0], none), (79, .arraylength, 80, [23], none), (80, .if_icmp .ge 44, 83, [124], none), (83, .ldc 39, 85, [1, 0], none), (85, .iload_n 2, 86, [], none), (86, .invokevirtual 47, 89, [264, 1, 1, 30, 121, 122, 123, 120], none), (89, .istore_n 3, 90, [], none), (90, .iload_n 3, 91, [], none), (91, .bipush 32, 93, [], none), (93, .if_icmp .ne 9, 96, [102], none), (96, .iinc 1 1, 99, [], none), (99, .goto 19, 102, [118], none), (102, .aload_n 0, 103, [], some [0, 1, 2, 3]), (103, .getfield 11, 106, [10, 0, 2, 108, 0], none), (106, .iload_n 1, 107, [], none), (107, .aload_n 0, 108, [], none), (108, .getfield 11, 111, [10, 0, 2, 108, 0], none), (111, .iload_n 1, 112, [], none), (112, .laload, 113, [23], none), (113, .iload_n 3, 114, [], none), (114, .invokestatic 51, 117, [46, 2, 2, 0, 124, 125, 126], none), (117, .lastore, 118, [23], none), (118, .iinc 2 1, 121, [], some [0, 1, 2]), (121, .goto (-56), 124, [65], none), (124, .return_, 125, [], some [])]
def zc_X10_scan : List zE := [(0, .aload_n 0, 1, [], none), (1, .aload_n 1, 2, [], none), (2, .putfield 29, 5, [10, 5, 2, 114, 0, 0], none), (5, .aload_n 0, 6, [], none), (6, .iload_n 2, 7, [], none), (7, .aload_n 1, 8, [], none), (8, .arraylength, 9, [21], none), (9, .invokestatic 55, 12, [275, 2, 1, 0, 127, 16, 17], none), (12, .putfield 33, 15, [10, 6, 0, 115, 0, 0], none), (15, .aload_n 0, 16, [], none), (16, .iconst 0, 17, [], none), (17, .putfield 36, 20, [10, 7, 0, 116, 0, 0], none), (20, .aload_n 0, 21, [], some [0]), (21, .iconst 0, 22, [], none), (22, .putfield 25, 25, [10, 4, 0, 112, 0, 0], none), (25, .iconst 0, 26, [], none), (26, .istore_n 3, 27, [], none), (27, .iload_n 3, 28, [], some [0, 3]), (28, .aload_n 0, 29, [], none), (29, .getfield 15, 32, [10, 1, 2, 109, 0], none), (32, .arraylength, 33, [20], none), (33, .if_icmp .ge 13, 36, [46], none), (36, .aload_n 0, 37, [], none), (37, .invokevirtual 61, 40, [40, 0, 0, 10, 128, 129, 130, 126], none), (40, .iinc 3 1, 43, [], none), (43, .goto (-16), 46, [27], none), (46, .return_, 47, [], some [])]
def zc_X10_kindAt : List zE := [(0, .iload_n 1, 1, [], none), (1, .ifCond .lt 20, 4, [21], none), (4, .iload_n 1, 5, [], none), (5, .aload_n 0, 6, [], none), (6, .getfield 25, 9, [10, 4, 0, 112, 0], none), (9, .if_icmp .ge 12, 12, [21], none), (12, .aload_n 0, 13, [], none), (13, .getfield 15, 16, [10, 1, 2, 109, 0], none), (16, .iload_n 1, 17, [], none), (17, .iaload, 18, [20], none), (18, .goto 4, 21, [22], none), (21, .iconst 1, 22, [], some []), (22, .ireturn, 23, [0], some [])]
def zc_X10_placeAt : List zE := [(0, .iload_n 1, 1, [], none), (1, .ifCond .lt 20, 4, [21], none), (4, .iload_n 1, 5, [], none), (5, .aload_n 0, 6, [], none), (6, .getfield 25, 9, [10, 4, 0, 112, 0], none), (9, .if_icmp .ge 12, 12, [21], none), (12, .aload_n 0, 13, [], none), (13, .getfield 19, 16, [10, 2, 2, 110, 0], none), (16, .iload_n 1, 17, [], none), (17, .iaload, 18, [20], none), (18, .goto 7, 21, [25], none), (21, .aload_n 0, 22, [], some [0]), (22, .getfield 33, 25, [10, 6, 0, 115, 0], none), (25, .ireturn, 26, [0], some [])]
def zc_X10_valueAt : List zE := [(0, .iload_n 1, 1, [], none), (1, .ifCond .lt 20, 4, [21], none), (4, .iload_n 1, 5, [], none), (5, .aload_n 0, 6, [], none), (6, .getfield 25, 9, [10, 4, 0, 112, 0], none), (9, .if_icmp .ge 12, 12, [21], none), (12, .aload_n 0, 13, [], none), (13, .getfield 22, 16, [10, 3, 2, 111, 0], none), (16, .iload_n 1, 17, [], none), (17, .laload, 18, [23], none), (18, .goto 4, 21, [22], none), (21, .lconst 0, 22, [], some []), (22, .lreturn, 23, [], some [])]
def zc_X10_scanOne : List zE := [(0, .aload_n 0, 1, [], some [0]), (1, .getfield 36, 4, [10, 7, 0, 116, 0], none), (4, .aload_n 0, 5, [], none), (5, .getfield 33, 8, [10, 6, 0, 115, 0], none), (8, .if_icmp .ge 30, 11, [38], none), (11, .aload_n 0, 12, [], none), (12, .aload_n 0, 13, [], none), (13, .getfield 36, 16, [10, 7, 0, 116, 0], none), (16, .invokevirtual 64, 19, [42, 1, 1, 10, 131, 132, 133, 126], none), (19, .invokestatic 68, 22, [43, 1, 1, 0, 134, 135, 126], none), (22, .ifCond .eq 16, 25, [38], none), (25, .aload_n 0, 26, [], none), (26, .dup, 27, [], none), (27, .getfield 36, 30, [10, 7, 0, 116, 0], none), (30, .iconst 1, 31, [], none), (31, .iadd, 32, [], none), (32, .putfield 36, 35, [10, 7, 0, 116, 0, 0], none), (35, .goto (-35), 38, [0], none), (38, .aload_n 0, 39, [], some [0]), (39, .aload_n 0, 40, [], none), (40, .getfield 36, 43, [10, 7, 0, 116, 0], none), (43, .invokevirtual 64, 46, [42, 1, 1, 10, 131, 132, 133, 126], none), (46, .istore_n 1, 47, [], none), (47, .aload_n 0, 48, [], none), (48, .getfield 36, 51, [10, 7, 0, 116, 0], none), (51, .aload_n 0, 52, [], none), (52, .getfield 33, 55, [10, 6, 0, 115, 0], none), (55, .if_icmp .lt 16, 58, [71], none), (58, .aload_n 0, 59, [], none), (59, .iconst 0, 60, [], none), (60, .aload_n 0, 61, [], none), (61, .getfield 36, 64, [10, 7, 0, 116, 0], none), (64, .lconst 0, 65, [], none), (65, .invokevirtual 72, 68, [41, 3, 0, 10, 136, 137, 138, 126], none), (68, .goto 65, 71, [133], none), (71, .iload_n 1, 72, [], some [0, 1]), (72, .invokestatic 76, 75, [44, 1, 1, 0, 139, 140, 126], none), (75, .ifCond .eq 10, 78, [85], none), (78, .aload_n 0, 79, [], none), (79, .invokevirtual 79, 82, [47, 0, 0, 10, 141, 142, 143, 126], none), (82, .goto 51, 85, [133], none), (85, .iload_n 1, 86, [], some [0, 1]), (86, .invokestatic 82, 89, [45, 1, 1, 0, 144, 145, 126], none), (89, .ifCond .eq 10, 92, [99], none), (92, .aload_n 0, 93, [], none), (93, .invokevirtual 85, 96, [49, 0, 0, 10, 146, 147, 148, 126], none), (96, .goto 37, 99, [133], none), (99, .aload_n 0, 100, [], some [0, 1]), (100, .ldc 88, 102, [1, 1], none), (102, .iload_n 1, 103, [], none), (103, .i2c, 104, [], none), (104, .invokevirtual 90, 107, [269, 1, 1, 30, 149, 150, 151, 120], none), (107, .ifCond .lt 7, 110, [114], none), (110, .iload_n 1, 111, [], none), (111, .goto 4, 114, [115], none), (114, .iconst 1, 115, [], some [0]), (115, .aload_n 0, 116, [], some [0]), (116, .getfield 36, 119, [10, 7, 0, 116, 0], none), (119, .lconst 0, 120, [], none), (120, .invokevirtual 72, 123, [41, 3, 0, 10, 136, 137, 138, 126], none), (123, .aload_n 0, 124, [], none), (124, .dup, 125, [], none), (125, .getfield 36, 128, [10, 7, 0, 116, 0], none), (128, .iconst 1, 129, [], none), (129, .iadd, 130, [], none), (130, .putfield 36, 133, [10, 7, 0, 116, 0, 0], none), (133, .return_, 134, [], some [])]
def zc_X10_add : List zE := [(0, .aload_n 0, 1, [], none), (1, .getfield 25, 4, [10, 4, 0, 112, 0], none), (4, .aload_n 0, 5, [], none), (5, .getfield 15, 8, [10, 1, 2, 109, 0], none), (8, .arraylength, 9, [20], none), (9, .if_icmp .ge 67, 12, [76], none), (12, .aload_n 0, 13, [], none), (13, .getfield 25, 16, [10, 4, 0, 112, 0], none), (16, .aload_n 0, 17, [], none), (17, .getfield 19, 20, [10, 2, 2, 110, 0], none), (20, .arraylength, 21, [20], none), (21, .if_icmp .ge 55, 24, [76], none), (24, .aload_n 0, 25, [], none), (25, .getfield 25, 28, [10, 4, 0, 112, 0], none), (28, .aload_n 0, 29, [], none), (29, .getfield 22, 32, [10, 3, 2, 111, 0], none), (32, .arraylength, 33, [23], none), (33, .if_icmp .ge 43, 36, [76], none), (36, .aload_n 0, 37, [], none), (37, .getfield 15, 40, [10, 1, 2, 109, 0], none), (40, .aload_n 0, 41, [], none), (41, .getfield 25, 44, [10, 4, 0, 112, 0], none), (44, .iload_n 1, 45, [], none), (45, .iastore, 46, [20], none), (46, .aload_n 0, 47, [], none), (47, .getfield 19, 50, [10, 2, 2, 110, 0], none), (50, .aload_n 0, 51, [], none), (51, .getfield 25, 54, [10, 4, 0, 112, 0], none), (54, .iload_n 2, 55, [], none), (55, .iastore, 56, [20], none), (56, .aload_n 0, 57, [], none), (57, .getfield 22, 60, [10, 3, 2, 111, 0], none), (60, .aload_n 0, 61, [], none), (61, .getfield 25, 64, [10, 4, 0, 112, 0], none), (64, .lload_n 3, 65, [], none), (65, .lastore, 66, [23], none), (66, .aload_n 0, 67, [], none), (67, .dup, 68, [], none), (68, .getfield 25, 71, [10, 4, 0, 112, 0], none), (71, .iconst 1, 72, [], none), (72, .iadd, 73, [], none), (73, .putfield 25, 76, [10, 4, 0, 112, 0, 0], none), (76, .return_, 77, [], some [])]
def zc_X10_byteAt : List zE := [(0, .iload_n 1, 1, [], none), (1, .ifCond .lt 24, 4, [25], none), (4, .iload_n 1, 5, [], none), (5, .aload_n 0, 6, [], none), (6, .getfield 33, 9, [10, 6, 0, 115, 0], none), (9, .if_icmp .ge 16, 12, [25], none), (12, .aload_n 0, 13, [], none), (13, .getfield 29, 16, [10, 5, 2, 114, 0], none), (16, .iload_n 1, 17, [], none), (17, .baload, 18, [21], none), (18, .sipush 255, 21, [], none), (21, .iand, 22, [], none), (22, .goto 4, 25, [26], none), (25, .iconst 0, 26, [], some []), (26, .ireturn, 27, [0], some [])]
def zc_X10_isBlank : List zE := [(0, .iload_n 0, 1, [], none), (1, .bipush 9, 3, [], none), (3, .if_icmp .eq 21, 6, [24], none), (6, .iload_n 0, 7, [], none), (7, .bipush 10, 9, [], none), (9, .if_icmp .eq 15, 12, [24], none), (12, .iload_n 0, 13, [], none), (13, .bipush 13, 15, [], none), (15, .if_icmp .eq 9, 18, [24], none), (18, .iload_n 0, 19, [], none), (19, .bipush 32, 21, [], none), (21, .if_icmp .ne 7, 24, [28], none), (24, .iconst 1, 25, [], some []), (25, .goto 4, 28, [29], none), (28, .iconst 0, 29, [], some []), (29, .ireturn, 30, [1], some [])]
def zc_X10_isLetter : List zE := [(0, .iload_n 0, 1, [], none), (1, .bipush 97, 3, [], none), (3, .if_icmp .lt 13, 6, [16], none), (6, .iload_n 0, 7, [], none), (7, .bipush 122, 9, [], none), (9, .if_icmp .gt 7, 12, [16], none), (12, .iconst 1, 13, [], none), (13, .goto 4, 16, [17], none), (16, .iconst 0, 17, [], some []), (17, .ireturn, 18, [1], some [])]
def zc_X10_isDigit : List zE := [(0, .iload_n 0, 1, [], none), (1, .bipush 48, 3, [], none), (3, .if_icmp .lt 13, 6, [16], none), (6, .iload_n 0, 7, [], none), (7, .bipush 57, 9, [], none), (9, .if_icmp .gt 7, 12, [16], none), (12, .iconst 1, 13, [], none), (13, .goto 4, 16, [17], none), (16, .iconst 0, 17, [], some []), (17, .ireturn, 18, [1], some [])]
def zc_X10_withLetter : List zE := [(0, .lload_n 0, 1, [], none), (1, .ldc2_w 93, 4, [0, 32, 152], none), (4, .lmul, 5, [], none), (5, .iload_n 2, 6, [], none), (6, .bipush 97, 8, [], none), (8, .isub, 9, [], none), (9, .iconst 1, 10, [], none), (10, .iadd, 11, [], none), (11, .i2l, 12, [], none), (12, .ladd, 13, [], none), (13, .lreturn, 14, [], none)]
def zc_X10_scanLetters : List zE := [(0, .aload_n 0, 1, [], none), (1, .getfield 36, 4, [10, 7, 0, 116, 0], none), (4, .istore_n 1, 5, [], none), (5, .lconst 0, 6, [], none), (6, .lstore_n 2, 7, [], none), (7, .aload_n 0, 8, [], some [0, 1, 2]), (8, .getfield 36, 11, [10, 7, 0, 116, 0], none), (11, .aload_n 0, 12, [], none), (12, .getfield 33, 15, [10, 6, 0, 115, 0], none), (15, .if_icmp .ge 43, 18, [58], none), (18, .aload_n 0, 19, [], none), (19, .aload_n 0, 20, [], none), (20, .getfield 36, 23, [10, 7, 0, 116, 0], none), (23, .invokevirtual 64, 26, [42, 1, 1, 10, 131, 132, 133, 126], none), (26, .invokestatic 76, 29, [44, 1, 1, 0, 139, 140, 126], none), (29, .ifCond .eq 29, 32, [58], none), (32, .lload_n 2, 33, [], none), (33, .aload_n 0, 34, [], none), (34, .aload_n 0, 35, [], none), (35, .getfield 36, 38, [10, 7, 0, 116, 0], none), (38, .invokevirtual 64, 41, [42, 1, 1, 10, 131, 132, 133, 126], none), (41, .invokestatic 51, 44, [46, 2, 2, 0, 124, 125, 126], none), (44, .lstore_n 2, 45, [], none), (45, .aload_n 0, 46, [], some [0, 1, 2]), (46, .dup, 47, [], none), (47, .getfield 36, 50, [10, 7, 0, 116, 0], none), (50, .iconst 1, 51, [], none), (51, .iadd, 52, [], none), (52, .putfield 36, 55, [10, 7, 0, 116, 0, 0], none), (55, .goto (-48), 58, [7], none), (58, .aload_n 0, 59, [], some [0, 1, 2]), (59, .aload_n 0, 60, [], none), (60, .getfield 36, 63, [10, 7, 0, 116, 0], none), (63, .iload_n 1, 64, [], none), (64, .isub, 65, [], none), (65, .bipush 8, 67, [], none), (67, .if_icmp .le 7, 70, [74], none), (70, .iconst 1, 71, [], none), (71, .goto 8, 74, [79], none), (74, .aload_n 0, 75, [], some [0, 1, 2]), (75, .lload_n 2, 76, [], none), (76, .invokevirtual 95, 79, [48, 1, 1, 10, 153, 154, 155, 126], none), (79, .iload_n 1, 80, [], some [1, 2]), (80, .lload_n 2, 81, [], none), (81, .invokevirtual 72, 84, [41, 3, 0, 10, 136, 137, 138, 126], none), (84, .return_, 85, [], none)]
def zc_X10_kindOf : List zE := [(0, .iconst 0, 1, [], none), (1, .istore_n 3, 2, [], none), (2, .iload_n 3, 3, [], some [0, 1, 3]), (3, .aload_n 0, 4, [], none), (4, .getfield 11, 7, [10, 0, 2, 108, 0], none), (7, .arraylength, 8, [23], none), (8, .if_icmp .ge 26, 11, [34], none), (11, .aload_n 0, 12, [], none), (12, .getfield 11, 15, [10, 0, 2, 108, 0], none), (15, .iload_n 3, 16, [], none), (16, .laload, 17, [23], none), (17, .lload_n 1, 18, [], none), (18, .lcmp, 19, [], none), (19, .ifCond .ne 9, 22, [28], none), (22, .sipush 128, 25, [], none), (25, .iload_n 3, 26, [], none), (26, .iadd, 27, [], none), (27, .ireturn, 28, [0], none), (28, .iinc 3 1, 31, [], some [0, 1, 3]), (31, .goto (-29), 34, [2], none), (34, .iconst 2, 35, [], some []), (35, .ireturn, 36, [0], none)]
def zc_X10_scanDigits : List zE := [(0, .aload_n 0, 1, [], none), (1, .getfield 36, 4, [10, 7, 0, 116, 0], none), (4, .istore_n 1, 5, [], none), (5, .iconst 0, 6, [], none), (6, .istore_n 2, 7, [], none), (7, .aload_n 0, 8, [], some [0, 1, 2]), (8, .getfield 36, 11, [10, 7, 0, 116, 0], none), (11, .aload_n 0, 12, [], none), (12, .getfield 33, 15, [10, 6, 0, 115, 0], none), (15, .if_icmp .ge 47, 18, [62], none), (18, .aload_n 0, 19, [], none), (19, .aload_n 0, 20, [], none), (20, .getfield 36, 23, [10, 7, 0, 116, 0], none), (23, .invokevirtual 64, 26, [42, 1, 1, 10, 131, 132, 133, 126], none), (26, .invokestatic 82, 29, [45, 1, 1, 0, 144, 145, 126], none), (29, .ifCond .eq 33, 32, [62], none), (32, .iload_n 2, 33, [], none), (33, .bipush 10, 35, [], none), (35, .imul, 36, [], none), (36, .aload_n 0, 37, [], none), (37, .aload_n 0, 38, [], none), (38, .getfield 36, 41, [10, 7, 0, 116, 0], none), (41, .invokevirtual 64, 44, [42, 1, 1, 10, 131, 132, 133, 126], none), (44, .bipush 48, 46, [], none), (46, .isub, 47, [], none), (47, .iadd, 48, [], none), (48, .istore_n 2, 49, [], none), (49, .aload_n 0, 50, [], none), (50, .dup, 51, [], none), (51, .getfield 36, 54, [10, 7, 0, 116, 0], none), (54, .iconst 1, 55, [], none), (55, .iadd, 56, [], none), (56, .putfield 36, 59, [10, 7, 0, 116, 0, 0], none), (59, .goto (-52), 62, [7], some [0, 1, 2]), (62, .aload_n 0, 63, [], some [0, 1, 2]), (63, .aload_n 0, 64, [], none), (64, .getfield 36, 67, [10, 7, 0, 116, 0], none), (67, .iload_n 1, 68, [], none), (68, .isub, 69, [], none), (69, .iconst 4, 70, [], none), (70, .if_icmp .le 7, 73, [77], none), (73, .iconst 1, 74, [], none), (74, .goto 4, 77, [78], none), (77, .iconst 3, 78, [], some [1, 2]), (78, .iload_n 1, 79, [], some [1, 2]), (79, .iload_n 2, 80, [], none), (80, .i2l, 81, [], none), (81, .invokevirtual 72, 84, [41, 3, 0, 10, 136, 137, 138, 126], none), (84, .return_, 85, [], none)]
def zc_X6_init : List zE := [(0, .aload_n 0, 1, [], none), (1, .invokespecial 3, 4, [9998, 156, 1, 2], none), (4, .aload_n 0, 5, [], none), (5, .new 9, 8, [10, 8, 157, 158, 126], none), (8, .dup, 9, [], none), (9, .invokespecial 11, 12, [35, 0, 0, 159, 160, 126], none), (12, .putfield 12, 15, [6, 0, 2, 161, 0, 1], none), (15, .aload_n 0, 16, [], some [0, 1]), (16, .aload_n 1, 17, [], none), (17, .putfield 18, 20, [6, 1, 2, 162, 0, 1], none), (20, .aload_n 0, 21, [], none), (21, .bipush 17, 23, [], none), (23, .newarray .long, 25, [23, 107], none), (25, .putfield 22, 28, [6, 2, 2, 163, 0, 1], none), (28, .aload_n 0, 29, [], some [0]), (29, .iconst 0, 30, [], none), (30, .putfield 26, 33, [6, 3, 0, 164, 0, 0], none), (33, .aload_n 0, 34, [], none), (34, .iconst 0, 35, [], none), (35, .putfield 30, 38, [6, 4, 0, 165, 0, 0], none), (38, .aload_n 0, 39, [], none), (39, .iconst 0, 40, [], none), (40, .putfield 33, 43, [6, 5, 0, 166, 0, 0], none), (43, .aload_n 0, 44, [], none), (44, .iconst 0, 45, [], none), (45, .putfield 36, 48, [6, 6, 0, 167, 0, 0], none), (48, .aload_n 0, 49, [], some [0]), (49, .iconst (-1), 50, [], none), (50, .putfield 39, 53, [6, 7, 0, 168, 0, 0], none), (53, .aload_n 0, 54, [], none), (54, .iconst 0, 55, [], none), (55, .putfield 42, 58, [6, 8, 0, 169, 0, 0], none), (58, .aload_n 0, 59, [], none), (59, .iconst (-1), 60, [], none), (60, .putfield 45, 63, [6, 9, 0, 170, 0, 0], none), (63, .return_, 64, [], none)]
def zc_X6_faultPlace : List zE := [(0, .aload_n 0, 1, [], none), (1, .getfield 39, 4, [6, 7, 0, 168, 0], none), (4, .ireturn, 5, [0], none)]
def zc_X6_faultOf : List zE := [(0, .aload_n 0, 1, [], none), (1, .getfield 18, 4, [6, 1, 2, 162, 0], none), (4, .invokevirtual 48, 7, [33, 0, 0, 5, 171, 88, 89, 90], none), (7, .aload_n 0, 8, [], none), (8, .iconst 0, 9, [], none), (9, .putfield 26, 12, [6, 3, 0, 164, 0, 0], none), (12, .aload_n 0, 13, [], none), (13, .iconst 0, 14, [], none), (14, .putfield 30, 17, [6, 4, 0, 165, 0, 0], none), (17, .aload_n 0, 18, [], none), (18, .iconst 0, 19, [], none), (19, .putfield 36, 22, [6, 6, 0, 167, 0, 0], none), (22, .aload_n 0, 23, [], some [0, 1, 2]), (23, .iconst (-1), 24, [], none), (24, .putfield 39, 27, [6, 7, 0, 168, 0, 0], none), (27, .aload_n 0, 28, [], none), (28, .iconst 0, 29, [], none), (29, .putfield 42, 32, [6, 8, 0, 169, 0, 0], none), (32, .aload_n 0, 33, [], none), (33, .iconst (-1), 34, [], none), (34, .putfield 45, 37, [6, 9, 0, 170, 0, 0], none), (37, .aload_n 0, 38, [], none), (38, .getfield 12, 41, [6, 0, 2, 161, 0], none), (41, .aload_n 1, 42, [], none), (42, .iload_n 2, 43, [], none), (43, .invokevirtual 53, 46, [36, 2, 0, 10, 172, 173, 174, 126], none), (46, .aload_n 0, 47, [], some [0]), (47, .aload_n 0, 48, [], none), (48, .getfield 12, 51, [6, 0, 2, 161, 0], none), (51, .iconst 0, 52, [], none), (52, .invokevirtual 57, 55, [37, 1, 1, 10, 175, 176, 177, 126], none), (55, .putfield 33, 58, [6, 5, 0, 166, 0, 0], none), (58, .iconst 0, 59, [], none), (59, .istore_n 3, 60, [], none), (60, .iload_n 3, 61, [], some [0, 3]), (61, .sipush 400, 64, [], none), (64, .if_icmp .gt 27, 67, [91], none), (67, .aload_n 0, 68, [], none), (68, .getfield 36, 71, [6, 6, 0, 167, 0], none), (71, .ifCond .ne 20, 74, [91], none), (74, .aload_n 0, 75, [], none), (75, .getfield 33, 78, [6, 5, 0, 166, 0], none), (78, .ifCond .eq 13, 81, [91], none), (81, .aload_n 0, 82, [], none), (82, .invokevirtual 61, 85, [53, 0, 0, 6, 178, 179, 180, 181], none), (85, .iinc 3 1, 88, [], none), (88, .goto (-28), 91, [60], none), (91, .aload_n 0, 92, [], some [0]), (92, .getfield 36, 95, [6, 6, 0, 167, 0], none), (95, .ifCond .ne 19, 98, [114], none), (98, .aload_n 0, 99, [], none), (99, .aload_n 0, 100, [], none), (100, .getfield 42, 103, [6, 8, 0, 169, 0], none), (103, .putfield 36, 106, [6, 6, 0, 167, 0, 0], none), (106, .aload_n 0, 107, [], none), (107, .aload_n 0, 108, [], none), (108, .getfield 45, 111, [6, 9, 0, 170, 0], none), (111, .putfield 39, 114, [6, 7, 0, 168, 0, 0], none), (114, .aload_n 0, 115, [], some [0]), (115, .getfield 36, 118, [6, 6, 0, 167, 0], none), (118, .ireturn, 119, [0], none)]
def zc_X6_statement : List zE := [(0, .aload_n 0, 1, [], none), (1, .getfield 33, 4, [6, 5, 0, 166, 0], none), (4, .tableswitch 129 128 137 #[56, 63, 70, 129, 129, 129, 129, 77, 94, 111], 60, [133, 60, 67, 74, 133, 133, 133, 133, 81, 98, 115], none), (60, .aload_n 0, 61, [], some [0]), (61, .invokevirtual 64, 64, [54, 0, 0, 6, 182, 183, 184, 181], none), (64, .goto 81, 67, [145], none), (67, .aload_n 0, 68, [], some [0]), (68, .invokevirtual 67, 71, [55, 0, 0, 6, 185, 186, 187, 181], none), (71, .goto 74, 74, [145], none), (74, .aload_n 0, 75, [], some [0]), (75, .invokevirtual 70, 78, [56, 0, 0, 6, 188, 189, 190, 181], none), (78, .goto 67, 81, [145], none), (81, .aload_n 0, 82, [], some [0]), (82, .getfield 18, 85, [6, 1, 2, 162, 0], none), (85, .aload_n 0, 86, [], none), (86, .iconst 1, 87, [], none), (87, .bipush 99, 89, [], none), (89, .invokevirtual 73, 92, [57, 2, 1, 6, 191, 192, 193, 181], none), (92, .putfield 77, 95, [5, 2, 0, 194, 1, 0], none), (95, .goto 50, 98, [145], none), (98, .aload_n 0, 99, [], some [0]), (99, .getfield 18, 102, [6, 1, 2, 162, 0], none), (102, .aload_n 0, 103, [], none), (103, .iconst 0, 104, [], none), (104, .bipush 100, 106, [], none), (106, .invokevirtual 73, 109, [57, 2, 1, 6, 191, 192, 193, 181], none), (109, .putfield 80, 112, [5, 3, 0, 195, 1, 0], none), (112, .goto 33, 115, [145], none), (115, .aload_n 0, 116, [], some [0]), (116, .getfield 18, 119, [6, 1, 2, 162, 0], none), (119, .aload_n 0, 120, [], none), (120, .iconst 0, 121, [], none), (121, .sipush 9999, 124, [], none), (124, .invokevirtual 73, 127, [57, 2, 1, 6, 191, 192, 193, 181], none), (127, .putfield 83, 130, [5, 4, 0, 196, 1, 0], none), (130, .goto 15, 133, [145], none), (133, .aload_n 0, 134, [], some [0]), (134, .aload_n 0, 135, [], none), (135, .getfield 33, 138, [6, 5, 0, 166, 0], none), (138, .sipush 131, 141, [], none), (141, .isub, 142, [], none), (142, .invokevirtual 86, 145, [58, 1, 0, 6, 197, 198, 199, 181], none), (145, .aload_n 0, 146, [], some [0]), (146, .bipush 59, 148, [], none), (148, .invokevirtual 90, 151, [62, 1, 1, 6, 200, 201, 202, 181], none), (151, .pop, 152, [], none), (152, .return_, 153, [], none)]
def zc_X6_loadStatement : List zE := [(0, .aload_n 0, 1, [], none), (1, .getfield 18, 4, [6, 1, 2, 162, 0], none), (4, .getfield 94, 7, [5, 0, 2, 203, 1], none), (7, .getfield 98, 10, [8, 0, 2, 204, 1], none), (10, .astore_n 1, 11, [], none), (11, .aload_n 0, 12, [], none), (12, .aload_n 1, 13, [], none), (13, .invokevirtual 104, 16, [63, 1, 0, 6, 205, 206, 207, 181], none), (16, .aload_n 0, 17, [], none), (17, .invokevirtual 108, 20, [64, 0, 0, 6, 208, 209, 210, 181], none), (20, .aload_n 1, 21, [], none), (21, .invokevirtual 111, 24, [7, 0, 1, 9, 211, 212, 213, 11], none), (24, .istore_n 2, 25, [], none), (25, .aload_n 1, 26, [], none), (26, .iload_n 2, 27, [], none), (27, .iconst 0, 28, [], none), (28, .aload_n 0, 29, [], none), (29, .iconst 1, 30, [], none), (30, .iconst 0, 31, [], none), (31, .bipush 19, 33, [], none), (33, .invokevirtual 117, 36, [65, 3, 1, 6, 214, 215, 216, 181], none), (36, .invokevirtual 121, 39, [6, 3, 0, 9, 217, 13, 14, 11], none), (39, .aload_n 1, 40, [], some [0, 1, 2]), (40, .iload_n 2, 41, [], none), (41, .iconst 1, 42, [], none), (42, .aload_n 0, 43, [], none), (43, .iconst 1, 44, [], none), (44, .iconst 1, 45, [], none), (45, .bipush 9, 47, [], none), (47, .invokevirtual 117, 50, [65, 3, 1, 6, 214, 215, 216, 181], none), (50, .invokevirtual 121, 53, [6, 3, 0, 9, 217, 13, 14, 11], none), (53, .aload_n 1, 54, [], none), (54, .iload_n 2, 55, [], none), (55, .iconst 2, 56, [], none), (56, .aload_n 0, 57, [], none), (57, .iconst 1, 58, [], none), (58, .iconst 0, 59, [], none), (59, .bipush 99, 61, [], none), (61, .invokevirtual 117, 64, [65, 3, 1, 6, 214, 215, 216, 181], none), (64, .invokevirtual 121, 67, [6, 3, 0, 9, 217, 13, 14, 11], none), (67, .aload_n 1, 68, [], some [1, 2]), (68, .iload_n 2, 69, [], none), (69, .iconst 3, 70, [], none), (70, .iconst 0, 71, [], none), (71, .invokevirtual 121, 74, [6, 3, 0, 9, 217, 13, 14, 11], none), (74, .aload_n 1, 75, [], none), (75, .iload_n 2, 76, [], none), (76, .iconst 5, 77, [], none), (77, .bipush (-2), 79, [], none), (79, .invokevirtual 121, 82, [6, 3, 0, 9, 217, 13, 14, 11], none), (82, .aload_n 1, 83, [], none), (83, .iload_n 2, 84, [], none), (84, .bipush 6, 86, [], none), (86, .bipush (-2), 88, [], none), (88, .invokevirtual 121, 91, [6, 3, 0, 9, 217, 13, 14, 11], none), (91, .return_, 92, [], none)]
def zc_X6_silkStatement : List zE := [(0, .aload_n 0, 1, [], none), (1, .getfield 18, 4, [6, 1, 2, 162, 0], none), (4, .getfield 94, 7, [5, 0, 2, 203, 1], none), (7, .getfield 125, 10, [8, 1, 2, 218, 1], none), (10, .astore_n 1, 11, [], none), (11, .aload_n 0, 12, [], none), (12, .aload_n 1, 13, [], none), (13, .invokevirtual 104, 16, [63, 1, 0, 6, 205, 206, 207, 181], none), (16, .aload_n 0, 17, [], none), (17, .invokevirtual 108, 20, [64, 0, 0, 6, 208, 209, 210, 181], none), (20, .aload_n 1, 21, [], none), (21, .invokevirtual 111, 24, [7, 0, 1, 9, 211, 212, 213, 11], none), (24, .istore_n 2, 25, [], none), (25, .aload_n 1, 26, [], none), (26, .iload_n 2, 27, [], none), (27, .iconst 0, 28, [], none), (28, .aload_n 0, 29, [], none), (29, .iconst 1, 30, [], none), (30, .iconst 1, 31, [], none), (31, .bipush 9, 33, [], none), (33, .invokevirtual 117, 36, [65, 3, 1, 6, 214, 215, 216, 181], none), (36, .invokevirtual 121, 39, [6, 3, 0, 9, 217, 13, 14, 11], none), (39, .iconst 1, 40, [], some [0, 1, 2]), (40, .istore_n 3, 41, [], none), (41, .aload_n 0, 42, [], none), (42, .getfield 33, 45, [6, 5, 0, 166, 0], none), (45, .bipush 45, 47, [], none), (47, .if_icmp .ne 12, 50, [59], none), (50, .aload_n 0, 51, [], none), (51, .bipush 45, 53, [], none), (53, .invokevirtual 90, 56, [62, 1, 1, 6, 200, 201, 202, 181], none), (56, .pop, 57, [], none), (57, .iconst (-1), 58, [], none), (58, .istore_n 3, 59, [], none), (59, .aload_n 1, 60, [], some [0, 1, 2, 3]), (60, .iload_n 2, 61, [], none), (61, .iconst 3, 62, [], none), (62, .aload_n 0, 63, [], none), (63, .iload_n 3, 64, [], none), (64, .bipush (-3), 66, [], none), (66, .iconst 3, 67, [], none), (67, .invokevirtual 117, 70, [65, 3, 1, 6, 214, 215, 216, 181], none), (70, .invokevirtual 121, 73, [6, 3, 0, 9, 217, 13, 14, 11], none), (73, .aload_n 1, 74, [], none), (74, .iload_n 2, 75, [], none), (75, .iconst 1, 76, [], none), (76, .bipush (-2), 78, [], none), (78, .invokevirtual 121, 81, [6, 3, 0, 9, 217, 13, 14, 11], none), (81, .return_, 82, [], none)]
def zc_X6_hookStatement : List zE := [(0, .aload_n 0, 1, [], none), (1, .getfield 18, 4, [6, 1, 2, 162, 0], none), (4, .getfield 94, 7, [5, 0, 2, 203, 1], none), (7, .getfield 128, 10, [8, 2, 2, 219, 1], none), (10, .astore_n 1, 11, [], none), (11, .aload_n 0, 12, [], none), (12, .aload_n 1, 13, [], none), (13, .invokevirtual 104, 16, [63, 1, 0, 6, 205, 206, 207, 181], none), (16, .aload_n 0, 17, [], none), (17, .invokevirtual 108, 20, [64, 0, 0, 6, 208, 209, 210, 181], none), (20, .aload_n 1, 21, [], none), (21, .invokevirtual 111, 24, [7, 0, 1, 9, 211, 212, 213, 11], none), (24, .istore_n 2, 25, [], none), (25, .aload_n 1, 26, [], none), (26, .iload_n 2, 27, [], none), (27, .iconst 0, 28, [], none), (28, .aload_n 0, 29, [], none), (29, .iconst 1, 30, [], none), (30, .iconst 0, 31, [], none), (31, .bipush 19, 33, [], none), (33, .invokevirtual 117, 36, [65, 3, 1, 6, 214, 215, 216, 181], none), (36, .invokevirtual 121, 39, [6, 3, 0, 9, 217, 13, 14, 11], none), (39, .aload_n 1, 40, [], some [0, 1, 2]), (40, .iload_n 2, 41, [], none), (41, .iconst 1, 42, [], none), (42, .aload_n 0, 43, [], none), (43, .iconst 1, 44, [], none), (44, .iconst 0, 45, [], none), (45, .iconst 5, 46, [], none), (46, .invokevirtual 117, 49, [65, 3, 1, 6, 214, 215, 216, 181], none), (49, .invokevirtual 121, 52, [6, 3, 0, 9, 217, 13, 14, 11], none), (52, .aload_n 1, 53, [], none), (53, .iload_n 2, 54, [], none), (54, .iconst 2, 55, [], none), (55, .aload_n 0, 56, [], none), (56, .iconst 1, 57, [], none), (57, .iconst 1, 58, [], none), (58, .bipush 9, 60, [], none), (60, .invokevirtual 117, 63, [65, 3, 1, 6, 214, 215, 216, 181], none), (63, .invokevirtual 121, 66, [6, 3, 0, 9, 217, 13, 14, 11], none), (66, .return_, 67, [], some [])]
def zc_X6_setting : List zE := [(0, .aload_n 0, 1, [], none), (1, .aload_n 0, 2, [], none), (2, .getfield 33, 5, [6, 5, 0, 166, 0], none), (5, .invokevirtual 90, 8, [62, 1, 1, 6, 200, 201, 202, 181], none), (8, .pop, 9, [], none), (9, .aload_n 0, 10, [], none), (10, .iconst 1, 11, [], none), (11, .iload_n 1, 12, [], none), (12, .iload_n 2, 13, [], none), (13, .invokevirtual 117, 16, [65, 3, 1, 6, 214, 215, 216, 181], none), (16, .ireturn, 17, [0], none)]
def zc_X6_lawStatement : List zE := [(0, .iload_n 1, 1, [], none), (1, .iconst 0, 2, [], none), (2, .iconst 3, 3, [], none), (3, .invokestatic 131, 6, [145, 3, 1, 1, 220, 221, 222], none), (6, .ifCond .ne 9, 9, [15], none), (9, .aload_n 0, 10, [], none), (10, .iconst 1, 11, [], none), (11, .invokevirtual 135, 14, [66, 1, 0, 6, 223, 224, 225, 181], none), (14, .return_, 15, [], none), (15, .aload_n 0, 16, [], some [0, 1]), (16, .aload_n 0, 17, [], none), (17, .getfield 33, 20, [6, 5, 0, 166, 0], none), (20, .invokevirtual 90, 23, [62, 1, 1, 6, 200, 201, 202, 181], none), (23, .pop, 24, [], none), (24, .aload_n 0, 25, [], none), (25, .bipush 61, 27, [], none), (27, .invokevirtual 90, 30, [62, 1, 1, 6, 200, 201, 202, 181], none), (30, .pop, 31, [], none), (31, .aload_n 0, 32, [], none), (32, .getfield 18, 35, [6, 1, 2, 162, 0], none), (35, .getfield 138, 38, [5, 1, 2, 226, 1], none), (38, .iload_n 1, 39, [], none), (39, .invokevirtual 142, 42, [12, 1, 0, 3, 227, 27, 28, 29], none), (42, .iconst 0, 43, [], none), (43, .istore_n 2, 44, [], none), (44, .iload_n 2, 45, [], some [0, 2]), (45, .iconst 4, 46, [], none), (46, .if_icmp .gt 116, 49, [162], none), (49, .aload_n 0, 50, [], none), (50, .getfield 36, 53, [6, 6, 0, 167, 0], none), (53, .ifCond .ne 109, 56, [162], none), (56, .aload_n 0, 57, [], none), (57, .getfield 33, 60, [6, 5, 0, 166, 0], none), (60, .sipush 138, 63, [], none), (63, .if_icmp .ne 99, 66, [162], none), (66, .iload_n 2, 67, [], none), (67, .iconst 4, 68, [], none), (68, .if_icmp .lt 8, 71, [76], none), (71, .aload_n 0, 72, [], none), (72, .iconst 2, 73, [], none), (73, .invokevirtual 135, 76, [66, 1, 0, 6, 223, 224, 225, 181], none), (76, .aload_n 0, 77, [], some [0, 2]), (77, .sipush 138, 80, [], none), (80, .invokevirtual 90, 83, [62, 1, 1, 6, 200, 201, 202, 181], none), (83, .pop, 84, [], none), (84, .aload_n 0, 85, [], none), (85, .iconst 0, 86, [], none), (86, .invokevirtual 147, 89, [59, 1, 0, 6, 228, 229, 230, 181], none), (89, .aload_n 0, 90, [], none), (90, .bipush 60, 92, [], none), (92, .invokevirtual 90, 95, [62, 1, 1, 6, 200, 201, 202, 181], none), (95, .pop, 96, [], none), (96, .aload_n 0, 97, [], none), (97, .iconst 0, 98, [], none), (98, .invokevirtual 147, 101, [59, 1, 0, 6, 228, 229, 230, 181], none), (101, .aload_n 0, 102, [], some [0, 2]), (102, .sipush 139, 105, [], none), (105, .invokevirtual 90, 108, [62, 1, 1, 6, 200, 201, 202, 181], none), (108, .pop, 109, [], none), (109, .aload_n 0, 110, [], none), (110, .getfield 18, 113, [6, 1, 2, 162, 0], none), (113, .getfield 138, 116, [5, 1, 2, 226, 1], none), (116, .invokevirtual 150, 119, [15, 0, 1, 3, 231, 232, 233, 29], none), (119, .istore_n 3, 120, [], none), (120, .aload_n 0, 121, [], none), (121, .iconst 0, 122, [], none), (122, .invokevirtual 147, 125, [59, 1, 0, 6, 228, 229, 230, 181], none), (125, .aload_n 0, 126, [], none), (126, .sipush 140, 129, [], none), (129, .invokevirtual 90, 132, [62, 1, 1, 6, 200, 201, 202, 181], none), (132, .pop, 133, [], none), (133, .aload_n 0, 134, [], some [0, 2, 3]), (134, .getfield 18, 137, [6, 1, 2, 162, 0], none), (137, .getfield 138, 140, [5, 1, 2, 226, 1], none), (140, .bipush (-6), 142, [], none), (142, .invokevirtual 153, 145, [14, 1, 0, 3, 234, 31, 32, 29], none), (145, .aload_n 0, 146, [], none), (146, .getfield 18, 149, [6, 1, 2, 162, 0], none), (149, .getfield 138, 152, [5, 1, 2, 226, 1], none), (152, .iload_n 3, 153, [], none), (153, .invokevirtual 155, 156, [16, 1, 0, 3, 235, 236, 237, 29], none), (156, .iinc 2 1, 159, [], none), (159, .goto (-115), 162, [44], none), (162, .aload_n 0, 163, [], some [0]), (163, .iconst 0, 164, [], none), (164, .invokevirtual 147, 167, [59, 1, 0, 6, 228, 229, 230, 181], none), (167, .aload_n 0, 168, [], none), (168, .getfield 18, 171, [6, 1, 2, 162, 0], none), (171, .getfield 138, 174, [5, 1, 2, 226, 1], none), (174, .bipush (-6), 176, [], none), (176, .invokevirtual 153, 179, [14, 1, 0, 3, 234, 31, 32, 29], none), (179, .return_, 180, [], none)]
def zc_X6_sum : List zE := [(0, .aload_n 0, 1, [], none), (1, .iload_n 1, 2, [], none), (2, .invokevirtual 158, 5, [60, 1, 0, 6, 238, 239, 240, 181], none), (5, .iconst 0, 6, [], none), (6, .istore_n 2, 7, [], none), (7, .iload_n 2, 8, [], some [0, 1, 2]), (8, .sipush 400, 11, [], none), (11, .if_icmp .ge 75, 14, [86], none), (14, .aload_n 0, 15, [], none), (15, .getfield 36, 18, [6, 6, 0, 167, 0], none), (18, .ifCond .ne 68, 21, [86], none), (21, .aload_n 0, 22, [], none), (22, .getfield 33, 25, [6, 5, 0, 166, 0], none), (25, .bipush 43, 27, [], none), (27, .if_icmp .eq 12, 30, [39], none), (30, .aload_n 0, 31, [], none), (31, .getfield 33, 34, [6, 5, 0, 166, 0], none), (34, .bipush 45, 36, [], none), (36, .if_icmp .ne 50, 39, [86], none), (39, .aload_n 0, 40, [], some [0, 1, 2]), (40, .getfield 33, 43, [6, 5, 0, 166, 0], none), (43, .bipush 43, 45, [], none), (45, .if_icmp .ne 7, 48, [52], none), (48, .iconst (-1), 49, [], none), (49, .goto 5, 52, [54], none), (52, .bipush (-2), 54, [], some [0, 1, 2]), (54, .istore_n 3, 55, [], some [0, 1, 2]), (55, .aload_n 0, 56, [], none), (56, .aload_n 0, 57, [], none), (57, .getfield 33, 60, [6, 5, 0, 166, 0], none), (60, .invokevirtual 90, 63, [62, 1, 1, 6, 200, 201, 202, 181], none), (63, .pop, 64, [], none), (64, .aload_n 0, 65, [], none), (65, .iload_n 1, 66, [], none), (66, .invokevirtual 158, 69, [60, 1, 0, 6, 238, 239, 240, 181], none), (69, .aload_n 0, 70, [], none), (70, .getfield 18, 73, [6, 1, 2, 162, 0], none), (73, .getfield 138, 76, [5, 1, 2, 226, 1], none), (76, .iload_n 3, 77, [], none), (77, .invokevirtual 153, 80, [14, 1, 0, 3, 234, 31, 32, 29], none), (80, .iinc 2 1, 83, [], none), (83, .goto (-76), 86, [7], none), (86, .return_, 87, [], some [])]
def zc_X6_product : List zE := [(0, .aload_n 0, 1, [], none), (1, .iload_n 1, 2, [], none), (2, .invokevirtual 161, 5, [61, 1, 0, 6, 241, 242, 243, 181], none), (5, .iconst 0, 6, [], none), (6, .istore_n 2, 7, [], none), (7, .iload_n 2, 8, [], some [0, 1, 2]), (8, .sipush 400, 11, [], none), (11, .if_icmp .ge 76, 14, [87], none), (14, .aload_n 0, 15, [], none), (15, .getfield 36, 18, [6, 6, 0, 167, 0], none), (18, .ifCond .ne 69, 21, [87], none), (21, .aload_n 0, 22, [], none), (22, .getfield 33, 25, [6, 5, 0, 166, 0], none), (25, .bipush 42, 27, [], none), (27, .if_icmp .eq 12, 30, [39], none), (30, .aload_n 0, 31, [], none), (31, .getfield 33, 34, [6, 5, 0, 166, 0], none), (34, .bipush 47, 36, [], none), (36, .if_icmp .ne 51, 39, [87], none), (39, .aload_n 0, 40, [], some [0, 1, 2]), (40, .getfield 33, 43, [6, 5, 0, 166, 0], none), (43, .bipush 42, 45, [], none), (45, .if_icmp .ne 8, 48, [53], none), (48, .bipush (-3), 50, [], none), (50, .goto 5, 53, [55], none), (53, .bipush (-4), 55, [], some [0, 1, 2]), (55, .istore_n 3, 56, [], some [0, 1, 2]), (56, .aload_n 0, 57, [], none), (57, .aload_n 0, 58, [], none), (58, .getfield 33, 61, [6, 5, 0, 166, 0], none), (61, .invokevirtual 90, 64, [62, 1, 1, 6, 200, 201, 202, 181], none), (64, .pop, 65, [], none), (65, .aload_n 0, 66, [], none), (66, .iload_n 1, 67, [], none), (67, .invokevirtual 161, 70, [61, 1, 0, 6, 241, 242, 243, 181], none), (70, .aload_n 0, 71, [], none), (71, .getfield 18, 74, [6, 1, 2, 162, 0], none), (74, .getfield 138, 77, [5, 1, 2, 226, 1], none), (77, .iload_n 3, 78, [], none), (78, .invokevirtual 153, 81, [14, 1, 0, 3, 234, 31, 32, 29], none), (81, .iinc 2 1, 84, [], none), (84, .goto (-77), 87, [7], none), (87, .return_, 88, [], some [])]
def zc_X6_unit : List zE := [(0, .aload_n 0, 1, [], none), (1, .getfield 36, 4, [6, 6, 0, 167, 0], none), (4, .ifCond .eq 4, 7, [8], none), (7, .return_, 8, [], none), (8, .aload_n 0, 9, [], some [0, 1]), (9, .getfield 33, 12, [6, 5, 0, 166, 0], none), (12, .sipush 141, 15, [], none), (15, .isub, 16, [], none), (16, .istore_n 2, 17, [], none), (17, .aload_n 0, 18, [], none), (18, .getfield 33, 21, [6, 5, 0, 166, 0], none), (21, .iconst 3, 22, [], none), (22, .if_icmp .ne 34, 25, [56], none), (25, .aload_n 0, 26, [], none), (26, .getfield 18, 29, [6, 1, 2, 162, 0], none), (29, .getfield 138, 32, [5, 1, 2, 226, 1], none), (32, .aload_n 0, 33, [], none), (33, .getfield 12, 36, [6, 0, 2, 161, 0], none), (36, .aload_n 0, 37, [], none), (37, .getfield 30, 40, [6, 4, 0, 165, 0], none), (40, .invokevirtual 164, 43, [39, 1, 2, 10, 244, 245, 246, 126], none), (43, .l2i, 44, [], none), (44, .invokevirtual 153, 47, [14, 1, 0, 3, 234, 31, 32, 29], none), (47, .aload_n 0, 48, [], none), (48, .iconst 3, 49, [], none), (49, .invokevirtual 90, 52, [62, 1, 1, 6, 200, 201, 202, 181], none), (52, .pop, 53, [], none), (53, .goto 91, 56, [144], none), (56, .iload_n 2, 57, [], some [0, 1, 2]), (57, .iconst 0, 58, [], none), (58, .bipush 8, 60, [], none), (60, .invokestatic 131, 63, [145, 3, 1, 1, 220, 221, 222], none), (63, .ifCond .eq 29, 66, [92], none), (66, .aload_n 0, 67, [], none), (67, .getfield 18, 70, [6, 1, 2, 162, 0], none), (70, .getfield 138, 73, [5, 1, 2, 226, 1], none), (73, .bipush (-10), 75, [], none), (75, .iload_n 2, 76, [], none), (76, .isub, 77, [], none), (77, .invokevirtual 153, 80, [14, 1, 0, 3, 234, 31, 32, 29], none), (80, .aload_n 0, 81, [], none), (81, .aload_n 0, 82, [], none), (82, .getfield 33, 85, [6, 5, 0, 166, 0], none), (85, .invokevirtual 90, 88, [62, 1, 1, 6, 200, 201, 202, 181], none), (88, .pop, 89, [], none), (89, .goto 55, 92, [144], none), (92, .aload_n 0, 93, [], some [0, 1]), (93, .getfield 33, 96, [6, 5, 0, 166, 0], none), (96, .bipush 40, 98, [], none), (98, .if_icmp .eq 11, 101, [109], none), (101, .aload_n 0, 102, [], none), (102, .iconst 1, 103, [], none), (103, .invokevirtual 135, 106, [66, 1, 0, 6, 223, 224, 225, 181], none), (106, .goto 38, 109, [144], none), (109, .iload_n 1, 110, [], some [0, 1]), (110, .bipush 6, 112, [], none), (112, .if_icmp .lt 11, 115, [123], none), (115, .aload_n 0, 116, [], none), (116, .iconst 2, 117, [], none), (117, .invokevirtual 135, 120, [66, 1, 0, 6, 223, 224, 225, 181], none), (120, .goto 24, 123, [144], none), (123, .aload_n 0, 124, [], some [0, 1]), (124, .bipush 40, 126, [], none), (126, .invokevirtual 90, 129, [62, 1, 1, 6, 200, 201, 202, 181], none), (129, .pop, 130, [], none), (130, .aload_n 0, 131, [], none), (131, .iload_n 1, 132, [], none), (132, .iconst 1, 133, [], none), (133, .iadd, 134, [], none), (134, .invokevirtual 147, 137, [59, 1, 0, 6, 228, 229, 230, 181], none), (137, .aload_n 0, 138, [], none), (138, .bipush 41, 140, [], none), (140, .invokevirtual 90, 143, [62, 1, 1, 6, 200, 201, 202, 181], none), (143, .pop, 144, [], none), (144, .return_, 145, [], some [])]
def zc_X6_take : List zE := [(0, .aload_n 0, 1, [], none), (1, .getfield 36, 4, [6, 6, 0, 167, 0], none), (4, .ifCond .ne 16, 7, [20], none), (7, .aload_n 0, 8, [], none), (8, .getfield 33, 11, [6, 5, 0, 166, 0], none), (11, .iload_n 1, 12, [], none), (12, .if_icmp .eq 8, 15, [20], none), (15, .aload_n 0, 16, [], none), (16, .iconst 1, 17, [], none), (17, .invokevirtual 135, 20, [66, 1, 0, 6, 223, 224, 225, 181], none), (20, .aload_n 0, 21, [], some [0]), (21, .getfield 36, 24, [6, 6, 0, 167, 0], none), (24, .ifCond .ne 18, 27, [42], none), (27, .aload_n 0, 28, [], none), (28, .getfield 30, 31, [6, 4, 0, 165, 0], none), (31, .sipush 400, 34, [], none), (34, .if_icmp .lt 8, 37, [42], none), (37, .aload_n 0, 38, [], none), (38, .iconst 2, 39, [], none), (39, .invokevirtual 135, 42, [66, 1, 0, 6, 223, 224, 225, 181], none), (42, .aload_n 0, 43, [], some [0]), (43, .getfield 36, 46, [6, 6, 0, 167, 0], none), (46, .ifCond .eq 5, 49, [51], none), (49, .iconst 0, 50, [], none), (50, .ireturn, 51, [1], none), (51, .aload_n 0, 52, [], some [0]), (52, .dup, 53, [], none), (53, .getfield 30, 56, [6, 4, 0, 165, 0], none), (56, .iconst 1, 57, [], none), (57, .iadd, 58, [], none), (58, .putfield 30, 61, [6, 4, 0, 165, 0, 0], none), (61, .aload_n 0, 62, [], none), (62, .aload_n 0, 63, [], none), (63, .getfield 12, 66, [6, 0, 2, 161, 0], none), (66, .aload_n 0, 67, [], none), (67, .getfield 30, 70, [6, 4, 0, 165, 0], none), (70, .invokevirtual 57, 73, [37, 1, 1, 10, 175, 176, 177, 126], none), (73, .putfield 33, 76, [6, 5, 0, 166, 0, 0], none), (76, .iconst 1, 77, [], none), (77, .ireturn, 78, [1], none)]
def zc_X6_takeFirst : List zE := [(0, .aload_n 1, 1, [], none), (1, .invokevirtual 168, 4, [3, 0, 1, 9, 247, 9, 10, 11], none), (4, .ifCond .eq 8, 7, [12], none), (7, .aload_n 0, 8, [], none), (8, .iconst 2, 9, [], none), (9, .invokevirtual 135, 12, [66, 1, 0, 6, 223, 224, 225, 181], none), (12, .aload_n 0, 13, [], some [0]), (13, .aload_n 0, 14, [], none), (14, .getfield 33, 17, [6, 5, 0, 166, 0], none), (17, .invokevirtual 90, 20, [62, 1, 1, 6, 200, 201, 202, 181], none), (20, .pop, 21, [], none), (21, .return_, 22, [], none)]
def zc_X6_takeName : List zE := [(0, .aload_n 0, 1, [], none), (1, .getfield 12, 4, [6, 0, 2, 161, 0], none), (4, .aload_n 0, 5, [], none), (5, .getfield 30, 8, [6, 4, 0, 165, 0], none), (8, .invokevirtual 164, 11, [39, 1, 2, 10, 244, 245, 246, 126], none), (11, .lstore_n 1, 12, [], none), (12, .aload_n 0, 13, [], none), (13, .getfield 12, 16, [6, 0, 2, 161, 0], none), (16, .aload_n 0, 17, [], none), (17, .getfield 30, 20, [6, 4, 0, 165, 0], none), (20, .invokevirtual 172, 23, [38, 1, 1, 10, 248, 249, 250, 126], none), (23, .istore_n 3, 24, [], none), (24, .aload_n 0, 25, [], none), (25, .iconst 2, 26, [], none), (26, .invokevirtual 90, 29, [62, 1, 1, 6, 200, 201, 202, 181], none), (29, .ifCond .ne 4, 32, [33], none), (32, .return_, 33, [], none), (33, .iconst 0, 34, [], some [0, 1, 3]), (34, .istore 4, 36, [], none), (36, .iload 4, 38, [], some [0, 1, 3, 4]), (38, .aload_n 0, 39, [], none), (39, .getfield 26, 42, [6, 3, 0, 164, 0], none), (42, .if_icmp .ge 37, 45, [79], none), (45, .iload 4, 47, [], none), (47, .aload_n 0, 48, [], none), (48, .getfield 22, 51, [6, 2, 2, 163, 0], none), (51, .arraylength, 52, [23], none), (52, .if_icmp .ge 27, 55, [79], none), (55, .aload_n 0, 56, [], none), (56, .getfield 22, 59, [6, 2, 2, 163, 0], none), (59, .iload 4, 61, [], none), (61, .laload, 62, [23], none), (62, .lload_n 1, 63, [], none), (63, .lcmp, 64, [], none), (64, .ifCond .ne 9, 67, [73], none), (67, .aload_n 0, 68, [], none), (68, .iconst 3, 69, [], none), (69, .iload_n 3, 70, [], none), (70, .invokevirtual 175, 73, [67, 2, 0, 6, 251, 252, 253, 181], none), (73, .iinc 4 1, 76, [], some [0, 1, 3, 4]), (76, .goto (-40), 79, [36], none), (79, .aload_n 0, 80, [], some [0, 1]), (80, .getfield 26, 83, [6, 3, 0, 164, 0], none), (83, .aload_n 0, 84, [], none), (84, .getfield 22, 87, [6, 2, 2, 163, 0], none), (87, .arraylength, 88, [23], none), (88, .if_icmp .ge 23, 91, [111], none), (91, .aload_n 0, 92, [], none), (92, .getfield 22, 95, [6, 2, 2, 163, 0], none), (95, .aload_n 0, 96, [], none), (96, .getfield 26, 99, [6, 3, 0, 164, 0], none), (99, .lload_n 1, 100, [], none), (100, .lastore, 101, [23], none), (101, .aload_n 0, 102, [], none), (102, .dup, 103, [], none), (103, .getfield 26, 106, [6, 3, 0, 164, 0], none), (106, .iconst 1, 107, [], none), (107, .iadd, 108, [], none), (108, .putfield 26, 111, [6, 3, 0, 164, 0, 0], none), (111, .return_, 112, [], some [])]
def zc_X6_takeNumber : List zE := [(0, .iload_n 1, 1, [], none), (1, .aload_n 0, 2, [], none), (2, .getfield 12, 5, [6, 0, 2, 161, 0], none), (5, .aload_n 0, 6, [], none), (6, .getfield 30, 9, [6, 4, 0, 165, 0], none), (9, .invokevirtual 164, 12, [39, 1, 2, 10, 244, 245, 246, 126], none), (12, .l2i, 13, [], none), (13, .imul, 14, [], none), (14, .istore 4, 16, [], none), (16, .aload_n 0, 17, [], none), (17, .getfield 12, 20, [6, 0, 2, 161, 0], none), (20, .aload_n 0, 21, [], none), (21, .getfield 30, 24, [6, 4, 0, 165, 0], none), (24, .invokevirtual 172, 27, [38, 1, 1, 10, 248, 249, 250, 126], none), (27, .istore 5, 29, [], none), (29, .aload_n 0, 30, [], none), (30, .iconst 3, 31, [], none), (31, .invokevirtual 90, 34, [62, 1, 1, 6, 200, 201, 202, 181], none), (34, .ifCond .eq 20, 37, [54], none), (37, .iload 4, 39, [], none), (39, .iload_n 2, 40, [], none), (40, .iload_n 3, 41, [], none), (41, .invokestatic 131, 44, [145, 3, 1, 1, 220, 221, 222], none), (44, .ifCond .ne 10, 47, [54], none), (47, .aload_n 0, 48, [], some [0, 4, 5]), (48, .iconst 5, 49, [], none), (49, .iload 5, 51, [], none), (51, .invokevirtual 175, 54, [67, 2, 0, 6, 251, 252, 253, 181], none), (54, .iload 4, 56, [], some [4]), (56, .ireturn, 57, [0], none)]
def zc_X6_fail : List zE := [(0, .aload_n 0, 1, [], none), (1, .getfield 36, 4, [6, 6, 0, 167, 0], none), (4, .ifCond .ne 23, 7, [27], none), (7, .aload_n 0, 8, [], none), (8, .iload_n 1, 9, [], none), (9, .putfield 36, 12, [6, 6, 0, 167, 0, 0], none), (12, .aload_n 0, 13, [], none), (13, .aload_n 0, 14, [], none), (14, .getfield 12, 17, [6, 0, 2, 161, 0], none), (17, .aload_n 0, 18, [], none), (18, .getfield 30, 21, [6, 4, 0, 165, 0], none), (21, .invokevirtual 172, 24, [38, 1, 1, 10, 248, 249, 250, 126], none), (24, .putfield 39, 27, [6, 7, 0, 168, 0, 0], none), (27, .return_, 28, [], some [])]
def zc_X6_failLate : List zE := [(0, .aload_n 0, 1, [], none), (1, .getfield 42, 4, [6, 8, 0, 169, 0], none), (4, .ifCond .ne 13, 7, [17], none), (7, .aload_n 0, 8, [], none), (8, .iload_n 1, 9, [], none), (9, .putfield 42, 12, [6, 8, 0, 169, 0, 0], none), (12, .aload_n 0, 13, [], none), (13, .iload_n 2, 14, [], none), (14, .putfield 45, 17, [6, 9, 0, 170, 0, 0], none), (17, .return_, 18, [], some [])]
def zc_X7_init : List zE := [(0, .aload_n 0, 1, [], none), (1, .invokespecial 3, 4, [9998, 254, 1, 2], none), (4, .aload_n 0, 5, [], none), (5, .aload_n 1, 6, [], none), (6, .putfield 9, 9, [7, 0, 2, 255, 0, 1], none), (9, .aload_n 0, 10, [], none), (10, .bipush 9, 12, [], none), (12, .newarray .int, 14, [20, 5], none), (14, .putfield 15, 17, [7, 1, 2, 256, 0, 1], none), (17, .aload_n 0, 18, [], some [0]), (18, .bipush 24, 20, [], none), (20, .newarray .int, 22, [20, 5], none), (22, .putfield 19, 25, [7, 2, 2, 257, 0, 1], none), (25, .return_, 26, [], some [])]
def zc_X7_begin : List zE := [(0, .aload_n 0, 1, [], none), (1, .getfield 15, 4, [7, 1, 2, 256, 0], none), (4, .iconst 0, 5, [], none), (5, .iload_n 1, 6, [], none), (6, .bipush 24, 8, [], none), (8, .irem, 9, [], none), (9, .iastore, 10, [20], none), (10, .aload_n 0, 11, [], none), (11, .getfield 15, 14, [7, 1, 2, 256, 0], none), (14, .iconst 1, 15, [], none), (15, .iload_n 1, 16, [], none), (16, .bipush 24, 18, [], none), (18, .idiv, 19, [], none), (19, .iastore, 20, [20], none), (20, .aload_n 0, 21, [], none), (21, .getfield 15, 24, [7, 1, 2, 256, 0], none), (24, .bipush 7, 26, [], none), (26, .iload_n 2, 27, [], none), (27, .iastore, 28, [20], none), (28, .aload_n 0, 29, [], none), (29, .getfield 15, 32, [7, 1, 2, 256, 0], none), (32, .bipush 8, 34, [], none), (34, .iload_n 3, 35, [], none), (35, .iastore, 36, [20], none), (36, .return_, 37, [], some [])]
def zc_X7_lift : List zE := [(0, .aload_n 0, 1, [], none), (1, .iload_n 1, 2, [], none), (2, .iload_n 2, 3, [], none), (3, .iload_n 3, 4, [], none), (4, .iload 4, 6, [], none), (6, .iconst 0, 7, [], none), (7, .invokevirtual 22, 10, [74, 5, 0, 7, 258, 259, 260, 261], none), (10, .aload_n 0, 11, [], none), (11, .iconst 0, 12, [], none), (12, .invokevirtual 26, 15, [75, 1, 1, 7, 262, 263, 264, 261], none), (15, .bipush (-9), 17, [], none), (17, .bipush 9, 19, [], none), (19, .invokestatic 30, 22, [146, 3, 1, 1, 265, 266, 222], none), (22, .ireturn, 23, [0], none)]
def zc_X7_wind : List zE := [(0, .aload_n 0, 1, [], none), (1, .iconst 0, 2, [], none), (2, .iconst 0, 3, [], none), (3, .iload_n 1, 4, [], none), (4, .iload_n 2, 5, [], none), (5, .iconst 0, 6, [], none), (6, .invokevirtual 22, 9, [74, 5, 0, 7, 258, 259, 260, 261], none), (9, .aload_n 0, 10, [], none), (10, .iconst 1, 11, [], none), (11, .invokevirtual 26, 14, [75, 1, 1, 7, 262, 263, 264, 261], none), (14, .bipush (-3), 16, [], none), (16, .iconst 3, 17, [], none), (17, .invokestatic 30, 20, [146, 3, 1, 1, 265, 266, 222], none), (20, .ireturn, 21, [0], none)]
def zc_X7_ties : List zE := [(0, .aload_n 0, 1, [], none), (1, .iload_n 1, 2, [], none), (2, .iload_n 2, 3, [], none), (3, .iconst 0, 4, [], none), (4, .iconst 0, 5, [], none), (5, .iconst 0, 6, [], none), (6, .invokevirtual 22, 9, [74, 5, 0, 7, 258, 259, 260, 261], none), (9, .aload_n 0, 10, [], none), (10, .iconst 2, 11, [], none), (11, .invokevirtual 26, 14, [75, 1, 1, 7, 262, 263, 264, 261], none), (14, .iconst 0, 15, [], none), (15, .bipush 99, 17, [], none), (17, .invokestatic 30, 20, [146, 3, 1, 1, 265, 266, 222], none), (20, .ireturn, 21, [0], none)]
def zc_X7_pays : List zE := [(0, .aload_n 0, 1, [], none), (1, .iconst 0, 2, [], none), (2, .iload_n 2, 3, [], none), (3, .iconst 0, 4, [], none), (4, .iconst 0, 5, [], none), (5, .iload_n 1, 6, [], none), (6, .invokevirtual 22, 9, [74, 5, 0, 7, 258, 259, 260, 261], none), (9, .aload_n 0, 10, [], none), (10, .iconst 3, 11, [], none), (11, .invokevirtual 26, 14, [75, 1, 1, 7, 262, 263, 264, 261], none), (14, .iconst 0, 15, [], none), (15, .bipush 99, 17, [], none), (17, .invokestatic 30, 20, [146, 3, 1, 1, 265, 266, 222], none), (20, .ireturn, 21, [0], none)]
def zc_X7_look : List zE := [(0, .aload_n 0, 1, [], none), (1, .getfield 15, 4, [7, 1, 2, 256, 0], none), (4, .iconst 2, 5, [], none), (5, .iload_n 1, 6, [], none), (6, .iastore, 7, [20], none), (7, .aload_n 0, 8, [], none), (8, .getfield 15, 11, [7, 1, 2, 256, 0], none), (11, .iconst 3, 12, [], none), (12, .iload_n 2, 13, [], none), (13, .iastore, 14, [20], none), (14, .aload_n 0, 15, [], none), (15, .getfield 15, 18, [7, 1, 2, 256, 0], none), (18, .iconst 4, 19, [], none), (19, .iload_n 3, 20, [], none), (20, .iastore, 21, [20], none), (21, .aload_n 0, 22, [], none), (22, .getfield 15, 25, [7, 1, 2, 256, 0], none), (25, .iconst 5, 26, [], none), (26, .iload 4, 28, [], none), (28, .iastore, 29, [20], none), (29, .aload_n 0, 30, [], some [0, 5]), (30, .getfield 15, 33, [7, 1, 2, 256, 0], none), (33, .bipush 6, 35, [], none), (35, .iload 5, 37, [], none), (37, .iastore, 38, [20], none), (38, .return_, 39, [], none)]
def zc_X7_valueOf : List zE := [(0, .aload_n 0, 1, [], none), (1, .getfield 9, 4, [7, 0, 2, 255, 0], none), (4, .iload_n 1, 5, [], none), (5, .invokevirtual 34, 8, [13, 1, 1, 3, 267, 268, 269, 29], none), (8, .istore_n 2, 9, [], none), (9, .iconst 0, 10, [], none), (10, .istore_n 3, 11, [], none), (11, .iconst 0, 12, [], none), (12, .istore 4, 14, [], none), (14, .iload 4, 16, [], some [0, 2, 3, 4]), (16, .aload_n 0, 17, [], none), (17, .getfield 9, 20, [7, 0, 2, 255, 0], none), (20, .invokevirtual 39, 23, [18, 0, 1, 3, 270, 271, 272, 29], none), (23, .if_icmp .ge 173, 26, [196], none), (26, .aload_n 0, 27, [], none), (27, .getfield 9, 30, [7, 0, 2, 255, 0], none), (30, .iload_n 2, 31, [], none), (31, .invokevirtual 43, 34, [17, 1, 1, 3, 273, 274, 275, 29], none), (34, .istore 5, 36, [], none), (36, .iinc 2 1, 39, [], none), (39, .iload 5, 41, [], none), (41, .ifCond .ge 10, 44, [51], none), (44, .iload 5, 46, [], none), (46, .bipush (-10), 48, [], none), (48, .if_icmp .gt 42, 51, [90], none), (51, .iload_n 3, 52, [], some [0, 2, 3, 4, 5]), (52, .aload_n 0, 53, [], none), (53, .getfield 19, 56, [7, 2, 2, 257, 0], none), (56, .arraylength, 57, [20], none), (57, .if_icmp .lt 5, 60, [62], none), (60, .iconst 0, 61, [], none), (61, .ireturn, 62, [0], none), (62, .aload_n 0, 63, [], some [0, 2, 3, 4, 5]), (63, .getfield 19, 66, [7, 2, 2, 257, 0], none), (66, .iload_n 3, 67, [], none), (67, .iload 5, 69, [], none), (69, .ifCond .lt 8, 72, [77], none), (72, .iload 5, 74, [], none), (74, .goto 9, 77, [83], none), (77, .aload_n 0, 78, [], some [0, 2, 3, 4, 5]), (78, .iload 5, 80, [], none), (80, .invokevirtual 46, 83, [76, 1, 1, 7, 276, 277, 278, 261], none), (83, .iastore, 84, [20], some [0, 2, 3, 4]), (84, .iinc 3 1, 87, [], none), (87, .goto 103, 90, [190], none), (90, .aload_n 0, 91, [], some [0, 2, 3, 4, 5]), (91, .iload_n 3, 92, [], none), (92, .iconst 1, 93, [], none), (93, .isub, 94, [], none), (94, .invokevirtual 49, 97, [77, 1, 1, 7, 279, 280, 281, 261], none), (97, .istore 6, 99, [], none), (99, .aload_n 0, 100, [], none), (100, .iload_n 3, 101, [], none), (101, .iconst 2, 102, [], none), (102, .isub, 103, [], none), (103, .invokevirtual 49, 106, [77, 1, 1, 7, 279, 280, 281, 261], none), (106, .istore 7, 108, [], none), (108, .iload 5, 110, [], none), (110, .bipush (-6), 112, [], none), (112, .if_icmp .ne 6, 115, [118], none), (115, .iload 6, 117, [], none), (117, .ireturn, 118, [0], none), (118, .iload_n 3, 119, [], some [0, 2, 3, 4, 5, 6, 7]), (119, .iconst 2, 120, [], none), (120, .if_icmp .lt 15, 123, [135], none), (123, .iload 5, 125, [], none), (125, .bipush (-4), 127, [], none), (127, .if_icmp .ne 10, 130, [137], none), (130, .iload 6, 132, [], none), (132, .ifCond .ne 5, 135, [137], none), (135, .iconst 0, 136, [], some []), (136, .ireturn, 137, [0], none), (137, .iinc 3 (-2), 140, [], some [0, 2, 3, 4, 5, 6, 7]), (140, .iload 5, 142, [], none), (142, .bipush (-5), 144, [], none), (144, .if_icmp .ne 28, 147, [172], none), (147, .iload 7, 149, [], none), (149, .iload 6, 151, [], none), (151, .if_icmp .ge 9, 154, [160], none), (154, .iload_n 2, 155, [], none), (155, .iconst 1, 156, [], none), (156, .iadd, 157, [], none), (157, .goto 11, 160, [168], none), (160, .aload_n 0, 161, [], some [0, 2, 3, 4]), (161, .getfield 9, 164, [7, 0, 2, 255, 0], none), (164, .iload_n 2, 165, [], none), (165, .invokevirtual 43, 168, [17, 1, 1, 3, 273, 274, 275, 29], none), (168, .istore_n 2, 169, [], some [0, 3, 4]), (169, .goto 21, 172, [190], none), (172, .aload_n 0, 173, [], some [0, 2, 3, 4, 5, 6, 7]), (173, .getfield 19, 176, [7, 2, 2, 257, 0], none), (176, .iload_n 3, 177, [], none), (177, .iload 5, 179, [], none), (179, .iload 7, 181, [], none), (181, .iload 6, 183, [], none), (183, .invokestatic 52, 186, [78, 3, 1, 0, 282, 283, 261], none), (186, .iastore, 187, [20], none), (187, .iinc 3 1, 190, [], none), (190, .iinc 4 1, 193, [], some [0, 2, 3, 4]), (193, .goto (-179), 196, [14], none), (196, .iconst 0, 197, [], some []), (197, .ireturn, 198, [0], none)]
def zc_X7_varOf : List zE := [(0, .bipush (-10), 2, [], none), (2, .iload_n 1, 3, [], none), (3, .isub, 4, [], none), (4, .istore_n 2, 5, [], none), (5, .iload_n 2, 6, [], none), (6, .ifCond .lt 21, 9, [27], none), (9, .iload_n 2, 10, [], none), (10, .aload_n 0, 11, [], none), (11, .getfield 15, 14, [7, 1, 2, 256, 0], none), (14, .arraylength, 15, [20], none), (15, .if_icmp .ge 12, 18, [27], none), (18, .aload_n 0, 19, [], none), (19, .getfield 15, 22, [7, 1, 2, 256, 0], none), (22, .iload_n 2, 23, [], none), (23, .iaload, 24, [20], none), (24, .goto 4, 27, [28], none), (27, .iconst 0, 28, [], some []), (28, .ireturn, 29, [0], some [])]
def zc_X7_onStack : List zE := [(0, .iload_n 1, 1, [], none), (1, .ifCond .lt 21, 4, [22], none), (4, .iload_n 1, 5, [], none), (5, .aload_n 0, 6, [], none), (6, .getfield 19, 9, [7, 2, 2, 257, 0], none), (9, .arraylength, 10, [20], none), (10, .if_icmp .ge 12, 13, [22], none), (13, .aload_n 0, 14, [], none), (14, .getfield 19, 17, [7, 2, 2, 257, 0], none), (17, .iload_n 1, 18, [], none), (18, .iaload, 19, [20], none), (19, .goto 4, 22, [23], none), (22, .iconst 0, 23, [], some []), (23, .ireturn, 24, [0], some [])]
def zc_X7_joined : List zE := [(0, .iload_n 0, 1, [], none), (1, .tableswitch 39 (-3) (-1) #[35, 31, 27], 28, [40, 36, 32, 28], none), (28, .iload_n 1, 29, [], some [1, 2]), (29, .iload_n 2, 30, [], none), (30, .iadd, 31, [], none), (31, .ireturn, 32, [0], none), (32, .iload_n 1, 33, [], some [1, 2]), (33, .iload_n 2, 34, [], none), (34, .isub, 35, [], none), (35, .ireturn, 36, [0], none), (36, .iload_n 1, 37, [], some [1, 2]), (37, .iload_n 2, 38, [], none), (38, .imul, 39, [], none), (39, .ireturn, 40, [0], none), (40, .iload_n 2, 41, [], some [1, 2]), (41, .ifCond .ne 7, 44, [48], none), (44, .iconst 0, 45, [], none), (45, .goto 6, 48, [51], none), (48, .iload_n 1, 49, [], some [1, 2]), (49, .iload_n 2, 50, [], none), (50, .idiv, 51, [], none), (51, .ireturn, 52, [0], some [])]
def zc_X0_init : List zE := [(0, .aload_n 0, 1, [], none), (1, .invokespecial 3, 4, [9998, 284, 1, 2], none), (4, .aload_n 0, 5, [], none), (5, .aload_n 1, 6, [], none), (6, .putfield 9, 9, [0, 0, 2, 285, 0, 1], none), (9, .aload_n 0, 10, [], none), (10, .aload_n 2, 11, [], none), (11, .putfield 15, 14, [0, 1, 2, 286, 0, 1], none), (14, .aload_n 0, 15, [], none), (15, .iconst 5, 16, [], none), (16, .newarray .int, 18, [20, 5], none), (18, .putfield 19, 21, [0, 2, 2, 287, 0, 1], none), (21, .return_, 22, [], some [])]
def zc_X0_isGust : List zE := [(0, .iload_n 2, 1, [], none), (1, .bipush 113, 3, [], none), (3, .invokestatic 23, 6, [81, 2, 1, 0, 288, 289, 290], none), (6, .iconst 4, 7, [], none), (7, .iload_n 1, 8, [], none), (8, .imul, 9, [], none), (9, .invokestatic 23, 12, [81, 2, 1, 0, 288, 289, 290], none), (12, .istore_n 3, 13, [], none), (13, .iload_n 3, 14, [], none), (14, .iconst 1, 15, [], none), (15, .iushr, 16, [], none), (16, .bipush 100, 18, [], none), (18, .irem, 19, [], none), (19, .aload_n 0, 20, [], none), (20, .getfield 9, 23, [0, 0, 2, 285, 0], none), (23, .getfield 27, 26, [5, 3, 0, 291, 1], none), (26, .if_icmp .ge 7, 29, [33], none), (29, .iconst 1, 30, [], none), (30, .goto 4, 33, [34], none), (33, .iconst 0, 34, [], some []), (34, .ireturn, 35, [1], some [])]
def zc_X0_stirred : List zE := [(0, .iload_n 0, 1, [], none), (1, .iload_n 1, 2, [], none), (2, .ixor, 3, [], none), (3, .ldc 33, 5, [0, 1103515245, 292], none), (5, .imul, 6, [], none), (6, .sipush 12345, 9, [], none), (9, .iadd, 10, [], none), (10, .istore_n 2, 11, [], none), (11, .iload_n 2, 12, [], none), (12, .iload_n 2, 13, [], none), (13, .bipush 15, 15, [], none), (15, .iushr, 16, [], none), (16, .ixor, 17, [], none), (17, .ireturn, 18, [0], none)]
def zc_X0_pass : List zE := [(0, .iconst 0, 1, [], none), (1, .istore 4, 3, [], none), (3, .iload 4, 5, [], some [0, 1, 2, 3, 4]), (5, .iload_n 2, 6, [], none), (6, .if_icmp .ge 44, 9, [50], none), (9, .aload_n 1, 10, [], none), (10, .invokevirtual 34, 13, [23, 0, 1, 8, 293, 294, 295, 60], none), (13, .ifCond .ne 17, 16, [30], none), (16, .aload_n 1, 17, [], none), (17, .dup, 18, [], none), (18, .getfield 40, 21, [8, 3, 0, 296, 1], none), (21, .iload_n 2, 22, [], none), (22, .iload 4, 24, [], none), (24, .isub, 25, [], none), (25, .iadd, 26, [], none), (26, .putfield 40, 29, [8, 3, 0, 296, 1, 0], none), (29, .return_, 30, [], none), (30, .aload_n 0, 31, [], some [0, 1, 2, 3, 4]), (31, .aload_n 1, 32, [], none), (32, .aload_n 0, 33, [], none), (33, .aload_n 1, 34, [], none), (34, .getfield 40, 37, [8, 3, 0, 296, 1], none), (37, .iload_n 3, 38, [], none), (38, .invokevirtual 43, 41, [80, 2, 1, 0, 297, 298, 299, 290], none), (41, .invokevirtual 47, 44, [83, 2, 0, 0, 300, 301, 302, 290], none), (44, .iinc 4 1, 47, [], none), (47, .goto (-44), 50, [3], none), (50, .return_, 51, [], some [])]
def zc_X0_passOne : List zE := [(0, .aload_n 1, 1, [], none), (1, .iconst 1, 2, [], none), (2, .invokevirtual 51, 5, [22, 1, 1, 8, 303, 58, 59, 60], none), (5, .istore_n 3, 6, [], none), (6, .aload_n 0, 7, [], none), (7, .getfield 15, 10, [0, 1, 2, 286, 0], none), (10, .aload_n 1, 11, [], none), (11, .getfield 40, 14, [8, 3, 0, 296, 1], none), (14, .aload_n 1, 15, [], none), (15, .invokevirtual 34, 18, [23, 0, 1, 8, 293, 294, 295, 60], none), (18, .aload_n 1, 19, [], none), (19, .invokevirtual 55, 22, [24, 0, 1, 8, 304, 305, 306, 60], none), (22, .invokevirtual 58, 25, [69, 3, 0, 7, 307, 308, 309, 261], none), (25, .iconst 0, 26, [], some [0, 1, 2, 3]), (26, .istore 4, 28, [], none), (28, .iload 4, 30, [], some [0, 1, 2, 3, 4]), (30, .aload_n 1, 31, [], none), (31, .getfield 64, 34, [8, 0, 2, 310, 1], none), (34, .invokevirtual 68, 37, [1, 0, 1, 9, 311, 52, 53, 11], none), (37, .if_icmp .ge 26, 40, [63], none), (40, .iload_n 3, 41, [], none), (41, .iload 4, 43, [], none), (43, .ishr, 44, [], none), (44, .iconst 1, 45, [], none), (45, .iand, 46, [], none), (46, .ifCond .eq 11, 49, [57], none), (49, .aload_n 0, 50, [], none), (50, .aload_n 1, 51, [], none), (51, .iload 4, 53, [], none), (53, .iload_n 2, 54, [], none), (54, .invokevirtual 73, 57, [84, 3, 0, 0, 312, 313, 314, 290], none), (57, .iinc 4 1, 60, [], some [0, 1, 2, 3, 4]), (60, .goto (-32), 63, [28], none), (63, .iconst 0, 64, [], some [0, 1, 3]), (64, .istore 4, 66, [], none), (66, .iload 4, 68, [], some [0, 1, 3, 4]), (68, .aload_n 0, 69, [], none), (69, .getfield 19, 72, [0, 2, 2, 287, 0], none), (72, .arraylength, 73, [20], none), (73, .if_icmp .ge 17, 76, [90], none), (76, .aload_n 0, 77, [], none), (77, .getfield 19, 80, [0, 2, 2, 287, 0], none), (80, .iload 4, 82, [], none), (82, .iconst 0, 83, [], none), (83, .iastore, 84, [20], none), (84, .iinc 4 1, 87, [], none), (87, .goto (-21), 90, [66], none), (90, .iconst 0, 91, [], some [0, 1, 3]), (91, .istore 4, 93, [], none), (93, .iload 4, 95, [], some [0, 1, 3, 4]), (95, .aload_n 1, 96, [], none), (96, .getfield 64, 99, [8, 0, 2, 310, 1], none), (99, .invokevirtual 68, 102, [1, 0, 1, 9, 311, 52, 53, 11], none), (102, .if_icmp .ge 85, 105, [187], none), (105, .iload_n 3, 106, [], none), (106, .iload 4, 108, [], none), (108, .ishr, 109, [], none), (109, .iconst 1, 110, [], none), (110, .iand, 111, [], none), (111, .ifCond .eq 7, 114, [118], none), (114, .iconst 1, 115, [], none), (115, .goto 4, 118, [119], none), (118, .iconst 0, 119, [], some [0, 1, 3, 4]), (119, .istore 5, 121, [], some [0, 1, 3, 4]), (121, .iload 5, 123, [], none), (123, .ifCond .eq 33, 126, [156], none), (126, .aload_n 1, 127, [], none), (127, .getfield 64, 130, [8, 0, 2, 310, 1], none), (130, .iload 4, 132, [], none), (132, .iconst 4, 133, [], none), (133, .invokevirtual 77, 136, [5, 2, 1, 9, 315, 55, 56, 11], none), (136, .aload_n 0, 137, [], none), (137, .getfield 9, 140, [0, 0, 2, 285, 0], none), (140, .getfield 80, 143, [5, 2, 0, 316, 1], none), (143, .if_icmp .lt 13, 146, [156], none), (146, .aload_n 0, 147, [], none), (147, .aload_n 1, 148, [], none), (148, .iload 4, 150, [], none), (150, .invokevirtual 83, 153, [85, 2, 0, 0, 317, 318, 319, 290], none), (153, .goto 28, 156, [181], none), (156, .iload 5, 158, [], some [0, 1, 3, 4, 5]), (158, .ifCond .eq 23, 161, [181], none), (161, .aload_n 1, 162, [], none), (162, .getfield 64, 165, [8, 0, 2, 310, 1], none), (165, .iload 4, 167, [], none), (167, .iconst 4, 168, [], none), (168, .invokevirtual 77, 171, [5, 2, 1, 9, 315, 55, 56, 11], none), (171, .ifCond .gt 10, 174, [181], none), (174, .aload_n 1, 175, [], none), (175, .iload 4, 177, [], none), (177, .iconst 0, 178, [], none), (178, .invokevirtual 87, 181, [29, 2, 0, 8, 320, 321, 322, 60], none), (181, .iinc 4 1, 184, [], some [0, 1, 3, 4]), (184, .goto (-91), 187, [93], none), (187, .aload_n 1, 188, [], some [1]), (188, .dup, 189, [], none), (189, .getfield 40, 192, [8, 3, 0, 296, 1], none), (192, .iconst 1, 193, [], none), (193, .iadd, 194, [], none), (194, .putfield 40, 197, [8, 3, 0, 296, 1, 0], none), (197, .return_, 198, [], none)]
def zc_X0_drift : List zE := [(0, .aload_n 1, 1, [], none), (1, .getfield 64, 4, [8, 0, 2, 310, 1], none), (4, .iload_n 2, 5, [], none), (5, .iconst 5, 6, [], none), (6, .invokevirtual 77, 9, [5, 2, 1, 9, 315, 55, 56, 11], none), (9, .istore 4, 11, [], none), (11, .aload_n 1, 12, [], none), (12, .getfield 64, 15, [8, 0, 2, 310, 1], none), (15, .iload_n 2, 16, [], none), (16, .iconst 4, 17, [], none), (17, .invokevirtual 77, 20, [5, 2, 1, 9, 315, 55, 56, 11], none), (20, .istore 5, 22, [], none), (22, .aload_n 1, 23, [], none), (23, .getfield 64, 26, [8, 0, 2, 310, 1], none), (26, .iload_n 2, 27, [], none), (27, .iconst 0, 28, [], none), (28, .invokevirtual 77, 31, [5, 2, 1, 9, 315, 55, 56, 11], none), (31, .istore 6, 33, [], none), (33, .aload_n 0, 34, [], none), (34, .getfield 15, 37, [0, 1, 2, 286, 0], none), (37, .aload_n 1, 38, [], none), (38, .getfield 91, 41, [8, 1, 2, 323, 1], none), (41, .iload 4, 43, [], none), (43, .iconst 0, 44, [], none), (44, .invokevirtual 77, 47, [5, 2, 1, 9, 315, 55, 56, 11], none), (47, .aload_n 1, 48, [], none), (48, .getfield 64, 51, [8, 0, 2, 310, 1], none), (51, .iload_n 2, 52, [], none), (52, .iconst 1, 53, [], none), (53, .invokevirtual 77, 56, [5, 2, 1, 9, 315, 55, 56, 11], none), (56, .iload 5, 58, [], none), (58, .iload 6, 60, [], none), (60, .invokevirtual 94, 63, [70, 4, 1, 7, 324, 325, 326, 261], none), (63, .istore 7, 65, [], none), (65, .aload_n 0, 66, [], some [0, 1, 2, 3, 4, 5, 6, 7]), (66, .getfield 15, 69, [0, 1, 2, 286, 0], none), (69, .iload 5, 71, [], none), (71, .iload 6, 73, [], none), (73, .invokevirtual 98, 76, [71, 2, 1, 7, 327, 328, 329, 261], none), (76, .istore 8, 78, [], none), (78, .iload_n 3, 79, [], none), (79, .ifCond .eq 21, 82, [100], none), (82, .iload 8, 84, [], none), (84, .ifCond .eq 16, 87, [100], none), (87, .iload 8, 89, [], none), (89, .ifCond .le 7, 92, [96], none), (92, .iconst 1, 93, [], none), (93, .goto 8, 96, [101], none), (96, .iconst (-1), 97, [], some [1, 2, 4, 5, 6, 7, 8]), (97, .goto 4, 100, [101], none), (100, .iconst 0, 101, [], some [1, 2, 4, 5, 6, 7, 8]), (101, .istore 9, 103, [], some [1, 2, 4, 5, 6, 7, 8]), (103, .aload_n 1, 104, [], none), (104, .getfield 91, 107, [8, 1, 2, 323, 1], none), (107, .iload 4, 109, [], none), (109, .iconst 3, 110, [], none), (110, .invokevirtual 77, 113, [5, 2, 1, 9, 315, 55, 56, 11], none), (113, .iload 8, 115, [], none), (115, .iadd, 116, [], none), (116, .iload 9, 118, [], none), (118, .iadd, 119, [], none), (119, .istore 10, 121, [], none), (121, .aload_n 1, 122, [], none), (122, .getfield 64, 125, [8, 0, 2, 310, 1], none), (125, .iload_n 2, 126, [], none), (126, .iconst 4, 127, [], none), (127, .iload 5, 129, [], none), (129, .iload 7, 131, [], none), (131, .iadd, 132, [], none), (132, .invokevirtual 101, 135, [6, 3, 0, 9, 330, 13, 14, 11], none), (135, .aload_n 1, 136, [], none), (136, .getfield 64, 139, [8, 0, 2, 310, 1], none), (139, .iload_n 2, 140, [], none), (140, .iconst 0, 141, [], none), (141, .iload 6, 143, [], none), (143, .iload 10, 145, [], none), (145, .iadd, 146, [], none), (146, .iconst 0, 147, [], none), (147, .bipush 19, 149, [], none), (149, .invokestatic 104, 152, [146, 3, 1, 1, 331, 266, 222], none), (152, .invokevirtual 101, 155, [6, 3, 0, 9, 330, 13, 14, 11], none), (155, .return_, 156, [], some [])]
def zc_X0_comeToRim : List zE := [(0, .aload_n 1, 1, [], none), (1, .aload_n 1, 2, [], none), (2, .getfield 64, 5, [8, 0, 2, 310, 1], none), (5, .iload_n 2, 6, [], none), (6, .iconst 0, 7, [], none), (7, .invokevirtual 77, 10, [5, 2, 1, 9, 315, 55, 56, 11], none), (10, .aload_n 0, 11, [], none), (11, .aload_n 1, 12, [], none), (12, .invokevirtual 108, 15, [86, 1, 1, 0, 332, 333, 334, 290], none), (15, .invokevirtual 112, 18, [30, 2, 1, 8, 335, 336, 337, 60], none), (18, .istore_n 3, 19, [], none), (19, .iload_n 3, 20, [], none), (20, .ifCond .lt 12, 23, [32], none), (23, .iload_n 3, 24, [], none), (24, .aload_n 0, 25, [], none), (25, .getfield 19, 28, [0, 2, 2, 287, 0], none), (28, .arraylength, 29, [20], none), (29, .if_icmp .lt 10, 32, [39], none), (32, .aload_n 1, 33, [], some [1, 2]), (33, .iload_n 2, 34, [], none), (34, .iconst 3, 35, [], none), (35, .invokevirtual 87, 38, [29, 2, 0, 8, 320, 321, 322, 60], none), (38, .return_, 39, [], none), (39, .aload_n 0, 40, [], some [0, 1, 2, 3]), (40, .getfield 19, 43, [0, 2, 2, 287, 0], none), (43, .iload_n 3, 44, [], none), (44, .dup2, 45, [], none), (45, .iaload, 46, [20], none), (46, .iconst 1, 47, [], none), (47, .iadd, 48, [], none), (48, .iastore, 49, [20], none), (49, .aload_n 1, 50, [], none), (50, .iload_n 2, 51, [], none), (51, .iconst 2, 52, [], none), (52, .invokevirtual 87, 55, [29, 2, 0, 8, 320, 321, 322, 60], none), (55, .aload_n 1, 56, [], none), (56, .getfield 64, 59, [8, 0, 2, 310, 1], none), (59, .iload_n 2, 60, [], none), (60, .bipush 6, 62, [], none), (62, .iload_n 3, 63, [], none), (63, .invokevirtual 101, 66, [6, 3, 0, 9, 330, 13, 14, 11], none), (66, .aload_n 1, 67, [], none), (67, .getfield 115, 70, [8, 2, 2, 338, 1], none), (70, .iload_n 3, 71, [], none), (71, .iconst 3, 72, [], none), (72, .aload_n 1, 73, [], none), (73, .getfield 115, 76, [8, 2, 2, 338, 1], none), (76, .iload_n 3, 77, [], none), (77, .iconst 3, 78, [], none), (78, .invokevirtual 77, 81, [5, 2, 1, 9, 315, 55, 56, 11], none), (81, .iconst 1, 82, [], none), (82, .iload_n 2, 83, [], none), (83, .ishl, 84, [], none), (84, .ior, 85, [], none), (85, .invokevirtual 101, 88, [6, 3, 0, 9, 330, 13, 14, 11], none), (88, .aload_n 1, 89, [], some [0, 1, 2]), (89, .dup, 90, [], none), (90, .getfield 118, 93, [8, 4, 0, 339, 1], none), (93, .aload_n 0, 94, [], none), (94, .getfield 15, 97, [0, 1, 2, 286, 0], none), (97, .aload_n 1, 98, [], none), (98, .getfield 64, 101, [8, 0, 2, 310, 1], none), (101, .iload_n 2, 102, [], none), (102, .iconst 2, 103, [], none), (103, .invokevirtual 77, 106, [5, 2, 1, 9, 315, 55, 56, 11], none), (106, .aload_n 1, 107, [], none), (107, .getfield 64, 110, [8, 0, 2, 310, 1], none), (110, .iload_n 2, 111, [], none), (111, .iconst 1, 112, [], none), (112, .invokevirtual 77, 115, [5, 2, 1, 9, 315, 55, 56, 11], none), (115, .invokevirtual 121, 118, [73, 2, 1, 7, 340, 341, 342, 261], none), (118, .iadd, 119, [], none), (119, .putfield 118, 122, [8, 4, 0, 339, 1, 0], none), (122, .return_, 123, [], some [])]
def zc_X0_busyHooks : List zE := [(0, .iconst 0, 1, [], none), (1, .istore_n 2, 2, [], none), (2, .iconst 0, 3, [], none), (3, .istore_n 3, 4, [], none), (4, .iload_n 3, 5, [], some [0, 1, 2, 3]), (5, .aload_n 0, 6, [], none), (6, .getfield 19, 9, [0, 2, 2, 287, 0], none), (9, .arraylength, 10, [20], none), (10, .if_icmp .ge 33, 13, [43], none), (13, .aload_n 0, 14, [], none), (14, .getfield 19, 17, [0, 2, 2, 287, 0], none), (17, .iload_n 3, 18, [], none), (18, .iaload, 19, [20], none), (19, .aload_n 1, 20, [], none), (20, .getfield 115, 23, [8, 2, 2, 338, 1], none), (23, .iload_n 3, 24, [], none), (24, .iconst 2, 25, [], none), (25, .invokevirtual 77, 28, [5, 2, 1, 9, 315, 55, 56, 11], none), (28, .if_icmp .lt 9, 31, [37], none), (31, .iload_n 2, 32, [], none), (32, .iconst 1, 33, [], none), (33, .iload_n 3, 34, [], none), (34, .ishl, 35, [], none), (35, .ior, 36, [], none), (36, .istore_n 2, 37, [], none), (37, .iinc 3 1, 40, [], some [0, 1, 2, 3]), (40, .goto (-36), 43, [4], none), (43, .iload_n 2, 44, [], some [2]), (44, .ireturn, 45, [0], none)]
def zc_X1_init : List zE := [(0, .aload_n 0, 1, [], none), (1, .invokespecial 3, 4, [9998, 343, 1, 2], none), (4, .aload_n 0, 5, [], none), (5, .aload_n 1, 6, [], none), (6, .putfield 9, 9, [1, 0, 2, 344, 0, 1], none), (9, .aload_n 0, 10, [], none), (10, .aload_n 2, 11, [], none), (11, .putfield 15, 14, [1, 1, 2, 345, 0, 1], none), (14, .aload_n 0, 15, [], none), (15, .aload_n 3, 16, [], none), (16, .putfield 19, 19, [1, 2, 2, 346, 0, 1], none), (19, .aload_n 0, 20, [], some [0]), (20, .iconst 0, 21, [], none), (21, .putfield 23, 24, [1, 3, 0, 347, 0, 0], none), (24, .aload_n 0, 25, [], none), (25, .iconst 0, 26, [], none), (26, .putfield 27, 29, [1, 4, 0, 348, 0, 0], none), (29, .aload_n 0, 30, [], none), (30, .bipush (-2), 32, [], none), (32, .putfield 30, 35, [1, 5, 0, 349, 0, 0], none), (35, .aload_n 0, 36, [], none), (36, .iconst 0, 37, [], none), (37, .putfield 33, 40, [1, 6, 0, 350, 0, 0], none), (40, .aload_n 0, 41, [], some [0]), (41, .iconst 0, 42, [], none), (42, .putfield 36, 45, [1, 7, 0, 351, 0, 0], none), (45, .return_, 46, [], none)]
def zc_X1_isAtRim : List zE := [(0, .aload_n 0, 1, [], none), (1, .getfield 27, 4, [1, 4, 0, 348, 0], none), (4, .iconst 1, 5, [], none), (5, .if_icmp .eq 11, 8, [16], none), (8, .aload_n 0, 9, [], none), (9, .getfield 27, 12, [1, 4, 0, 348, 0], none), (12, .iconst 2, 13, [], none), (13, .if_icmp .ne 7, 16, [20], none), (16, .iconst 1, 17, [], some []), (17, .goto 4, 20, [21], none), (20, .iconst 0, 21, [], some []), (21, .ireturn, 22, [1], some [])]
def zc_X1_fly : List zE := [(0, .aload_n 0, 1, [], none), (1, .getfield 15, 4, [1, 1, 2, 345, 0], none), (4, .getfield 39, 7, [8, 0, 2, 352, 1], none), (7, .iload_n 1, 8, [], none), (8, .iconst 1, 9, [], none), (9, .invokevirtual 45, 12, [5, 2, 1, 9, 353, 55, 56, 11], none), (12, .istore 5, 14, [], none), (14, .aload_n 0, 15, [], none), (15, .aload_n 0, 16, [], none), (16, .getfield 15, 19, [1, 1, 2, 345, 0], none), (19, .getfield 51, 22, [8, 1, 2, 354, 1], none), (22, .iload_n 2, 23, [], none), (23, .iconst 0, 24, [], none), (24, .invokevirtual 45, 27, [5, 2, 1, 9, 353, 55, 56, 11], none), (27, .iload 5, 29, [], none), (29, .iload_n 3, 30, [], none), (30, .aload_n 0, 31, [], none), (31, .getfield 15, 34, [1, 1, 2, 345, 0], none), (34, .getfield 39, 37, [8, 0, 2, 352, 1], none), (37, .iload_n 1, 38, [], none), (38, .iconst 0, 39, [], none), (39, .invokevirtual 45, 42, [5, 2, 1, 9, 353, 55, 56, 11], none), (42, .aload_n 0, 43, [], none), (43, .getfield 15, 46, [1, 1, 2, 345, 0], none), (46, .getfield 54, 49, [8, 3, 0, 355, 1], none), (49, .iload 4, 51, [], none), (51, .iadd, 52, [], none), (52, .bipush 48, 54, [], none), (54, .invokevirtual 57, 57, [90, 6, 0, 1, 356, 357, 358, 359], none), (57, .aload_n 0, 58, [], some [0, 1, 5]), (58, .aload_n 0, 59, [], none), (59, .getfield 27, 62, [1, 4, 0, 348, 0], none), (62, .iconst 1, 63, [], none), (63, .if_icmp .ne 27, 66, [90], none), (66, .aload_n 0, 67, [], none), (67, .getfield 19, 70, [1, 2, 2, 346, 0], none), (70, .aload_n 0, 71, [], none), (71, .getfield 15, 74, [1, 1, 2, 345, 0], none), (74, .getfield 39, 77, [8, 0, 2, 352, 1], none), (77, .iload_n 1, 78, [], none), (78, .iconst 2, 79, [], none), (79, .invokevirtual 45, 82, [5, 2, 1, 9, 353, 55, 56, 11], none), (82, .iload 5, 84, [], none), (84, .invokevirtual 61, 87, [73, 2, 1, 7, 360, 341, 342, 261], none), (87, .goto 4, 90, [91], none), (90, .iconst 0, 91, [], some []), (91, .putfield 36, 94, [1, 7, 0, 351, 0, 0], some []), (94, .return_, 95, [], none)]
def zc_X1_go : List zE := [(0, .aload_n 0, 1, [], none), (1, .getfield 15, 4, [1, 1, 2, 345, 0], none), (4, .invokevirtual 66, 7, [24, 0, 1, 8, 361, 305, 306, 60], none), (7, .istore 7, 9, [], none), (9, .iconst 0, 10, [], none), (10, .istore 8, 12, [], none), (12, .aload_n 0, 13, [], none), (13, .iconst 0, 14, [], none), (14, .putfield 23, 17, [1, 3, 0, 347, 0, 0], none), (17, .aload_n 0, 18, [], none), (18, .iconst 0, 19, [], none), (19, .putfield 27, 22, [1, 4, 0, 348, 0, 0], none), (22, .aload_n 0, 23, [], none), (23, .bipush (-2), 25, [], none), (25, .putfield 30, 28, [1, 5, 0, 349, 0, 0], none), (28, .aload_n 0, 29, [], some [0, 1, 2, 3, 4, 5, 6, 7, 8]), (29, .iload 4, 31, [], none), (31, .putfield 33, 34, [1, 6, 0, 350, 0, 0], none), (34, .iconst 0, 35, [], none), (35, .istore 9, 37, [], none), (37, .iload 9, 39, [], some [0, 1, 2, 3, 5, 6, 7, 8, 9]), (39, .iload 6, 41, [], none), (41, .if_icmp .ge 99, 44, [140], none), (44, .aload_n 0, 45, [], none), (45, .getfield 27, 48, [1, 4, 0, 348, 0], none), (48, .ifCond .ne 92, 51, [140], none), (51, .aload_n 0, 52, [], none), (52, .getfield 19, 55, [1, 2, 2, 346, 0], none), (55, .iload 5, 57, [], none), (57, .iload 9, 59, [], none), (59, .iadd, 60, [], none), (60, .iconst 1, 61, [], none), (61, .iload 7, 63, [], none), (63, .invokevirtual 70, 66, [69, 3, 0, 7, 362, 308, 309, 261], none), (66, .aload_n 0, 67, [], none), (67, .getfield 19, 70, [1, 2, 2, 346, 0], none), (70, .iload_n 1, 71, [], none), (71, .iload_n 2, 72, [], none), (72, .iload 8, 74, [], none), (74, .aload_n 0, 75, [], none), (75, .getfield 33, 78, [1, 6, 0, 350, 0], none), (78, .invokevirtual 74, 81, [70, 4, 1, 7, 363, 325, 326, 261], none), (81, .istore 10, 83, [], none), (83, .aload_n 0, 84, [], none), (84, .getfield 19, 87, [1, 2, 2, 346, 0], none), (87, .iload 8, 89, [], none), (89, .aload_n 0, 90, [], none), (90, .getfield 33, 93, [1, 6, 0, 350, 0], none), (93, .invokevirtual 78, 96, [71, 2, 1, 7, 364, 328, 329, 261], none), (96, .istore 11, 98, [], none), (98, .iload 8, 100, [], none), (100, .iload 10, 102, [], none), (102, .iadd, 103, [], none), (103, .istore 8, 105, [], none), (105, .aload_n 0, 106, [], none), (106, .aload_n 0, 107, [], none), (107, .getfield 33, 110, [1, 6, 0, 350, 0], none), (110, .iload_n 3, 111, [], none), (111, .iadd, 112, [], none), (112, .iload 11, 114, [], none), (114, .iadd, 115, [], none), (115, .iconst 0, 116, [], none), (116, .bipush 19, 118, [], none), (118, .invokestatic 81, 121, [146, 3, 1, 1, 365, 266, 222], none), (121, .putfield 33, 124, [1, 6, 0, 350, 0, 0], none), (124, .aload_n 0, 125, [], some [0, 1, 2, 3, 5, 6, 7, 8, 9]), (125, .iload 8, 127, [], none), (127, .iload 9, 129, [], none), (129, .iconst 1, 130, [], none), (130, .iadd, 131, [], none), (131, .invokevirtual 85, 134, [91, 2, 0, 1, 366, 367, 368, 359], none), (134, .iinc 9 1, 137, [], none), (137, .goto (-100), 140, [37], none), (140, .return_, 141, [], some [])]
def zc_X1_endAt : List zE := [(0, .iload_n 1, 1, [], none), (1, .aload_n 0, 2, [], none), (2, .getfield 9, 5, [1, 0, 2, 344, 0], none), (5, .getfield 89, 8, [5, 2, 0, 369, 1], none), (8, .if_icmp .lt 45, 11, [53], none), (11, .aload_n 0, 12, [], none), (12, .aload_n 0, 13, [], none), (13, .getfield 15, 16, [1, 1, 2, 345, 0], none), (16, .aload_n 0, 17, [], none), (17, .getfield 33, 20, [1, 6, 0, 350, 0], none), (20, .iconst 0, 21, [], none), (21, .invokevirtual 94, 24, [30, 2, 1, 8, 370, 336, 337, 60], none), (24, .putfield 30, 27, [1, 5, 0, 349, 0, 0], none), (27, .aload_n 0, 28, [], none), (28, .aload_n 0, 29, [], none), (29, .getfield 30, 32, [1, 5, 0, 349, 0], none), (32, .bipush (-2), 34, [], none), (34, .if_icmp .ne 7, 37, [41], none), (37, .iconst 2, 38, [], none), (38, .goto 4, 41, [42], none), (41, .iconst 1, 42, [], some [0, 2]), (42, .putfield 27, 45, [1, 4, 0, 348, 0, 0], some [0, 2]), (45, .aload_n 0, 46, [], none), (46, .iload_n 2, 47, [], none), (47, .putfield 23, 50, [1, 3, 0, 347, 0, 0], none), (50, .goto 17, 53, [67], none), (53, .iload_n 1, 54, [], some [0, 1, 2]), (54, .ifCond .gt 13, 57, [67], none), (57, .aload_n 0, 58, [], none), (58, .iconst 3, 59, [], none), (59, .putfield 27, 62, [1, 4, 0, 348, 0, 0], none), (62, .aload_n 0, 63, [], none), (63, .iload_n 2, 64, [], none), (64, .putfield 23, 67, [1, 3, 0, 347, 0, 0], none), (67, .return_, 68, [], some [])]
def zc_X2_init : List zE := [(0, .aload_n 0, 1, [], none), (1, .invokespecial 3, 4, [9998, 371, 1, 2], none), (4, .aload_n 0, 5, [], none), (5, .aload_n 1, 6, [], none), (6, .putfield 9, 9, [2, 0, 2, 372, 0, 1], none), (9, .aload_n 0, 10, [], none), (10, .aload_n 2, 11, [], none), (11, .putfield 15, 14, [2, 1, 2, 373, 0, 1], none), (14, .aload_n 0, 15, [], none), (15, .aload_n 3, 16, [], none), (16, .putfield 19, 19, [2, 2, 2, 374, 0, 1], none), (19, .aload_n 0, 20, [], some [0]), (20, .bipush 7, 22, [], none), (22, .iconst 5, 23, [], none), (23, .multianewarray 23 2, 27, [25, 375, 376, 5], none), (27, .putfield 25, 30, [2, 3, 2, 377, 0, 1], none), (30, .aload_n 0, 31, [], some [0]), (31, .bipush 8, 33, [], none), (33, .bipush 32, 35, [], none), (35, .multianewarray 23 2, 39, [25, 375, 376, 5], none), (39, .putfield 28, 42, [2, 4, 2, 378, 0, 1], none), (42, .aload_n 0, 43, [], some [0]), (43, .bipush 7, 45, [], none), (45, .newarray .int, 47, [20, 5], none), (47, .putfield 31, 50, [2, 5, 2, 379, 0, 1], none), (50, .return_, 51, [], some [])]
def zc_X2_weigh : List zE := [(0, .iconst 0, 1, [], none), (1, .istore_n 1, 2, [], none), (2, .iload_n 1, 3, [], some [0, 1]), (3, .bipush 7, 5, [], none), (5, .if_icmp .ge 53, 8, [58], none), (8, .iconst 0, 9, [], none), (9, .istore_n 2, 10, [], none), (10, .iload_n 2, 11, [], some [0, 1, 2]), (11, .iconst 5, 12, [], none), (12, .if_icmp .ge 40, 15, [52], none), (15, .aload_n 0, 16, [], none), (16, .getfield 25, 19, [2, 3, 2, 377, 0], none), (19, .iload_n 1, 20, [], none), (20, .aaload, 21, [25], none), (21, .iload_n 2, 22, [], none), (22, .aload_n 0, 23, [], none), (23, .getfield 9, 26, [2, 0, 2, 372, 0], none), (26, .iload_n 1, 27, [], none), (27, .iload_n 2, 28, [], none), (28, .invokevirtual 35, 31, [27, 2, 1, 8, 380, 381, 382, 60], none), (31, .ifCond .eq 12, 34, [43], none), (34, .aload_n 0, 35, [], none), (35, .iload_n 1, 36, [], none), (36, .iload_n 2, 37, [], none), (37, .invokevirtual 41, 40, [94, 2, 1, 2, 383, 384, 385, 386], none), (40, .goto 5, 43, [45], none), (43, .ldc 45, 45, [0, 4293967296, 387], some [0, 1, 2]), (45, .iastore, 46, [20], some [0, 1, 2]), (46, .iinc 2 1, 49, [], none), (49, .goto (-39), 52, [10], none), (52, .iinc 1 1, 55, [], some [0, 1]), (55, .goto (-53), 58, [2], none), (58, .iconst 0, 59, [], some [0]), (59, .istore_n 1, 60, [], none), (60, .iload_n 1, 61, [], some [0, 1]), (61, .bipush 32, 63, [], none), (63, .if_icmp .ge 19, 66, [82], none), (66, .aload_n 0, 67, [], none), (67, .getfield 28, 70, [2, 4, 2, 378, 0], none), (70, .bipush 7, 72, [], none), (72, .aaload, 73, [25], none), (73, .iload_n 1, 74, [], none), (74, .iconst 0, 75, [], none), (75, .iastore, 76, [20], none), (76, .iinc 1 1, 79, [], none), (79, .goto (-19), 82, [60], none), (82, .bipush 6, 84, [], some [0]), (84, .istore_n 1, 85, [], none), (85, .iload_n 1, 86, [], some [0, 1]), (86, .ifCond .lt 37, 89, [123], none), (89, .iconst 0, 90, [], none), (90, .istore_n 2, 91, [], none), (91, .iload_n 2, 92, [], some [0, 1, 2]), (92, .bipush 32, 94, [], none), (94, .if_icmp .ge 23, 97, [117], none), (97, .aload_n 0, 98, [], none), (98, .getfield 28, 101, [2, 4, 2, 378, 0], none), (101, .iload_n 1, 102, [], none), (102, .aaload, 103, [25], none), (103, .iload_n 2, 104, [], none), (104, .aload_n 0, 105, [], none), (105, .iload_n 1, 106, [], none), (106, .iload_n 2, 107, [], none), (107, .invokevirtual 46, 110, [95, 2, 1, 2, 388, 389, 390, 386], none), (110, .iastore, 111, [20], none), (111, .iinc 2 1, 114, [], none), (114, .goto (-23), 117, [91], none), (117, .iinc 1 (-1), 120, [], some [0, 1]), (120, .goto (-35), 123, [85], none), (123, .return_, 124, [], some [])]
def zc_X2_gainOf : List zE := [(0, .aload_n 0, 1, [], none), (1, .getfield 19, 4, [2, 2, 2, 374, 0], none), (4, .iload_n 1, 5, [], none), (5, .iload_n 2, 6, [], none), (6, .aload_n 0, 7, [], none), (7, .getfield 9, 10, [2, 0, 2, 372, 0], none), (10, .getfield 49, 13, [8, 1, 2, 391, 1], none), (13, .iload_n 2, 14, [], none), (14, .iconst 3, 15, [], none), (15, .invokevirtual 53, 18, [5, 2, 1, 9, 392, 55, 56, 11], none), (18, .iconst 0, 19, [], none), (19, .invokevirtual 58, 22, [89, 4, 0, 1, 393, 394, 395, 359], none), (22, .aload_n 0, 23, [], none), (23, .getfield 19, 26, [2, 2, 2, 374, 0], none), (26, .getfield 64, 29, [1, 4, 0, 396, 1], none), (29, .iconst 1, 30, [], none), (30, .if_icmp .eq 6, 33, [36], none), (33, .ldc 45, 35, [0, 4293967296, 387], none), (35, .ireturn, 36, [0], none), (36, .aload_n 0, 37, [], some [0, 1, 2]), (37, .getfield 15, 40, [2, 1, 2, 373, 0], none), (40, .aload_n 0, 41, [], none), (41, .getfield 9, 44, [2, 0, 2, 372, 0], none), (44, .getfield 68, 47, [8, 3, 0, 397, 1], none), (47, .aload_n 0, 48, [], none), (48, .getfield 9, 51, [2, 0, 2, 372, 0], none), (51, .invokevirtual 71, 54, [23, 0, 1, 8, 398, 294, 295, 60], none), (54, .aload_n 0, 55, [], none), (55, .getfield 9, 58, [2, 0, 2, 372, 0], none), (58, .invokevirtual 75, 61, [24, 0, 1, 8, 399, 305, 306, 60], none), (61, .invokevirtual 78, 64, [69, 3, 0, 7, 400, 308, 309, 261], none), (64, .aload_n 0, 65, [], none), (65, .getfield 19, 68, [2, 2, 2, 374, 0], none), (68, .getfield 84, 71, [1, 7, 0, 401, 1], none), (71, .aload_n 0, 72, [], none), (72, .getfield 15, 75, [2, 1, 2, 373, 0], none), (75, .aload_n 0, 76, [], none), (76, .getfield 9, 79, [2, 0, 2, 372, 0], none), (79, .getfield 49, 82, [8, 1, 2, 391, 1], none), (82, .iload_n 2, 83, [], none), (83, .iconst 0, 84, [], none), (84, .invokevirtual 53, 87, [5, 2, 1, 9, 392, 55, 56, 11], none), (87, .aload_n 0, 88, [], none), (88, .getfield 9, 91, [2, 0, 2, 372, 0], none), (91, .getfield 87, 94, [8, 0, 2, 402, 1], none), (94, .iload_n 1, 95, [], none), (95, .iconst 1, 96, [], none), (96, .invokevirtual 53, 99, [5, 2, 1, 9, 392, 55, 56, 11], none), (99, .invokevirtual 90, 102, [72, 2, 1, 7, 403, 404, 405, 261], none), (102, .isub, 103, [], none), (103, .ireturn, 104, [0], none)]
def zc_X2_bestFrom : List zE := [(0, .aload_n 0, 1, [], none), (1, .getfield 28, 4, [2, 4, 2, 378, 0], none), (4, .iload_n 1, 5, [], none), (5, .iconst 1, 6, [], none), (6, .iadd, 7, [], none), (7, .aaload, 8, [25], none), (8, .iload_n 2, 9, [], none), (9, .iaload, 10, [20], none), (10, .istore_n 3, 11, [], none), (11, .iconst 0, 12, [], none), (12, .istore 4, 14, [], none), (14, .iload 4, 16, [], some [0, 1, 2, 3, 4]), (16, .iconst 5, 17, [], none), (17, .if_icmp .ge 22, 20, [39], none), (20, .iload_n 3, 21, [], none), (21, .aload_n 0, 22, [], none), (22, .iload_n 1, 23, [], none), (23, .iload 4, 25, [], none), (25, .iload_n 2, 26, [], none), (26, .invokevirtual 93, 29, [96, 3, 1, 2, 406, 407, 408, 386], none), (29, .invokestatic 97, 32, [274, 2, 1, 0, 409, 410, 17], none), (32, .istore_n 3, 33, [], none), (33, .iinc 4 1, 36, [], none), (36, .goto (-22), 39, [14], none), (39, .iload_n 3, 40, [], some [3]), (40, .ireturn, 41, [0], none)]
def zc_X2_sumBy : List zE := [(0, .iload_n 3, 1, [], none), (1, .iload_n 2, 2, [], none), (2, .ishr, 3, [], none), (3, .iconst 1, 4, [], none), (4, .iand, 5, [], none), (5, .ifCond .ne 16, 8, [21], none), (8, .aload_n 0, 9, [], none), (9, .getfield 25, 12, [2, 3, 2, 377, 0], none), (12, .iload_n 1, 13, [], none), (13, .aaload, 14, [25], none), (14, .iload_n 2, 15, [], none), (15, .iaload, 16, [20], none), (16, .ldc 45, 18, [0, 4293967296, 387], none), (18, .if_icmp .ne 6, 21, [24], none), (21, .ldc 45, 23, [0, 4293967296, 387], some []), (23, .ireturn, 24, [0], none), (24, .aload_n 0, 25, [], some [0, 1, 2, 3]), (25, .getfield 25, 28, [2, 3, 2, 377, 0], none), (28, .iload_n 1, 29, [], none), (29, .aaload, 30, [25], none), (30, .iload_n 2, 31, [], none), (31, .iaload, 32, [20], none), (32, .aload_n 0, 33, [], none), (33, .getfield 28, 36, [2, 4, 2, 378, 0], none), (36, .iload_n 1, 37, [], none), (37, .iconst 1, 38, [], none), (38, .iadd, 39, [], none), (39, .aaload, 40, [25], none), (40, .iload_n 3, 41, [], none), (41, .iconst 1, 42, [], none), (42, .iload_n 2, 43, [], none), (43, .ishl, 44, [], none), (44, .ior, 45, [], none), (45, .iaload, 46, [20], none), (46, .iadd, 47, [], none), (47, .ireturn, 48, [0], none)]
def zc_X2_most : List zE := [(0, .aload_n 0, 1, [], none), (1, .getfield 28, 4, [2, 4, 2, 378, 0], none), (4, .iconst 0, 5, [], none), (5, .aaload, 6, [25], none), (6, .iconst 0, 7, [], none), (7, .iaload, 8, [20], none), (8, .ireturn, 9, [0], none)]
def zc_X2_silkOf : List zE := [(0, .iconst 0, 1, [], none), (1, .istore_n 2, 2, [], none), (2, .bipush (-2), 4, [], none), (4, .istore_n 3, 5, [], none), (5, .iconst 0, 6, [], none), (6, .istore 4, 8, [], none), (8, .iload 4, 10, [], some [0, 1, 2, 3, 4]), (10, .iload_n 1, 11, [], none), (11, .if_icmp .gt 34, 14, [45], none), (14, .iload 4, 16, [], none), (16, .bipush 7, 18, [], none), (18, .if_icmp .ge 27, 21, [45], none), (21, .aload_n 0, 22, [], none), (22, .iload 4, 24, [], none), (24, .iload_n 2, 25, [], none), (25, .invokevirtual 102, 28, [99, 2, 1, 2, 411, 412, 413, 386], none), (28, .istore_n 3, 29, [], none), (29, .iload_n 3, 30, [], none), (30, .ifCond .lt 9, 33, [39], none), (33, .iload_n 2, 34, [], none), (34, .iconst 1, 35, [], none), (35, .iload_n 3, 36, [], none), (36, .ishl, 37, [], none), (37, .ior, 38, [], none), (38, .istore_n 2, 39, [], none), (39, .iinc 4 1, 42, [], some [0, 1, 2, 3, 4]), (42, .goto (-34), 45, [8], none), (45, .iload_n 3, 46, [], some [3]), (46, .ireturn, 47, [0], none)]
def zc_X2_firstBest : List zE := [(0, .iconst 0, 1, [], none), (1, .istore_n 3, 2, [], none), (2, .iload_n 3, 3, [], some [0, 1, 2, 3]), (3, .iconst 5, 4, [], none), (4, .if_icmp .ge 29, 7, [33], none), (7, .aload_n 0, 8, [], none), (8, .iload_n 1, 9, [], none), (9, .iload_n 3, 10, [], none), (10, .iload_n 2, 11, [], none), (11, .invokevirtual 93, 14, [96, 3, 1, 2, 406, 407, 408, 386], none), (14, .aload_n 0, 15, [], none), (15, .getfield 28, 18, [2, 4, 2, 378, 0], none), (18, .iload_n 1, 19, [], none), (19, .aaload, 20, [25], none), (20, .iload_n 2, 21, [], none), (21, .iaload, 22, [20], none), (22, .if_icmp .ne 5, 25, [27], none), (25, .iload_n 3, 26, [], none), (26, .ireturn, 27, [0], none), (27, .iinc 3 1, 30, [], some [0, 1, 2, 3]), (30, .goto (-28), 33, [2], none), (33, .bipush (-2), 35, [], some []), (35, .ireturn, 36, [0], none)]
def zc_X2_findHooks : List zE := [(0, .iconst 0, 1, [], none), (1, .istore_n 1, 2, [], none), (2, .iload_n 1, 3, [], some [0, 1]), (3, .bipush 7, 5, [], none), (5, .if_icmp .ge 56, 8, [61], none), (8, .aload_n 0, 9, [], none), (9, .getfield 31, 12, [2, 5, 2, 379, 0], none), (12, .iload_n 1, 13, [], none), (13, .iconst 0, 14, [], none), (14, .iastore, 15, [20], none), (15, .iconst 0, 16, [], none), (16, .istore_n 2, 17, [], none), (17, .iload_n 2, 18, [], some [0, 1, 2]), (18, .iconst 5, 19, [], none), (19, .if_icmp .ge 36, 22, [55], none), (22, .aload_n 0, 23, [], none), (23, .getfield 9, 26, [2, 0, 2, 372, 0], none), (26, .iload_n 1, 27, [], none), (27, .iload_n 2, 28, [], none), (28, .invokevirtual 35, 31, [27, 2, 1, 8, 380, 381, 382, 60], none), (31, .ifCond .eq 18, 34, [49], none), (34, .aload_n 0, 35, [], none), (35, .getfield 31, 38, [2, 5, 2, 379, 0], none), (38, .iload_n 1, 39, [], none), (39, .dup2, 40, [], none), (40, .iaload, 41, [20], none), (41, .aload_n 0, 42, [], none), (42, .iload_n 1, 43, [], none), (43, .iload_n 2, 44, [], none), (44, .invokevirtual 105, 47, [101, 2, 1, 2, 414, 415, 416, 386], none), (47, .ior, 48, [], none), (48, .iastore, 49, [20], none), (49, .iinc 2 1, 52, [], some [0, 1, 2]), (52, .goto (-35), 55, [17], none), (55, .iinc 1 1, 58, [], some [0, 1]), (58, .goto (-56), 61, [2], none), (61, .return_, 62, [], some [])]
def zc_X2_hooksFor : List zE := [(0, .aload_n 0, 1, [], none), (1, .getfield 19, 4, [2, 2, 2, 374, 0], none), (4, .iload_n 1, 5, [], none), (5, .iload_n 2, 6, [], none), (6, .aload_n 0, 7, [], none), (7, .getfield 9, 10, [2, 0, 2, 372, 0], none), (10, .getfield 49, 13, [8, 1, 2, 391, 1], none), (13, .iload_n 2, 14, [], none), (14, .iconst 3, 15, [], none), (15, .invokevirtual 53, 18, [5, 2, 1, 9, 392, 55, 56, 11], none), (18, .iconst 0, 19, [], none), (19, .invokevirtual 58, 22, [89, 4, 0, 1, 393, 394, 395, 359], none), (22, .aload_n 0, 23, [], none), (23, .getfield 19, 26, [2, 2, 2, 374, 0], none), (26, .invokevirtual 108, 29, [88, 0, 1, 1, 417, 418, 419, 359], none), (29, .ifCond .eq 20, 32, [49], none), (32, .aload_n 0, 33, [], none), (33, .getfield 9, 36, [2, 0, 2, 372, 0], none), (36, .aload_n 0, 37, [], none), (37, .getfield 19, 40, [2, 2, 2, 374, 0], none), (40, .getfield 112, 43, [1, 6, 0, 420, 1], none), (43, .invokevirtual 115, 46, [31, 1, 1, 8, 421, 422, 423, 60], none), (46, .goto 4, 49, [50], none), (49, .iconst 0, 50, [], some []), (50, .ireturn, 51, [0], some [])]
def zc_X2_isServedBy : List zE := [(0, .iconst 0, 1, [], none), (1, .istore_n 2, 2, [], none), (2, .iload_n 2, 3, [], some [0, 1, 2]), (3, .bipush 7, 5, [], none), (5, .if_icmp .ge 31, 8, [36], none), (8, .aload_n 0, 9, [], none), (9, .getfield 31, 12, [2, 5, 2, 379, 0], none), (12, .iload_n 2, 13, [], none), (13, .iaload, 14, [20], none), (14, .ifCond .eq 16, 17, [30], none), (17, .aload_n 0, 18, [], none), (18, .getfield 31, 21, [2, 5, 2, 379, 0], none), (21, .iload_n 2, 22, [], none), (22, .iaload, 23, [20], none), (23, .iload_n 1, 24, [], none), (24, .iand, 25, [], none), (25, .ifCond .ne 5, 28, [30], none), (28, .iconst 0, 29, [], none), (29, .ireturn, 30, [1], none), (30, .iinc 2 1, 33, [], some [0, 1, 2]), (33, .goto (-31), 36, [2], none), (36, .iconst 1, 37, [], some []), (37, .ireturn, 38, [1], none)]
def zc_X4_init : List zE := [(0, .aload_n 0, 1, [], none), (1, .invokespecial 3, 4, [9998, 424, 1, 2], none), (4, .aload_n 0, 5, [], none), (5, .bipush 40, 7, [], none), (7, .anewarray 9, 10, [24, 425, 426], none), (10, .putfield 11, 13, [4, 0, 2, 427, 0, 1], none), (13, .iconst 0, 14, [], some [0]), (14, .istore_n 1, 15, [], none), (15, .iload_n 1, 16, [], some [0, 1]), (16, .bipush 40, 18, [], none), (18, .if_icmp .ge 22, 21, [40], none), (21, .aload_n 0, 22, [], none), (22, .getfield 11, 25, [4, 0, 2, 427, 0], none), (25, .iload_n 1, 26, [], none), (26, .new 9, 29, [8, 6, 425, 78, 60], none), (29, .dup, 30, [], none), (30, .invokespecial 17, 33, [19, 0, 0, 428, 80, 60], none), (33, .aastore, 34, [24], none), (34, .iinc 1 1, 37, [], some [0, 1]), (37, .goto (-22), 40, [15], none), (40, .aload_n 0, 41, [], some [0]), (41, .iconst 3, 42, [], none), (42, .anewarray 9, 45, [24, 425, 426], none), (45, .putfield 18, 48, [4, 3, 2, 429, 0, 1], none), (48, .iconst 0, 49, [], some [0]), (49, .istore_n 1, 50, [], none), (50, .iload_n 1, 51, [], some [0, 1]), (51, .iconst 3, 52, [], none), (52, .if_icmp .ge 22, 55, [74], none), (55, .aload_n 0, 56, [], none), (56, .getfield 18, 59, [4, 3, 2, 429, 0], none), (59, .iload_n 1, 60, [], none), (60, .new 9, 63, [8, 6, 425, 78, 60], none), (63, .dup, 64, [], none), (64, .invokespecial 17, 67, [19, 0, 0, 428, 80, 60], none), (67, .aastore, 68, [24], none), (68, .iinc 1 1, 71, [], some [0, 1]), (71, .goto (-21), 74, [50], none), (74, .aload_n 0, 75, [], some [0]), (75, .iconst 0, 76, [], none), (76, .putfield 21, 79, [4, 1, 0, 430, 0, 0], none), (79, .aload_n 0, 80, [], none), (80, .iconst 0, 81, [], none), (81, .putfield 25, 84, [4, 2, 0, 431, 0, 0], none), (84, .aload_n 0, 85, [], none), (85, .iconst 0, 86, [], none), (86, .putfield 28, 89, [4, 4, 0, 432, 0, 0], none), (89, .return_, 90, [], none)]
def zc_X4_clear : List zE := [(0, .aload_n 0, 1, [], none), (1, .iconst 0, 2, [], none), (2, .putfield 25, 5, [4, 2, 0, 431, 0, 0], none), (5, .aload_n 0, 6, [], none), (6, .iconst 0, 7, [], none), (7, .putfield 28, 10, [4, 4, 0, 432, 0, 0], none), (10, .return_, 11, [], none)]
def zc_X4_depth : List zE := [(0, .aload_n 0, 1, [], none), (1, .getfield 25, 4, [4, 2, 0, 431, 0], none), (4, .ireturn, 5, [0], none)]
def zc_X4_held : List zE := [(0, .aload_n 0, 1, [], none), (1, .getfield 28, 4, [4, 4, 0, 432, 0], none), (4, .invokestatic 31, 7, [277, 1, 1, 0, 433, 62, 63], none), (7, .ireturn, 8, [0], none)]
def zc_X4_keep : List zE := [(0, .aload_n 0, 1, [], none), (1, .getfield 21, 4, [4, 1, 0, 430, 0], none), (4, .ifCond .lt 15, 7, [19], none), (7, .aload_n 0, 8, [], none), (8, .getfield 21, 11, [4, 1, 0, 430, 0], none), (11, .aload_n 0, 12, [], none), (12, .getfield 11, 15, [4, 0, 2, 427, 0], none), (15, .arraylength, 16, [24], none), (16, .if_icmp .lt 4, 19, [20], none), (19, .return_, 20, [], some []), (20, .aload_n 0, 21, [], some [0, 1]), (21, .getfield 11, 24, [4, 0, 2, 427, 0], none), (24, .aload_n 0, 25, [], none), (25, .getfield 21, 28, [4, 1, 0, 430, 0], none), (28, .aaload, 29, [24], none), (29, .aload_n 1, 30, [], none), (30, .invokevirtual 37, 33, [21, 1, 0, 8, 434, 101, 102, 60], none), (33, .aload_n 0, 34, [], none), (34, .aload_n 0, 35, [], none), (35, .getfield 21, 38, [4, 1, 0, 430, 0], none), (38, .iconst 1, 39, [], none), (39, .iadd, 40, [], none), (40, .aload_n 0, 41, [], none), (41, .getfield 11, 44, [4, 0, 2, 427, 0], none), (44, .arraylength, 45, [24], none), (45, .if_icmp .ge 12, 48, [57], none), (48, .aload_n 0, 49, [], none), (49, .getfield 21, 52, [4, 1, 0, 430, 0], none), (52, .iconst 1, 53, [], none), (53, .iadd, 54, [], none), (54, .goto 4, 57, [58], none), (57, .iconst 0, 58, [], some [0]), (58, .putfield 21, 61, [4, 1, 0, 430, 0, 0], some [0]), (61, .aload_n 0, 62, [], none), (62, .aload_n 0, 63, [], none), (63, .getfield 25, 66, [4, 2, 0, 431, 0], none), (66, .iconst 1, 67, [], none), (67, .iadd, 68, [], none), (68, .bipush 40, 70, [], none), (70, .invokestatic 41, 73, [275, 2, 1, 0, 435, 16, 17], none), (73, .putfield 25, 76, [4, 2, 0, 431, 0, 0], none), (76, .return_, 77, [], none)]
def zc_X4_undoInto : List zE := [(0, .aload_n 0, 1, [], none), (1, .getfield 21, 4, [4, 1, 0, 430, 0], none), (4, .ifCond .le 12, 7, [16], none), (7, .aload_n 0, 8, [], none), (8, .getfield 21, 11, [4, 1, 0, 430, 0], none), (11, .iconst 1, 12, [], none), (12, .isub, 13, [], none), (13, .goto 10, 16, [23], none), (16, .aload_n 0, 17, [], some [0, 1]), (17, .getfield 11, 20, [4, 0, 2, 427, 0], none), (20, .arraylength, 21, [24], none), (21, .iconst 1, 22, [], none), (22, .isub, 23, [], none), (23, .istore_n 2, 24, [], some [0, 1]), (24, .aload_n 0, 25, [], none), (25, .getfield 25, 28, [4, 2, 0, 431, 0], none), (28, .ifCond .eq 12, 31, [40], none), (31, .iload_n 2, 32, [], none), (32, .aload_n 0, 33, [], none), (33, .getfield 11, 36, [4, 0, 2, 427, 0], none), (36, .arraylength, 37, [24], none), (37, .if_icmp .lt 5, 40, [42], none), (40, .iconst 0, 41, [], some []), (41, .ireturn, 42, [1], none), (42, .aload_n 0, 43, [], some [0, 1, 2]), (43, .iload_n 2, 44, [], none), (44, .putfield 21, 47, [4, 1, 0, 430, 0, 0], none), (47, .aload_n 0, 48, [], none), (48, .dup, 49, [], none), (49, .getfield 25, 52, [4, 2, 0, 431, 0], none), (52, .iconst 1, 53, [], none), (53, .isub, 54, [], none), (54, .putfield 25, 57, [4, 2, 0, 431, 0, 0], none), (57, .aload_n 1, 58, [], none), (58, .aload_n 0, 59, [], none), (59, .getfield 11, 62, [4, 0, 2, 427, 0], none), (62, .iload_n 2, 63, [], none), (63, .aaload, 64, [24], none), (64, .invokevirtual 37, 67, [21, 1, 0, 8, 434, 101, 102, 60], none), (67, .iconst 1, 68, [], none), (68, .ireturn, 69, [1], none)]
def zc_X4_isSlot : List zE := [(0, .iload_n 1, 1, [], none), (1, .ifCond .lt 16, 4, [17], none), (4, .iload_n 1, 5, [], none), (5, .aload_n 0, 6, [], none), (6, .getfield 18, 9, [4, 3, 2, 429, 0], none), (9, .arraylength, 10, [24], none), (10, .if_icmp .ge 7, 13, [17], none), (13, .iconst 1, 14, [], none), (14, .goto 4, 17, [18], none), (17, .iconst 0, 18, [], some []), (18, .ireturn, 19, [1], some [])]
def zc_X4_holdIn : List zE := [(0, .aload_n 0, 1, [], none), (1, .iload_n 1, 2, [], none), (2, .invokevirtual 47, 5, [109, 1, 1, 4, 436, 437, 438, 439], none), (5, .ifCond .ne 5, 8, [10], none), (8, .iconst 0, 9, [], none), (9, .ireturn, 10, [1], none), (10, .aload_n 0, 11, [], some [0, 1, 2]), (11, .getfield 18, 14, [4, 3, 2, 429, 0], none), (14, .iload_n 1, 15, [], none), (15, .aaload, 16, [24], none), (16, .aload_n 2, 17, [], none), (17, .invokevirtual 37, 20, [21, 1, 0, 8, 434, 101, 102, 60], none), (20, .aload_n 0, 21, [], none), (21, .dup, 22, [], none), (22, .getfield 28, 25, [4, 4, 0, 432, 0], none), (25, .iconst 1, 26, [], none), (26, .iload_n 1, 27, [], none), (27, .ishl, 28, [], none), (28, .ior, 29, [], none), (29, .putfield 28, 32, [4, 4, 0, 432, 0, 0], none), (32, .iconst 1, 33, [], none), (33, .ireturn, 34, [1], none)]
def zc_X4_restoreFrom : List zE := [(0, .aload_n 0, 1, [], none), (1, .iload_n 1, 2, [], none), (2, .invokevirtual 47, 5, [109, 1, 1, 4, 436, 437, 438, 439], none), (5, .ifCond .eq 14, 8, [19], none), (8, .aload_n 0, 9, [], none), (9, .getfield 28, 12, [4, 4, 0, 432, 0], none), (12, .iload_n 1, 13, [], none), (13, .ishr, 14, [], none), (14, .iconst 1, 15, [], none), (15, .iand, 16, [], none), (16, .ifCond .ne 5, 19, [21], none), (19, .iconst 0, 20, [], some []), (20, .ireturn, 21, [1], none), (21, .aload_n 2, 22, [], some [0, 1, 2]), (22, .aload_n 0, 23, [], none), (23, .getfield 18, 26, [4, 3, 2, 429, 0], none), (26, .iload_n 1, 27, [], none), (27, .aaload, 28, [24], none), (28, .invokevirtual 37, 31, [21, 1, 0, 8, 434, 101, 102, 60], none), (31, .aload_n 0, 32, [], none), (32, .iconst 0, 33, [], none), (33, .putfield 25, 36, [4, 2, 0, 431, 0, 0], none), (36, .iconst 1, 37, [], none), (37, .ireturn, 38, [1], none)]
def zc_X11_init : List zE := [(0, .aload_n 0, 1, [], none), (1, .invokespecial 1, 4, [9998, 440, 1, 2], none), (4, .aload_n 0, 5, [], none), (5, .sipush 2000, 8, [], none), (8, .newarray .byte, 10, [21, 113], none), (10, .putfield 9, 13, [11, 0, 2, 441, 0, 1], none), (13, .aload_n 0, 14, [], some [0]), (14, .iconst 0, 15, [], none), (15, .putfield 13, 18, [11, 1, 0, 442, 0, 0], none), (18, .aload_n 0, 19, [], none), (19, .iconst (-1), 20, [], none), (20, .putfield 17, 23, [11, 2, 0, 443, 0, 0], none), (23, .aload_n 0, 24, [], none), (24, .new 20, 27, [5, 5, 444, 445, 90], none), (27, .dup, 28, [], none), (28, .invokespecial 22, 31, [32, 0, 0, 446, 447, 90], none), (31, .putfield 23, 34, [11, 3, 2, 448, 0, 1], none), (34, .aload_n 0, 35, [], some [0]), (35, .new 20, 38, [5, 5, 444, 445, 90], none), (38, .dup, 39, [], none), (39, .invokespecial 22, 42, [32, 0, 0, 446, 447, 90], none), (42, .putfield 27, 45, [11, 4, 2, 449, 0, 1], none), (45, .aload_n 0, 46, [], some [0]), (46, .new 30, 49, [6, 10, 450, 451, 181], none), (49, .dup, 50, [], none), (50, .aload_n 0, 51, [], none), (51, .getfield 27, 54, [11, 4, 2, 449, 0], none), (54, .invokespecial 32, 57, [50, 1, 0, 452, 453, 181], none), (57, .putfield 35, 60, [11, 5, 2, 454, 0, 1], none), (60, .aload_n 0, 61, [], some [0]), (61, .new 39, 64, [8, 6, 455, 78, 60], none), (64, .dup, 65, [], none), (65, .invokespecial 41, 68, [19, 0, 0, 456, 80, 60], none), (68, .putfield 42, 71, [11, 6, 2, 457, 0, 1], none), (71, .aload_n 0, 72, [], some [0]), (72, .new 39, 75, [8, 6, 455, 78, 60], none), (75, .dup, 76, [], none), (76, .invokespecial 41, 79, [19, 0, 0, 456, 80, 60], none), (79, .putfield 46, 82, [11, 7, 2, 458, 0, 1], none), (82, .aload_n 0, 83, [], some [0]), (83, .new 49, 86, [7, 3, 459, 460, 261], none), (86, .dup, 87, [], none), (87, .aload_n 0, 88, [], none), (88, .getfield 23, 91, [11, 3, 2, 448, 0], none), (91, .getfield 51, 94, [5, 1, 2, 461, 1], none), (94, .invokespecial 55, 97, [68, 1, 0, 462, 463, 261], none), (97, .putfield 58, 100, [11, 8, 2, 464, 0, 1], none), (100, .aload_n 0, 101, [], some [0]), (101, .new 62, 104, [0, 3, 465, 466, 290], none), (104, .dup, 105, [], none), (105, .aload_n 0, 106, [], none), (106, .getfield 23, 109, [11, 3, 2, 448, 0], none), (109, .aload_n 0, 110, [], none), (110, .getfield 58, 113, [11, 8, 2, 464, 0], none), (113, .invokespecial 64, 116, [79, 2, 0, 467, 468, 290], none), (116, .putfield 67, 119, [11, 9, 2, 469, 0, 1], none), (119, .aload_n 0, 120, [], some [0]), (120, .new 71, 123, [1, 8, 470, 471, 359], none), (123, .dup, 124, [], none), (124, .aload_n 0, 125, [], none), (125, .getfield 23, 128, [11, 3, 2, 448, 0], none), (128, .aload_n 0, 129, [], none), (129, .getfield 42, 132, [11, 6, 2, 457, 0], none), (132, .aload_n 0, 133, [], none), (133, .getfield 58, 136, [11, 8, 2, 464, 0], none), (136, .invokespecial 73, 139, [87, 3, 0, 472, 473, 359], none), (139, .putfield 76, 142, [11, 10, 2, 474, 0, 1], none), (142, .aload_n 0, 143, [], some [0]), (143, .new 80, 146, [2, 6, 475, 476, 386], none), (146, .dup, 147, [], none), (147, .aload_n 0, 148, [], none), (148, .getfield 42, 151, [11, 6, 2, 457, 0], none), (151, .aload_n 0, 152, [], none), (152, .getfield 58, 155, [11, 8, 2, 464, 0], none), (155, .aload_n 0, 156, [], none), (156, .getfield 76, 159, [11, 10, 2, 474, 0], none), (159, .invokespecial 82, 162, [92, 3, 0, 477, 478, 386], none), (162, .putfield 85, 165, [11, 11, 2, 479, 0, 1], none), (165, .aload_n 0, 166, [], some [0]), (166, .new 89, 169, [4, 5, 480, 481, 439], none), (169, .dup, 170, [], none), (170, .invokespecial 91, 173, [103, 0, 0, 482, 483, 439], none), (173, .putfield 92, 176, [11, 12, 2, 484, 0, 1], none), (176, .aload_n 0, 177, [], some [0]), (177, .new 96, 180, [9, 4, 485, 36, 11], none), (180, .dup, 181, [], none), (181, .bipush 20, 183, [], none), (183, .iconst 5, 184, [], none), (184, .invokespecial 98, 187, [0, 2, 0, 486, 38, 11], none), (187, .putfield 101, 190, [11, 13, 2, 487, 0, 1], none), (190, .return_, 191, [], some [])]
def zc_X11_feed : List zE := [(0, .aload_n 0, 1, [], none), (1, .getfield 13, 4, [11, 1, 0, 442, 0], none), (4, .bipush 20, 6, [], none), (6, .iadd, 7, [], none), (7, .sipush 2000, 10, [], none), (10, .if_icmp .le 5, 13, [15], none), (13, .iconst (-1), 14, [], none), (14, .ireturn, 15, [0], none), (15, .aload_n 0, 16, [], some [0, 1, 2, 3, 4, 5]), (16, .iload_n 1, 17, [], none), (17, .invokevirtual 105, 20, [147, 1, 0, 11, 488, 489, 490, 222], none), (20, .aload_n 0, 21, [], none), (21, .iload_n 2, 22, [], none), (22, .invokevirtual 105, 25, [147, 1, 0, 11, 488, 489, 490, 222], none), (25, .aload_n 0, 26, [], none), (26, .iload_n 3, 27, [], none), (27, .invokevirtual 105, 30, [147, 1, 0, 11, 488, 489, 490, 222], none), (30, .aload_n 0, 31, [], none), (31, .iload 4, 33, [], none), (33, .invokevirtual 105, 36, [147, 1, 0, 11, 488, 489, 490, 222], none), (36, .aload_n 0, 37, [], some [0, 5]), (37, .iload 5, 39, [], none), (39, .invokevirtual 105, 42, [147, 1, 0, 11, 488, 489, 490, 222], none), (42, .aload_n 0, 43, [], none), (43, .getfield 13, 46, [11, 1, 0, 442, 0], none), (46, .ireturn, 47, [0], none)]
def zc_X11_back : List zE := [(0, .iload_n 1, 1, [], none), (1, .iconst 0, 2, [], none), (2, .aload_n 0, 3, [], none), (3, .getfield 13, 6, [11, 1, 0, 442, 0], none), (6, .invokestatic 109, 9, [145, 3, 1, 0, 491, 221, 222], none), (9, .ifCond .ne 5, 12, [14], none), (12, .iconst (-1), 13, [], none), (13, .ireturn, 14, [0], none), (14, .aload_n 0, 15, [], some [0, 1]), (15, .dup, 16, [], none), (16, .getfield 13, 19, [11, 1, 0, 442, 0], none), (19, .iload_n 1, 20, [], none), (20, .isub, 21, [], none), (21, .putfield 13, 24, [11, 1, 0, 442, 0, 0], none), (24, .aload_n 0, 25, [], none), (25, .getfield 13, 28, [11, 1, 0, 442, 0], none), (28, .ireturn, 29, [0], none)]
def zc_X11_read : List zE := [(0, .aload_n 0, 1, [], none), (1, .getfield 35, 4, [11, 5, 2, 454, 0], none), (4, .aload_n 0, 5, [], none), (5, .getfield 9, 8, [11, 0, 2, 441, 0], none), (8, .aload_n 0, 9, [], none), (9, .getfield 13, 12, [11, 1, 0, 442, 0], none), (12, .invokevirtual 113, 15, [52, 2, 1, 6, 492, 493, 494, 181], none), (15, .istore_n 1, 16, [], none), (16, .aload_n 0, 17, [], none), (17, .iconst 0, 18, [], none), (18, .putfield 13, 21, [11, 1, 0, 442, 0, 0], none), (21, .aload_n 0, 22, [], none), (22, .iload_n 1, 23, [], none), (23, .ifCond .ne 7, 26, [30], none), (26, .iconst (-1), 27, [], none), (27, .goto 10, 30, [37], none), (30, .aload_n 0, 31, [], some [0, 1]), (31, .getfield 35, 34, [11, 5, 2, 454, 0], none), (34, .invokevirtual 117, 37, [51, 0, 1, 6, 495, 496, 497, 181], none), (37, .putfield 17, 40, [11, 2, 0, 443, 0, 0], some [0, 1]), (40, .iload_n 1, 41, [], none), (41, .ifCond .ne 42, 44, [83], none), (44, .aload_n 0, 45, [], none), (45, .getfield 23, 48, [11, 3, 2, 448, 0], none), (48, .aload_n 0, 49, [], none), (49, .getfield 27, 52, [11, 4, 2, 449, 0], none), (52, .invokevirtual 120, 55, [34, 1, 0, 5, 498, 499, 500, 90], none), (55, .aload_n 0, 56, [], none), (56, .getfield 42, 59, [11, 6, 2, 457, 0], none), (59, .aload_n 0, 60, [], none), (60, .getfield 23, 63, [11, 3, 2, 448, 0], none), (63, .getfield 123, 66, [5, 0, 2, 501, 1], none), (66, .invokevirtual 126, 69, [21, 1, 0, 8, 502, 101, 102, 60], none), (69, .aload_n 0, 70, [], none), (70, .getfield 92, 73, [11, 12, 2, 484, 0], none), (73, .invokevirtual 129, 76, [104, 0, 0, 4, 503, 504, 505, 439], none), (76, .aload_n 0, 77, [], some [0, 1]), (77, .getfield 101, 80, [11, 13, 2, 487, 0], none), (80, .invokevirtual 132, 83, [4, 0, 0, 9, 506, 46, 47, 11], none), (83, .iload_n 1, 84, [], some [1]), (84, .ireturn, 85, [0], none)]
def zc_X11_place : List zE := [(0, .aload_n 0, 1, [], none), (1, .getfield 17, 4, [11, 2, 0, 443, 0], none), (4, .ireturn, 5, [0], none)]
def zc_X11_load : List zE := [(0, .aload_n 0, 1, [], none), (1, .getfield 42, 4, [11, 6, 2, 457, 0], none), (4, .getfield 133, 7, [8, 0, 2, 507, 1], none), (7, .iload_n 1, 8, [], none), (8, .iload_n 2, 9, [], none), (9, .invokevirtual 136, 12, [5, 2, 1, 9, 508, 55, 56, 11], none), (12, .ireturn, 13, [0], none)]
def zc_X11_silk : List zE := [(0, .iload_n 2, 1, [], none), (1, .iconst 3, 2, [], none), (2, .if_icmp .ne 7, 5, [9], none), (5, .iconst (-1), 6, [], none), (6, .goto 15, 9, [21], none), (9, .aload_n 0, 10, [], some [0, 1, 2]), (10, .getfield 42, 13, [11, 6, 2, 457, 0], none), (13, .getfield 140, 16, [8, 1, 2, 509, 1], none), (16, .iload_n 1, 17, [], none), (17, .iload_n 2, 18, [], none), (18, .invokevirtual 136, 21, [5, 2, 1, 9, 508, 55, 56, 11], none), (21, .ireturn, 22, [0], some [])]
def zc_X11_pull : List zE := [(0, .aload_n 0, 1, [], none), (1, .getfield 42, 4, [11, 6, 2, 457, 0], none), (4, .getfield 140, 7, [8, 1, 2, 509, 1], none), (7, .iload_n 1, 8, [], none), (8, .invokevirtual 143, 11, [2, 1, 1, 9, 510, 65, 66, 11], none), (11, .ifCond .eq 18, 14, [29], none), (14, .aload_n 0, 15, [], none), (15, .getfield 42, 18, [11, 6, 2, 457, 0], none), (18, .getfield 140, 21, [8, 1, 2, 509, 1], none), (21, .iload_n 1, 22, [], none), (22, .iconst 3, 23, [], none), (23, .invokevirtual 136, 26, [5, 2, 1, 9, 508, 55, 56, 11], none), (26, .goto 5, 29, [31], none), (29, .bipush (-100), 31, [], some []), (31, .ireturn, 32, [0], some [])]
def zc_X11_hook : List zE := [(0, .aload_n 0, 1, [], none), (1, .getfield 42, 4, [11, 6, 2, 457, 0], none), (4, .getfield 147, 7, [8, 2, 2, 511, 1], none), (7, .iload_n 1, 8, [], none), (8, .iload_n 2, 9, [], none), (9, .invokevirtual 136, 12, [5, 2, 1, 9, 508, 55, 56, 11], none), (12, .ireturn, 13, [0], none)]
def zc_X11_tells : List zE := [(0, .iload_n 3, 1, [], none), (1, .ifCond .eq 8, 4, [9], none), (4, .iload_n 3, 5, [], none), (5, .iconst 2, 6, [], none), (6, .if_icmp .ne 7, 9, [13], none), (9, .iconst 1, 10, [], some [0, 1, 2, 3]), (10, .goto 4, 13, [14], none), (13, .iconst 0, 14, [], some [0, 1, 2, 3]), (14, .istore 4, 16, [], some [0, 1, 2, 3]), (16, .iload_n 3, 17, [], none), (17, .iconst 0, 18, [], none), (18, .iconst 3, 19, [], none), (19, .invokestatic 109, 22, [145, 3, 1, 0, 491, 221, 222], none), (22, .ifCond .eq 36, 25, [58], none), (25, .aload_n 0, 26, [], none), (26, .getfield 42, 29, [11, 6, 2, 457, 0], none), (29, .getfield 133, 32, [8, 0, 2, 507, 1], none), (32, .iload_n 1, 33, [], none), (33, .invokevirtual 143, 36, [2, 1, 1, 9, 510, 65, 66, 11], none), (36, .ifCond .eq 22, 39, [58], none), (39, .iload 4, 41, [], none), (41, .ifCond .eq 20, 44, [61], none), (44, .aload_n 0, 45, [], none), (45, .getfield 42, 48, [11, 6, 2, 457, 0], none), (48, .getfield 140, 51, [8, 1, 2, 509, 1], none), (51, .iload_n 2, 52, [], none), (52, .invokevirtual 143, 55, [2, 1, 1, 9, 510, 65, 66, 11], none), (55, .ifCond .ne 6, 58, [61], none), (58, .bipush (-100), 60, [], some []), (60, .ireturn, 61, [0], none), (61, .aload_n 0, 62, [], some [0, 1, 2, 3]), (62, .getfield 42, 65, [11, 6, 2, 457, 0], none), (65, .getfield 133, 68, [8, 0, 2, 507, 1], none), (68, .iload_n 1, 69, [], none), (69, .iconst 0, 70, [], none), (70, .invokevirtual 136, 73, [5, 2, 1, 9, 508, 55, 56, 11], none), (73, .istore 5, 75, [], none), (75, .aload_n 0, 76, [], none), (76, .getfield 42, 79, [11, 6, 2, 457, 0], none), (79, .getfield 133, 82, [8, 0, 2, 507, 1], none), (82, .iload_n 1, 83, [], none), (83, .iconst 1, 84, [], none), (84, .invokevirtual 136, 87, [5, 2, 1, 9, 508, 55, 56, 11], none), (87, .istore 6, 89, [], none), (89, .aload_n 0, 90, [], none), (90, .getfield 58, 93, [11, 8, 2, 464, 0], none), (93, .aload_n 0, 94, [], none), (94, .getfield 42, 97, [11, 6, 2, 457, 0], none), (97, .getfield 150, 100, [8, 3, 0, 512, 1], none), (100, .aload_n 0, 101, [], none), (101, .getfield 42, 104, [11, 6, 2, 457, 0], none), (104, .invokevirtual 153, 107, [23, 0, 1, 8, 513, 294, 295, 60], none), (107, .aload_n 0, 108, [], none), (108, .getfield 42, 111, [11, 6, 2, 457, 0], none), (111, .invokevirtual 156, 114, [24, 0, 1, 8, 514, 305, 306, 60], none), (114, .invokevirtual 159, 117, [69, 3, 0, 7, 515, 308, 309, 261], none), (117, .iload_n 3, 118, [], some [0, 1, 2, 3, 5, 6]), (118, .ifCond .ne 28, 121, [146], none), (121, .aload_n 0, 122, [], none), (122, .getfield 58, 125, [11, 8, 2, 464, 0], none), (125, .aload_n 0, 126, [], none), (126, .getfield 42, 129, [11, 6, 2, 457, 0], none), (129, .getfield 140, 132, [8, 1, 2, 509, 1], none), (132, .iload_n 2, 133, [], none), (133, .iconst 0, 134, [], none), (134, .invokevirtual 136, 137, [5, 2, 1, 9, 508, 55, 56, 11], none), (137, .iload 6, 139, [], none), (139, .iconst 0, 140, [], none), (140, .iload 5, 142, [], none), (142, .invokevirtual 163, 145, [70, 4, 1, 7, 516, 325, 326, 261], none), (145, .ireturn, 146, [0], none), (146, .iload_n 3, 147, [], some [0, 1, 2, 3, 5, 6]), (147, .iconst 1, 148, [], none), (148, .if_icmp .ne 14, 151, [162], none), (151, .aload_n 0, 152, [], none), (152, .getfield 58, 155, [11, 8, 2, 464, 0], none), (155, .iconst 0, 156, [], none), (156, .iload 5, 158, [], none), (158, .invokevirtual 167, 161, [71, 2, 1, 7, 517, 328, 329, 261], none), (161, .ireturn, 162, [0], none), (162, .iload_n 3, 163, [], some [0, 1, 2, 3, 6]), (163, .iconst 2, 164, [], none), (164, .if_icmp .ne 25, 167, [189], none), (167, .aload_n 0, 168, [], none), (168, .getfield 58, 171, [11, 8, 2, 464, 0], none), (171, .aload_n 0, 172, [], none), (172, .getfield 42, 175, [11, 6, 2, 457, 0], none), (175, .getfield 140, 178, [8, 1, 2, 509, 1], none), (178, .iload_n 2, 179, [], none), (179, .iconst 0, 180, [], none), (180, .invokevirtual 136, 183, [5, 2, 1, 9, 508, 55, 56, 11], none), (183, .iload 6, 185, [], none), (185, .invokevirtual 170, 188, [72, 2, 1, 7, 518, 404, 405, 261], none), (188, .ireturn, 189, [0], none), (189, .aload_n 0, 190, [], some [0, 1, 6]), (190, .getfield 58, 193, [11, 8, 2, 464, 0], none), (193, .aload_n 0, 194, [], none), (194, .getfield 42, 197, [11, 6, 2, 457, 0], none), (197, .getfield 133, 200, [8, 0, 2, 507, 1], none), (200, .iload_n 1, 201, [], none), (201, .iconst 2, 202, [], none), (202, .invokevirtual 136, 205, [5, 2, 1, 9, 508, 55, 56, 11], none), (205, .iload 6, 207, [], none), (207, .invokevirtual 173, 210, [73, 2, 1, 7, 519, 341, 342, 261], none), (210, .ireturn, 211, [0], none)]
def zc_X11_tie : List zE := [(0, .aload_n 0, 1, [], none), (1, .iload_n 1, 2, [], none), (2, .iload_n 2, 3, [], none), (3, .invokevirtual 176, 6, [148, 2, 1, 11, 520, 521, 522, 222], none), (6, .ifCond .ne 5, 9, [11], none), (9, .iconst (-1), 10, [], none), (10, .ireturn, 11, [0], none), (11, .aload_n 0, 12, [], some [0, 1, 2]), (12, .getfield 42, 15, [11, 6, 2, 457, 0], none), (15, .iload_n 1, 16, [], none), (16, .iload_n 2, 17, [], none), (17, .invokevirtual 180, 20, [27, 2, 1, 8, 523, 381, 382, 60], none), (20, .ifCond .ne 6, 23, [26], none), (23, .bipush (-2), 25, [], none), (25, .ireturn, 26, [0], none), (26, .aload_n 0, 27, [], some [0, 1, 2]), (27, .getfield 92, 30, [11, 12, 2, 484, 0], none), (30, .aload_n 0, 31, [], none), (31, .getfield 42, 34, [11, 6, 2, 457, 0], none), (34, .invokevirtual 183, 37, [107, 1, 0, 4, 524, 525, 526, 439], none), (37, .aload_n 0, 38, [], none), (38, .getfield 58, 41, [11, 8, 2, 464, 0], none), (41, .aload_n 0, 42, [], none), (42, .getfield 42, 45, [11, 6, 2, 457, 0], none), (45, .getfield 150, 48, [8, 3, 0, 512, 1], none), (48, .aload_n 0, 49, [], none), (49, .getfield 42, 52, [11, 6, 2, 457, 0], none), (52, .invokevirtual 153, 55, [23, 0, 1, 8, 513, 294, 295, 60], none), (55, .aload_n 0, 56, [], none), (56, .getfield 42, 59, [11, 6, 2, 457, 0], none), (59, .invokevirtual 156, 62, [24, 0, 1, 8, 514, 305, 306, 60], none), (62, .invokevirtual 159, 65, [69, 3, 0, 7, 515, 308, 309, 261], none), (65, .aload_n 0, 66, [], some [0, 1, 2]), (66, .getfield 58, 69, [11, 8, 2, 464, 0], none), (69, .aload_n 0, 70, [], none), (70, .getfield 42, 73, [11, 6, 2, 457, 0], none), (73, .getfield 140, 76, [8, 1, 2, 509, 1], none), (76, .iload_n 2, 77, [], none), (77, .iconst 0, 78, [], none), (78, .invokevirtual 136, 81, [5, 2, 1, 9, 508, 55, 56, 11], none), (81, .aload_n 0, 82, [], none), (82, .getfield 42, 85, [11, 6, 2, 457, 0], none), (85, .getfield 133, 88, [8, 0, 2, 507, 1], none), (88, .iload_n 1, 89, [], none), (89, .iconst 1, 90, [], none), (90, .invokevirtual 136, 93, [5, 2, 1, 9, 508, 55, 56, 11], none), (93, .invokevirtual 170, 96, [72, 2, 1, 7, 518, 404, 405, 261], none), (96, .istore_n 3, 97, [], none), (97, .aload_n 0, 98, [], none), (98, .getfield 42, 101, [11, 6, 2, 457, 0], none), (101, .iload_n 1, 102, [], none), (102, .iload_n 2, 103, [], none), (103, .invokevirtual 186, 106, [28, 2, 0, 8, 527, 528, 529, 60], none), (106, .aload_n 0, 107, [], some [0, 3]), (107, .getfield 42, 110, [11, 6, 2, 457, 0], none), (110, .dup, 111, [], none), (111, .getfield 189, 114, [8, 5, 0, 530, 1], none), (114, .iload_n 3, 115, [], none), (115, .iadd, 116, [], none), (116, .putfield 189, 119, [8, 5, 0, 530, 1, 0], none), (119, .iload_n 3, 120, [], none), (120, .ireturn, 121, [0], none)]
def zc_X11_move : List zE := [(0, .aload_n 0, 1, [], none), (1, .getfield 42, 4, [11, 6, 2, 457, 0], none), (4, .getfield 147, 7, [8, 2, 2, 511, 1], none), (7, .iload_n 1, 8, [], none), (8, .invokevirtual 143, 11, [2, 1, 1, 9, 510, 65, 66, 11], none), (11, .ifCond .eq 29, 14, [40], none), (14, .iload_n 2, 15, [], none), (15, .iconst 0, 16, [], none), (16, .bipush 19, 18, [], none), (18, .invokestatic 109, 21, [145, 3, 1, 0, 491, 221, 222], none), (21, .ifCond .eq 19, 24, [40], none), (24, .aload_n 0, 25, [], none), (25, .getfield 42, 28, [11, 6, 2, 457, 0], none), (28, .getfield 147, 31, [8, 2, 2, 511, 1], none), (31, .iload_n 1, 32, [], none), (32, .iconst 0, 33, [], none), (33, .invokevirtual 136, 36, [5, 2, 1, 9, 508, 55, 56, 11], none), (36, .iload_n 2, 37, [], none), (37, .if_icmp .ne 5, 40, [42], none), (40, .iconst 0, 41, [], some []), (41, .ireturn, 42, [1], none), (42, .aload_n 0, 43, [], some [0, 1, 2]), (43, .getfield 92, 46, [11, 12, 2, 484, 0], none), (46, .aload_n 0, 47, [], none), (47, .getfield 42, 50, [11, 6, 2, 457, 0], none), (50, .invokevirtual 183, 53, [107, 1, 0, 4, 524, 525, 526, 439], none), (53, .aload_n 0, 54, [], none), (54, .getfield 42, 57, [11, 6, 2, 457, 0], none), (57, .getfield 147, 60, [8, 2, 2, 511, 1], none), (60, .iload_n 1, 61, [], none), (61, .iconst 0, 62, [], none), (62, .iload_n 2, 63, [], none), (63, .invokevirtual 192, 66, [6, 3, 0, 9, 531, 13, 14, 11], none), (66, .iconst 1, 67, [], none), (67, .ireturn, 68, [1], none)]
def zc_X11_patch : List zE := [(0, .aload_n 0, 1, [], none), (1, .getfield 42, 4, [11, 6, 2, 457, 0], none), (4, .iload_n 1, 5, [], none), (5, .invokevirtual 195, 8, [26, 1, 1, 8, 532, 71, 72, 60], none), (8, .ifCond .ne 5, 11, [13], none), (11, .iconst 0, 12, [], none), (12, .ireturn, 13, [1], none), (13, .aload_n 0, 14, [], some [0, 1, 2]), (14, .getfield 42, 17, [11, 6, 2, 457, 0], none), (17, .getfield 140, 20, [8, 1, 2, 509, 1], none), (20, .iload_n 1, 21, [], none), (21, .iconst 3, 22, [], none), (22, .invokevirtual 136, 25, [5, 2, 1, 9, 508, 55, 56, 11], none), (25, .iload_n 2, 26, [], none), (26, .ifCond .eq 7, 29, [33], none), (29, .iconst 1, 30, [], none), (30, .goto 4, 33, [34], none), (33, .iconst (-1), 34, [], some [0, 1]), (34, .iadd, 35, [], some [0, 1]), (35, .istore_n 3, 36, [], none), (36, .iload_n 3, 37, [], none), (37, .bipush (-3), 39, [], none), (39, .iconst 3, 40, [], none), (40, .invokestatic 109, 43, [145, 3, 1, 0, 491, 221, 222], none), (43, .ifCond .ne 5, 46, [48], none), (46, .iconst 0, 47, [], none), (47, .ireturn, 48, [1], none), (48, .aload_n 0, 49, [], some [0, 1, 3]), (49, .getfield 92, 52, [11, 12, 2, 484, 0], none), (52, .aload_n 0, 53, [], none), (53, .getfield 42, 56, [11, 6, 2, 457, 0], none), (56, .invokevirtual 183, 59, [107, 1, 0, 4, 524, 525, 526, 439], none), (59, .aload_n 0, 60, [], none), (60, .getfield 42, 63, [11, 6, 2, 457, 0], none), (63, .getfield 140, 66, [8, 1, 2, 509, 1], none), (66, .iload_n 1, 67, [], none), (67, .iconst 3, 68, [], none), (68, .iload_n 3, 69, [], none), (69, .invokevirtual 192, 72, [6, 3, 0, 9, 531, 13, 14, 11], none), (72, .iconst 1, 73, [], none), (73, .ireturn, 74, [1], none)]
def zc_X11_hours : List zE := [(0, .iload_n 1, 1, [], none), (1, .iconst 0, 2, [], none), (2, .bipush 72, 4, [], none), (4, .invokestatic 109, 7, [145, 3, 1, 0, 491, 221, 222], none), (7, .ifCond .ne 5, 10, [12], none), (10, .iconst (-1), 11, [], none), (11, .ireturn, 12, [0], none), (12, .iload_n 1, 13, [], some [0, 1]), (13, .ifCond .le 33, 16, [46], none), (16, .aload_n 0, 17, [], none), (17, .getfield 92, 20, [11, 12, 2, 484, 0], none), (20, .aload_n 0, 21, [], none), (21, .getfield 42, 24, [11, 6, 2, 457, 0], none), (24, .invokevirtual 183, 27, [107, 1, 0, 4, 524, 525, 526, 439], none), (27, .aload_n 0, 28, [], none), (28, .getfield 67, 31, [11, 9, 2, 469, 0], none), (31, .aload_n 0, 32, [], none), (32, .getfield 42, 35, [11, 6, 2, 457, 0], none), (35, .iload_n 1, 36, [], none), (36, .aload_n 0, 37, [], none), (37, .getfield 23, 40, [11, 3, 2, 448, 0], none), (40, .getfield 198, 43, [5, 4, 0, 533, 1], none), (43, .invokevirtual 201, 46, [82, 3, 0, 0, 534, 535, 536, 290], none), (46, .aload_n 0, 47, [], some [0]), (47, .getfield 42, 50, [11, 6, 2, 457, 0], none), (50, .getfield 150, 53, [8, 3, 0, 512, 1], none), (53, .ireturn, 54, [0], none)]
def zc_X11_undo : List zE := [(0, .aload_n 0, 1, [], none), (1, .getfield 92, 4, [11, 12, 2, 484, 0], none), (4, .aload_n 0, 5, [], none), (5, .getfield 42, 8, [11, 6, 2, 457, 0], none), (8, .invokevirtual 205, 11, [108, 1, 1, 4, 537, 538, 539, 439], none), (11, .ireturn, 12, [1], none)]
def zc_X11_flight : List zE := [(0, .aload_n 0, 1, [], none), (1, .iload_n 1, 2, [], none), (2, .iload_n 2, 3, [], none), (3, .invokevirtual 176, 6, [148, 2, 1, 11, 520, 521, 522, 222], none), (6, .ifCond .eq 23, 9, [29], none), (9, .iload_n 3, 10, [], none), (10, .iconst 0, 11, [], none), (11, .bipush 24, 13, [], none), (13, .invokestatic 109, 16, [145, 3, 1, 0, 491, 221, 222], none), (16, .ifCond .eq 13, 19, [29], none), (19, .iload 4, 21, [], none), (21, .iconst 0, 22, [], none), (22, .iconst 3, 23, [], none), (23, .invokestatic 109, 26, [145, 3, 1, 0, 491, 221, 222], none), (26, .ifCond .ne 5, 29, [31], none), (29, .iconst (-1), 30, [], some []), (30, .ireturn, 31, [0], none), (31, .aload_n 0, 32, [], some [0, 1, 2, 3, 4]), (32, .getfield 42, 35, [11, 6, 2, 457, 0], none), (35, .iload_n 1, 36, [], none), (36, .iload_n 2, 37, [], none), (37, .invokevirtual 180, 40, [27, 2, 1, 8, 523, 381, 382, 60], none), (40, .ifCond .ne 6, 43, [46], none), (43, .bipush (-2), 45, [], none), (45, .ireturn, 46, [0], none), (46, .aload_n 0, 47, [], some [0, 1, 2, 3, 4]), (47, .getfield 76, 50, [11, 10, 2, 474, 0], none), (50, .iload_n 1, 51, [], none), (51, .iload_n 2, 52, [], none), (52, .aload_n 0, 53, [], none), (53, .getfield 42, 56, [11, 6, 2, 457, 0], none), (56, .getfield 140, 59, [8, 1, 2, 509, 1], none), (59, .iload_n 2, 60, [], none), (60, .iconst 3, 61, [], none), (61, .invokevirtual 136, 64, [5, 2, 1, 9, 508, 55, 56, 11], none), (64, .iload_n 3, 65, [], none), (65, .invokevirtual 209, 68, [89, 4, 0, 1, 540, 394, 395, 359], none), (68, .iload 4, 70, [], none), (70, .tableswitch 50 0 2 #[26, 34, 42], 96, [120, 96, 104, 112], none), (96, .aload_n 0, 97, [], some [0]), (97, .getfield 76, 100, [11, 10, 2, 474, 0], none), (100, .getfield 213, 103, [1, 3, 0, 541, 1], none), (103, .ireturn, 104, [0], none), (104, .aload_n 0, 105, [], some [0]), (105, .getfield 76, 108, [11, 10, 2, 474, 0], none), (108, .getfield 216, 111, [1, 4, 0, 542, 1], none), (111, .ireturn, 112, [0], none), (112, .aload_n 0, 113, [], some [0]), (113, .getfield 76, 116, [11, 10, 2, 474, 0], none), (116, .getfield 219, 119, [1, 5, 0, 543, 1], none), (119, .ireturn, 120, [0], none), (120, .aload_n 0, 121, [], some [0]), (121, .getfield 76, 124, [11, 10, 2, 474, 0], none), (124, .getfield 222, 127, [1, 6, 0, 544, 1], none), (127, .ireturn, 128, [0], none)]
def zc_X11_soon : List zE := [(0, .aload_n 0, 1, [], none), (1, .getfield 42, 4, [11, 6, 2, 457, 0], none), (4, .iload_n 1, 5, [], none), (5, .iload_n 2, 6, [], none), (6, .invokevirtual 180, 9, [27, 2, 1, 8, 523, 381, 382, 60], none), (9, .ifCond .eq 17, 12, [26], none), (12, .aload_n 0, 13, [], none), (13, .getfield 42, 16, [11, 6, 2, 457, 0], none), (16, .getfield 147, 19, [8, 2, 2, 511, 1], none), (19, .iload_n 3, 20, [], none), (20, .invokevirtual 143, 23, [2, 1, 1, 9, 510, 65, 66, 11], none), (23, .ifCond .ne 5, 26, [28], none), (26, .iconst (-1), 27, [], some []), (27, .ireturn, 28, [0], none), (28, .aload_n 0, 29, [], some [0, 1, 2, 3]), (29, .getfield 42, 32, [11, 6, 2, 457, 0], none), (32, .getfield 140, 35, [8, 1, 2, 509, 1], none), (35, .iload_n 2, 36, [], none), (36, .iconst 3, 37, [], none), (37, .invokevirtual 136, 40, [5, 2, 1, 9, 508, 55, 56, 11], none), (40, .istore 4, 42, [], none), (42, .iconst 0, 43, [], none), (43, .istore 5, 45, [], none), (45, .iload 5, 47, [], some [0, 1, 2, 3, 4, 5]), (47, .bipush 24, 49, [], none), (49, .if_icmp .gt 36, 52, [85], none), (52, .aload_n 0, 53, [], none), (53, .getfield 76, 56, [11, 10, 2, 474, 0], none), (56, .iload_n 1, 57, [], none), (57, .iload_n 2, 58, [], none), (58, .iload 4, 60, [], none), (60, .iload 5, 62, [], none), (62, .invokevirtual 209, 65, [89, 4, 0, 1, 540, 394, 395, 359], none), (65, .aload_n 0, 66, [], none), (66, .getfield 76, 69, [11, 10, 2, 474, 0], none), (69, .getfield 219, 72, [1, 5, 0, 543, 1], none), (72, .iload_n 3, 73, [], none), (73, .if_icmp .ne 6, 76, [79], none), (76, .iload 5, 78, [], none), (78, .ireturn, 79, [0], none), (79, .iinc 5 1, 82, [], some [0, 1, 2, 3, 4, 5]), (82, .goto (-37), 85, [45], none), (85, .bipush (-2), 87, [], some []), (87, .ireturn, 88, [0], none)]
def zc_X11_patches : List zE := [(0, .aload_n 0, 1, [], none), (1, .getfield 42, 4, [11, 6, 2, 457, 0], none), (4, .iload_n 1, 5, [], none), (5, .iload_n 2, 6, [], none), (6, .invokevirtual 180, 9, [27, 2, 1, 8, 523, 381, 382, 60], none), (9, .ifCond .eq 17, 12, [26], none), (12, .aload_n 0, 13, [], none), (13, .getfield 42, 16, [11, 6, 2, 457, 0], none), (16, .getfield 147, 19, [8, 2, 2, 511, 1], none), (19, .iload_n 3, 20, [], none), (20, .invokevirtual 143, 23, [2, 1, 1, 9, 510, 65, 66, 11], none), (23, .ifCond .ne 7, 26, [30], none), (26, .sipush (-1000), 29, [], some []), (29, .ireturn, 30, [0], none), (30, .aload_n 0, 31, [], some [0, 1, 2, 3]), (31, .getfield 42, 34, [11, 6, 2, 457, 0], none), (34, .getfield 140, 37, [8, 1, 2, 509, 1], none), (37, .iload_n 2, 38, [], none), (38, .iconst 3, 39, [], none), (39, .invokevirtual 136, 42, [5, 2, 1, 9, 508, 55, 56, 11], none), (42, .istore 4, 44, [], none), (44, .iconst 0, 45, [], none), (45, .istore 5, 47, [], none), (47, .iload 5, 49, [], some [0, 1, 2, 3, 4, 5]), (49, .bipush 6, 51, [], none), (51, .if_icmp .gt 51, 54, [102], none), (54, .aload_n 0, 55, [], none), (55, .iload_n 1, 56, [], none), (56, .iload_n 2, 57, [], none), (57, .iload 4, 59, [], none), (59, .iload 5, 61, [], none), (61, .isub, 62, [], none), (62, .iload_n 3, 63, [], none), (63, .invokevirtual 225, 66, [149, 4, 1, 11, 545, 546, 547, 222], none), (66, .ifCond .eq 9, 69, [75], none), (69, .iload 4, 71, [], none), (71, .iload 5, 73, [], none), (73, .isub, 74, [], none), (74, .ireturn, 75, [0], none), (75, .aload_n 0, 76, [], some [0, 1, 2, 3, 4, 5]), (76, .iload_n 1, 77, [], none), (77, .iload_n 2, 78, [], none), (78, .iload 4, 80, [], none), (80, .iload 5, 82, [], none), (82, .iadd, 83, [], none), (83, .iload_n 3, 84, [], none), (84, .invokevirtual 225, 87, [149, 4, 1, 11, 545, 546, 547, 222], none), (87, .ifCond .eq 9, 90, [96], none), (90, .iload 4, 92, [], none), (92, .iload 5, 94, [], none), (94, .iadd, 95, [], none), (95, .ireturn, 96, [0], none), (96, .iinc 5 1, 99, [], some [0, 1, 2, 3, 4, 5]), (99, .goto (-52), 102, [47], none), (102, .bipush (-100), 104, [], some []), (104, .ireturn, 105, [0], none)]
def zc_X11_near : List zE := [(0, .iload_n 1, 1, [], none), (1, .iconst 0, 2, [], none), (2, .bipush 19, 4, [], none), (4, .invokestatic 109, 7, [145, 3, 1, 0, 491, 221, 222], none), (7, .ifCond .eq 15, 10, [22], none), (10, .aload_n 0, 11, [], none), (11, .getfield 42, 14, [11, 6, 2, 457, 0], none), (14, .iload_n 1, 15, [], none), (15, .iconst 0, 16, [], none), (16, .invokevirtual 229, 19, [30, 2, 1, 8, 548, 336, 337, 60], none), (19, .goto 4, 22, [23], none), (22, .iconst (-1), 23, [], some []), (23, .ireturn, 24, [0], some [])]
def zc_X11_lifts : List zE := [(0, .aload_n 0, 1, [], none), (1, .getfield 42, 4, [11, 6, 2, 457, 0], none), (4, .iload_n 1, 5, [], none), (5, .invokevirtual 195, 8, [26, 1, 1, 8, 532, 71, 72, 60], none), (8, .ifCond .eq 13, 11, [21], none), (11, .iload_n 2, 12, [], none), (12, .iconst 0, 13, [], none), (13, .bipush 19, 15, [], none), (15, .invokestatic 109, 18, [145, 3, 1, 0, 491, 221, 222], none), (18, .ifCond .ne 5, 21, [23], none), (21, .iconst (-1), 22, [], some []), (22, .ireturn, 23, [0], none), (23, .aload_n 0, 24, [], some [0, 1, 2]), (24, .getfield 42, 27, [11, 6, 2, 457, 0], none), (27, .getfield 140, 30, [8, 1, 2, 509, 1], none), (30, .iload_n 1, 31, [], none), (31, .iconst 0, 32, [], none), (32, .invokevirtual 136, 35, [5, 2, 1, 9, 508, 55, 56, 11], none), (35, .istore_n 3, 36, [], none), (36, .aload_n 0, 37, [], none), (37, .getfield 42, 40, [11, 6, 2, 457, 0], none), (40, .getfield 140, 43, [8, 1, 2, 509, 1], none), (43, .iload_n 1, 44, [], none), (44, .iconst 3, 45, [], none), (45, .invokevirtual 136, 48, [5, 2, 1, 9, 508, 55, 56, 11], none), (48, .istore 4, 50, [], none), (50, .bipush 9, 52, [], none), (52, .istore 5, 54, [], none), (54, .iload 5, 56, [], some [0, 2, 3, 4, 5]), (56, .ifCond .le 44, 59, [100], none), (59, .aload_n 0, 60, [], none), (60, .getfield 76, 63, [11, 10, 2, 474, 0], none), (63, .iload_n 3, 64, [], none), (64, .iload 5, 66, [], none), (66, .iload 4, 68, [], none), (68, .iload_n 2, 69, [], none), (69, .aload_n 0, 70, [], none), (70, .getfield 42, 73, [11, 6, 2, 457, 0], none), (73, .getfield 150, 76, [8, 3, 0, 512, 1], none), (76, .bipush 48, 78, [], none), (78, .invokevirtual 232, 81, [90, 6, 0, 1, 549, 357, 358, 359], none), (81, .aload_n 0, 82, [], none), (82, .getfield 76, 85, [11, 10, 2, 474, 0], none), (85, .invokevirtual 236, 88, [88, 0, 1, 1, 550, 418, 419, 359], none), (88, .ifCond .eq 6, 91, [94], none), (91, .iload 5, 93, [], none), (93, .ireturn, 94, [0], none), (94, .iinc 5 (-1), 97, [], some [0, 2, 3, 4, 5]), (97, .goto (-43), 100, [54], none), (100, .bipush (-2), 102, [], some []), (102, .ireturn, 103, [0], none)]
def zc_X11_fill : List zE := [(0, .iload_n 1, 1, [], none), (1, .iconst (-1), 2, [], none), (2, .if_icmp .eq 20, 5, [22], none), (5, .aload_n 0, 6, [], none), (6, .getfield 42, 9, [11, 6, 2, 457, 0], none), (9, .getfield 133, 12, [8, 0, 2, 507, 1], none), (12, .iload_n 1, 13, [], none), (13, .invokevirtual 143, 16, [2, 1, 1, 9, 510, 65, 66, 11], none), (16, .ifCond .ne 6, 19, [22], none), (19, .ldc 240, 21, [0, 4294867296, 551], none), (21, .ireturn, 22, [0], none), (22, .aload_n 0, 23, [], some [0, 1]), (23, .getfield 85, 26, [11, 11, 2, 479, 0], none), (26, .invokevirtual 241, 29, [93, 0, 0, 2, 552, 553, 554, 386], none), (29, .iload_n 1, 30, [], none), (30, .iconst (-1), 31, [], none), (31, .if_icmp .ne 13, 34, [44], none), (34, .aload_n 0, 35, [], none), (35, .getfield 85, 38, [11, 11, 2, 479, 0], none), (38, .invokevirtual 244, 41, [97, 0, 1, 2, 555, 556, 557, 386], none), (41, .goto 11, 44, [52], none), (44, .aload_n 0, 45, [], some [0, 1]), (45, .getfield 85, 48, [11, 11, 2, 479, 0], none), (48, .iload_n 1, 49, [], none), (49, .invokevirtual 247, 52, [98, 1, 1, 2, 558, 559, 560, 386], none), (52, .ireturn, 53, [0], some [])]
def zc_X11_fewest : List zE := [(0, .iconst 1, 1, [], none), (1, .aload_n 0, 2, [], none), (2, .getfield 42, 5, [11, 6, 2, 457, 0], none), (5, .getfield 147, 8, [8, 2, 2, 511, 1], none), (8, .invokevirtual 251, 11, [1, 0, 1, 9, 561, 52, 53, 11], none), (11, .ishl, 12, [], none), (12, .istore_n 1, 13, [], none), (13, .aload_n 0, 14, [], none), (14, .getfield 85, 17, [11, 11, 2, 479, 0], none), (17, .invokevirtual 254, 20, [100, 0, 0, 2, 562, 563, 564, 386], none), (20, .iconst 0, 21, [], none), (21, .istore_n 2, 22, [], none), (22, .bipush 6, 24, [], none), (24, .istore_n 3, 25, [], none), (25, .iconst 0, 26, [], none), (26, .istore 4, 28, [], none), (28, .iload 4, 30, [], some [0, 1, 2, 3, 4]), (30, .iload_n 1, 31, [], none), (31, .if_icmp .ge 40, 34, [71], none), (34, .iload 4, 36, [], none), (36, .invokestatic 257, 39, [277, 1, 1, 0, 565, 62, 63], none), (39, .istore 5, 41, [], none), (41, .iload 5, 43, [], none), (43, .iload_n 3, 44, [], none), (44, .if_icmp .ge 21, 47, [65], none), (47, .aload_n 0, 48, [], none), (48, .getfield 85, 51, [11, 11, 2, 479, 0], none), (51, .iload 4, 53, [], none), (53, .invokevirtual 262, 56, [102, 1, 1, 2, 566, 567, 568, 386], none), (56, .ifCond .eq 9, 59, [65], none), (59, .iload 4, 61, [], none), (61, .istore_n 2, 62, [], none), (62, .iload 5, 64, [], none), (64, .istore_n 3, 65, [], none), (65, .iinc 4 1, 68, [], some [0, 1, 2, 3, 4]), (68, .goto (-40), 71, [28], none), (71, .iload_n 2, 72, [], some [2]), (72, .ireturn, 73, [0], none)]
def zc_X11_waits : List zE := [(0, .aload_n 0, 1, [], none), (1, .getfield 42, 4, [11, 6, 2, 457, 0], none), (4, .iload_n 1, 5, [], none), (5, .iload_n 2, 6, [], none), (6, .invokevirtual 180, 9, [27, 2, 1, 8, 523, 381, 382, 60], none), (9, .ifCond .eq 12, 12, [21], none), (12, .iload_n 3, 13, [], none), (13, .iconst 0, 14, [], none), (14, .iconst 1, 15, [], none), (15, .invokestatic 109, 18, [145, 3, 1, 0, 491, 221, 222], none), (18, .ifCond .ne 6, 21, [24], none), (21, .ldc 240, 23, [0, 4294867296, 551], some []), (23, .ireturn, 24, [0], none), (24, .iconst 0, 25, [], some [0, 1, 2, 3]), (25, .istore 4, 27, [], none), (27, .aload_n 0, 28, [], none), (28, .iload_n 1, 29, [], none), (29, .iload_n 2, 30, [], none), (30, .iconst 0, 31, [], none), (31, .invokevirtual 265, 34, [150, 3, 1, 11, 569, 570, 571, 222], none), (34, .istore 5, 36, [], none), (36, .iconst 1, 37, [], none), (37, .istore 6, 39, [], none), (39, .iload 6, 41, [], some [0, 1, 2, 3, 4, 5, 6]), (41, .bipush 24, 43, [], none), (43, .if_icmp .gt 34, 46, [77], none), (46, .aload_n 0, 47, [], none), (47, .iload_n 1, 48, [], none), (48, .iload_n 2, 49, [], none), (49, .iload 6, 51, [], none), (51, .invokevirtual 265, 54, [150, 3, 1, 11, 569, 570, 571, 222], none), (54, .istore 7, 56, [], none), (56, .iload 7, 58, [], none), (58, .iload 5, 60, [], none), (60, .if_icmp .le 11, 63, [71], none), (63, .iload 6, 65, [], none), (65, .istore 4, 67, [], none), (67, .iload 7, 69, [], none), (69, .istore 5, 71, [], none), (71, .iinc 6 1, 74, [], some [0, 1, 2, 3, 4, 5, 6]), (74, .goto (-35), 77, [39], none), (77, .iload_n 3, 78, [], some [3, 4, 5]), (78, .ifCond .ne 8, 81, [86], none), (81, .iload 4, 83, [], none), (83, .goto 5, 86, [88], none), (86, .iload 5, 88, [], some [5]), (88, .ireturn, 89, [0], some [])]
def zc_X11_then : List zE := [(0, .aload_n 0, 1, [], none), (1, .getfield 42, 4, [11, 6, 2, 457, 0], none), (4, .getfield 133, 7, [8, 0, 2, 507, 1], none), (7, .iload_n 1, 8, [], none), (8, .invokevirtual 143, 11, [2, 1, 1, 9, 510, 65, 66, 11], none), (11, .ifCond .eq 22, 14, [33], none), (14, .iload_n 2, 15, [], none), (15, .iconst 0, 16, [], none), (16, .bipush 72, 18, [], none), (18, .invokestatic 109, 21, [145, 3, 1, 0, 491, 221, 222], none), (21, .ifCond .eq 12, 24, [33], none), (24, .iload_n 3, 25, [], none), (25, .iconst 0, 26, [], none), (26, .iconst 2, 27, [], none), (27, .invokestatic 109, 30, [145, 3, 1, 0, 491, 221, 222], none), (30, .ifCond .ne 5, 33, [35], none), (33, .iconst (-1), 34, [], some []), (34, .ireturn, 35, [0], none), (35, .aload_n 0, 36, [], some [0, 1, 2, 3]), (36, .iload_n 2, 37, [], none), (37, .aload_n 0, 38, [], none), (38, .getfield 23, 41, [11, 3, 2, 448, 0], none), (41, .getfield 198, 44, [5, 4, 0, 533, 1], none), (44, .invokevirtual 269, 47, [151, 2, 0, 11, 572, 573, 574, 222], none), (47, .iload_n 3, 48, [], none), (48, .ifCond .ne 16, 51, [64], none), (51, .aload_n 0, 52, [], none), (52, .getfield 46, 55, [11, 7, 2, 458, 0], none), (55, .getfield 133, 58, [8, 0, 2, 507, 1], none), (58, .iload_n 1, 59, [], none), (59, .iconst 3, 60, [], none), (60, .invokevirtual 136, 63, [5, 2, 1, 9, 508, 55, 56, 11], none), (63, .ireturn, 64, [0], none), (64, .aload_n 0, 65, [], some [0, 1, 3]), (65, .getfield 46, 68, [11, 7, 2, 458, 0], none), (68, .getfield 133, 71, [8, 0, 2, 507, 1], none), (71, .iload_n 1, 72, [], none), (72, .iload_n 3, 73, [], none), (73, .iconst 1, 74, [], none), (74, .if_icmp .ne 7, 77, [81], none), (77, .iconst 0, 78, [], none), (78, .goto 4, 81, [82], none), (81, .iconst 4, 82, [], some []), (82, .invokevirtual 136, 85, [5, 2, 1, 9, 508, 55, 56, 11], some []), (85, .ireturn, 86, [0], none)]
def zc_X11_earns : List zE := [(0, .iload_n 1, 1, [], none), (1, .iconst 0, 2, [], none), (2, .bipush 72, 4, [], none), (4, .invokestatic 109, 7, [145, 3, 1, 0, 491, 221, 222], none), (7, .ifCond .ne 5, 10, [12], none), (10, .iconst (-1), 11, [], none), (11, .ireturn, 12, [0], none), (12, .aload_n 0, 13, [], some [0, 1]), (13, .iload_n 1, 14, [], none), (14, .aload_n 0, 15, [], none), (15, .getfield 23, 18, [11, 3, 2, 448, 0], none), (18, .getfield 198, 21, [5, 4, 0, 533, 1], none), (21, .invokevirtual 269, 24, [151, 2, 0, 11, 572, 573, 574, 222], none), (24, .aload_n 0, 25, [], none), (25, .getfield 46, 28, [11, 7, 2, 458, 0], none), (28, .getfield 272, 31, [8, 4, 0, 575, 1], none), (31, .aload_n 0, 32, [], none), (32, .getfield 42, 35, [11, 6, 2, 457, 0], none), (35, .getfield 272, 38, [8, 4, 0, 575, 1], none), (38, .isub, 39, [], none), (39, .ireturn, 40, [0], none)]
def zc_X11_year : List zE := [(0, .aload_n 0, 1, [], none), (1, .getfield 42, 4, [11, 6, 2, 457, 0], none), (4, .getfield 133, 7, [8, 0, 2, 507, 1], none), (7, .iload_n 1, 8, [], none), (8, .invokevirtual 143, 11, [2, 1, 1, 9, 510, 65, 66, 11], none), (11, .ifCond .eq 23, 14, [34], none), (14, .iload_n 2, 15, [], none), (15, .iconst 0, 16, [], none), (16, .bipush 72, 18, [], none), (18, .invokestatic 109, 21, [145, 3, 1, 0, 491, 221, 222], none), (21, .ifCond .eq 13, 24, [34], none), (24, .iload_n 3, 25, [], none), (25, .iconst 1, 26, [], none), (26, .bipush 20, 28, [], none), (28, .invokestatic 109, 31, [145, 3, 1, 0, 491, 221, 222], none), (31, .ifCond .ne 5, 34, [36], none), (34, .iconst (-1), 35, [], some []), (35, .ireturn, 36, [0], none), (36, .iconst 0, 37, [], some [0, 1, 2, 3]), (37, .istore 4, 39, [], none), (39, .iconst 0, 40, [], none), (40, .istore 5, 42, [], none), (42, .iload 5, 44, [], some [0, 1, 2, 3, 4, 5]), (44, .iload_n 3, 45, [], none), (45, .if_icmp .ge 43, 48, [88], none), (48, .aload_n 0, 49, [], none), (49, .iload_n 2, 50, [], none), (50, .aload_n 0, 51, [], none), (51, .getfield 23, 54, [11, 3, 2, 448, 0], none), (54, .getfield 198, 57, [5, 4, 0, 533, 1], none), (57, .iload 5, 59, [], none), (59, .iadd, 60, [], none), (60, .invokevirtual 269, 63, [151, 2, 0, 11, 572, 573, 574, 222], none), (63, .aload_n 0, 64, [], none), (64, .getfield 46, 67, [11, 7, 2, 458, 0], none), (67, .getfield 133, 70, [8, 0, 2, 507, 1], none), (70, .iload_n 1, 71, [], none), (71, .iconst 3, 72, [], none), (72, .invokevirtual 136, 75, [5, 2, 1, 9, 508, 55, 56, 11], none), (75, .iconst 2, 76, [], none), (76, .if_icmp .ne 6, 79, [82], none), (79, .iinc 4 1, 82, [], none), (82, .iinc 5 1, 85, [], some [0, 1, 2, 3, 4, 5]), (85, .goto (-43), 88, [42], none), (88, .iload 4, 90, [], some [4]), (90, .ireturn, 91, [0], none)]
def zc_X11_tell : List zE := [(0, .iload_n 1, 1, [], none), (1, .iconst 1, 2, [], none), (2, .bipush 9, 4, [], none), (4, .invokestatic 109, 7, [145, 3, 1, 0, 491, 221, 222], none), (7, .ifCond .eq 49, 10, [56], none), (10, .iload_n 2, 11, [], none), (11, .iconst 1, 12, [], none), (12, .bipush 9, 14, [], none), (14, .invokestatic 109, 17, [145, 3, 1, 0, 491, 221, 222], none), (17, .ifCond .eq 39, 20, [56], none), (20, .iload_n 3, 21, [], none), (21, .iconst 0, 22, [], none), (22, .bipush 19, 24, [], none), (24, .invokestatic 109, 27, [145, 3, 1, 0, 491, 221, 222], none), (27, .ifCond .eq 29, 30, [56], none), (30, .iload 4, 32, [], none), (32, .iconst 1, 33, [], none), (33, .bipush 9, 35, [], none), (35, .invokestatic 109, 38, [145, 3, 1, 0, 491, 221, 222], none), (38, .ifCond .eq 18, 41, [56], none), (41, .iload 5, 43, [], some [0, 1, 2, 3, 4, 5]), (43, .iconst 0, 44, [], none), (44, .bipush 19, 46, [], none), (46, .invokestatic 109, 49, [145, 3, 1, 0, 491, 221, 222], none), (49, .ifCond .eq 7, 52, [56], none), (52, .iconst 1, 53, [], none), (53, .goto 4, 56, [57], none), (56, .iconst 0, 57, [], some [0, 1, 2, 3, 4, 5]), (57, .istore 6, 59, [], some [0, 1, 2, 3, 4, 5]), (59, .iload 6, 61, [], none), (61, .ifCond .eq 13, 64, [74], none), (64, .aload_n 0, 65, [], none), (65, .getfield 101, 68, [11, 13, 2, 487, 0], none), (68, .invokevirtual 275, 71, [3, 0, 1, 9, 576, 9, 10, 11], none), (71, .ifCond .eq 5, 74, [76], none), (74, .iconst (-1), 75, [], some []), (75, .ireturn, 76, [0], none), (76, .aload_n 0, 77, [], some [0, 1, 2, 3, 4, 5]), (77, .getfield 101, 80, [11, 13, 2, 487, 0], none), (80, .invokevirtual 278, 83, [7, 0, 1, 9, 577, 212, 213, 11], none), (83, .istore 7, 85, [], none), (85, .aload_n 0, 86, [], none), (86, .getfield 101, 89, [11, 13, 2, 487, 0], none), (89, .iload 7, 91, [], none), (91, .iconst 0, 92, [], none), (92, .iload_n 1, 93, [], none), (93, .invokevirtual 192, 96, [6, 3, 0, 9, 531, 13, 14, 11], none), (96, .aload_n 0, 97, [], none), (97, .getfield 101, 100, [11, 13, 2, 487, 0], none), (100, .iload 7, 102, [], none), (102, .iconst 1, 103, [], none), (103, .iload_n 2, 104, [], none), (104, .invokevirtual 192, 107, [6, 3, 0, 9, 531, 13, 14, 11], none), (107, .aload_n 0, 108, [], none), (108, .getfield 101, 111, [11, 13, 2, 487, 0], none), (111, .iload 7, 113, [], none), (113, .iconst 2, 114, [], none), (114, .iload_n 3, 115, [], none), (115, .invokevirtual 192, 118, [6, 3, 0, 9, 531, 13, 14, 11], none), (118, .aload_n 0, 119, [], some [0, 4, 5, 7]), (119, .getfield 101, 122, [11, 13, 2, 487, 0], none), (122, .iload 7, 124, [], none), (124, .iconst 3, 125, [], none), (125, .iload 4, 127, [], none), (127, .invokevirtual 192, 130, [6, 3, 0, 9, 531, 13, 14, 11], none), (130, .aload_n 0, 131, [], none), (131, .getfield 101, 134, [11, 13, 2, 487, 0], none), (134, .iload 7, 136, [], none), (136, .iconst 4, 137, [], none), (137, .iload 5, 139, [], none), (139, .invokevirtual 192, 142, [6, 3, 0, 9, 531, 13, 14, 11], none), (142, .iload 7, 144, [], none), (144, .ireturn, 145, [0], none)]
def zc_X11_forget : List zE := [(0, .aload_n 0, 1, [], none), (1, .getfield 101, 4, [11, 13, 2, 487, 0], none), (4, .invokevirtual 251, 7, [1, 0, 1, 9, 561, 52, 53, 11], none), (7, .istore_n 1, 8, [], none), (8, .aload_n 0, 9, [], none), (9, .getfield 101, 12, [11, 13, 2, 487, 0], none), (12, .invokevirtual 132, 15, [4, 0, 0, 9, 506, 46, 47, 11], none), (15, .iload_n 1, 16, [], none), (16, .ireturn, 17, [0], none)]
def zc_X11_pulls : List zE := [(0, .iload_n 1, 1, [], none), (1, .iconst 0, 2, [], none), (2, .aload_n 0, 3, [], none), (3, .getfield 101, 6, [11, 13, 2, 487, 0], none), (6, .invokevirtual 251, 9, [1, 0, 1, 9, 561, 52, 53, 11], none), (9, .invokestatic 109, 12, [145, 3, 1, 0, 491, 221, 222], none), (12, .ifCond .eq 12, 15, [24], none), (15, .iload_n 2, 16, [], none), (16, .iconst 0, 17, [], none), (17, .iconst 1, 18, [], none), (18, .invokestatic 109, 21, [145, 3, 1, 0, 491, 221, 222], none), (21, .ifCond .ne 5, 24, [26], none), (24, .iconst (-1), 25, [], some []), (25, .ireturn, 26, [0], none), (26, .aload_n 0, 27, [], some [0, 1, 2]), (27, .iload_n 1, 28, [], none), (28, .invokevirtual 281, 31, [153, 1, 1, 11, 578, 579, 580, 222], none), (31, .istore_n 3, 32, [], none), (32, .iload_n 2, 33, [], none), (33, .ifCond .ne 10, 36, [43], none), (36, .iload_n 3, 37, [], none), (37, .invokestatic 257, 40, [277, 1, 1, 0, 565, 62, 63], none), (40, .goto 4, 43, [44], none), (43, .iload_n 3, 44, [], some [3]), (44, .ireturn, 45, [0], some [])]
def zc_X11_sure : List zE := [(0, .iload_n 1, 1, [], none), (1, .iconst 0, 2, [], none), (2, .aload_n 0, 3, [], none), (3, .getfield 101, 6, [11, 13, 2, 487, 0], none), (6, .invokevirtual 251, 9, [1, 0, 1, 9, 561, 52, 53, 11], none), (9, .invokestatic 109, 12, [145, 3, 1, 0, 491, 221, 222], none), (12, .ifCond .ne 7, 15, [19], none), (15, .sipush (-1000), 18, [], none), (18, .ireturn, 19, [0], none), (19, .aload_n 0, 20, [], some [0, 1]), (20, .iload_n 1, 21, [], none), (21, .invokevirtual 281, 24, [153, 1, 1, 11, 578, 579, 580, 222], none), (24, .istore_n 2, 25, [], none), (25, .bipush (-3), 27, [], none), (27, .istore_n 3, 28, [], none), (28, .iload_n 3, 29, [], some [2, 3]), (29, .iconst 3, 30, [], none), (30, .if_icmp .gt 19, 33, [49], none), (33, .iload_n 2, 34, [], none), (34, .iload_n 3, 35, [], none), (35, .invokestatic 284, 38, [152, 1, 1, 0, 581, 582, 222], none), (38, .if_icmp .ne 5, 41, [43], none), (41, .iload_n 3, 42, [], none), (42, .ireturn, 43, [0], none), (43, .iinc 3 1, 46, [], some [2, 3]), (46, .goto (-18), 49, [28], none), (49, .bipush (-100), 51, [], some []), (51, .ireturn, 52, [0], none)]
def zc_X11_hold : List zE := [(0, .aload_n 0, 1, [], none), (1, .getfield 92, 4, [11, 12, 2, 484, 0], none), (4, .iload_n 1, 5, [], none), (5, .aload_n 0, 6, [], none), (6, .getfield 42, 9, [11, 6, 2, 457, 0], none), (9, .invokevirtual 287, 12, [110, 2, 1, 4, 583, 584, 585, 439], none), (12, .ireturn, 13, [1], none)]
def zc_X11_restore : List zE := [(0, .aload_n 0, 1, [], none), (1, .getfield 92, 4, [11, 12, 2, 484, 0], none), (4, .iload_n 1, 5, [], none), (5, .aload_n 0, 6, [], none), (6, .getfield 42, 9, [11, 6, 2, 457, 0], none), (9, .invokevirtual 291, 12, [111, 2, 1, 4, 586, 587, 588, 439], none), (12, .ireturn, 13, [1], none)]
def zc_X11_count : List zE := [(0, .iload_n 1, 1, [], none), (1, .tableswitch 239 0 15 #[79, 90, 101, 112, 120, 129, 138, 147, 156, 164, 172, 177, 185, 193, 201, 231], 80, [240, 80, 91, 102, 113, 121, 130, 139, 148, 157, 165, 173, 178, 186, 194, 202, 232], none), (80, .aload_n 0, 81, [], some [0]), (81, .getfield 42, 84, [11, 6, 2, 457, 0], none), (84, .getfield 133, 87, [8, 0, 2, 507, 1], none), (87, .invokevirtual 251, 90, [1, 0, 1, 9, 561, 52, 53, 11], none), (90, .ireturn, 91, [0], none), (91, .aload_n 0, 92, [], some [0]), (92, .getfield 42, 95, [11, 6, 2, 457, 0], none), (95, .getfield 140, 98, [8, 1, 2, 509, 1], none), (98, .invokevirtual 251, 101, [1, 0, 1, 9, 561, 52, 53, 11], none), (101, .ireturn, 102, [0], none), (102, .aload_n 0, 103, [], some [0]), (103, .getfield 42, 106, [11, 6, 2, 457, 0], none), (106, .getfield 147, 109, [8, 2, 2, 511, 1], none), (109, .invokevirtual 251, 112, [1, 0, 1, 9, 561, 52, 53, 11], none), (112, .ireturn, 113, [0], none), (113, .aload_n 0, 114, [], some [0]), (114, .getfield 42, 117, [11, 6, 2, 457, 0], none), (117, .getfield 150, 120, [8, 3, 0, 512, 1], none), (120, .ireturn, 121, [0], none), (121, .aload_n 0, 122, [], some [0]), (122, .getfield 42, 125, [11, 6, 2, 457, 0], none), (125, .iconst 0, 126, [], none), (126, .invokevirtual 294, 129, [22, 1, 1, 8, 589, 58, 59, 60], none), (129, .ireturn, 130, [0], none), (130, .aload_n 0, 131, [], some [0]), (131, .getfield 42, 134, [11, 6, 2, 457, 0], none), (134, .iconst 1, 135, [], none), (135, .invokevirtual 294, 138, [22, 1, 1, 8, 589, 58, 59, 60], none), (138, .ireturn, 139, [0], none), (139, .aload_n 0, 140, [], some [0]), (140, .getfield 42, 143, [11, 6, 2, 457, 0], none), (143, .iconst 2, 144, [], none), (144, .invokevirtual 294, 147, [22, 1, 1, 8, 589, 58, 59, 60], none), (147, .ireturn, 148, [0], none), (148, .aload_n 0, 149, [], some [0]), (149, .getfield 42, 152, [11, 6, 2, 457, 0], none), (152, .iconst 3, 153, [], none), (153, .invokevirtual 294, 156, [22, 1, 1, 8, 589, 58, 59, 60], none), (156, .ireturn, 157, [0], none), (157, .aload_n 0, 158, [], some [0]), (158, .getfield 42, 161, [11, 6, 2, 457, 0], none), (161, .getfield 272, 164, [8, 4, 0, 575, 1], none), (164, .ireturn, 165, [0], none), (165, .aload_n 0, 166, [], some [0]), (166, .getfield 42, 169, [11, 6, 2, 457, 0], none), (169, .getfield 189, 172, [8, 5, 0, 530, 1], none), (172, .ireturn, 173, [0], none), (173, .aload_n 0, 174, [], some [0]), (174, .getfield 13, 177, [11, 1, 0, 442, 0], none), (177, .ireturn, 178, [0], none), (178, .aload_n 0, 179, [], some [0]), (179, .getfield 92, 182, [11, 12, 2, 484, 0], none), (182, .invokevirtual 297, 185, [105, 0, 1, 4, 590, 591, 592, 439], none), (185, .ireturn, 186, [0], none), (186, .aload_n 0, 187, [], some [0]), (187, .getfield 101, 190, [11, 13, 2, 487, 0], none), (190, .invokevirtual 251, 193, [1, 0, 1, 9, 561, 52, 53, 11], none), (193, .ireturn, 194, [0], none), (194, .aload_n 0, 195, [], some [0]), (195, .getfield 92, 198, [11, 12, 2, 484, 0], none), (198, .invokevirtual 300, 201, [106, 0, 1, 4, 593, 594, 595, 439], none), (201, .ireturn, 202, [0], none), (202, .aload_n 0, 203, [], some [0]), (203, .getfield 67, 206, [11, 9, 2, 469, 0], none), (206, .aload_n 0, 207, [], none), (207, .getfield 42, 210, [11, 6, 2, 457, 0], none), (210, .getfield 150, 213, [8, 3, 0, 512, 1], none), (213, .aload_n 0, 214, [], none), (214, .getfield 23, 217, [11, 3, 2, 448, 0], none), (217, .getfield 198, 220, [5, 4, 0, 533, 1], none), (220, .invokevirtual 303, 223, [80, 2, 1, 0, 596, 298, 299, 290], none), (223, .ifCond .eq 7, 226, [230], none), (226, .iconst 1, 227, [], none), (227, .goto 4, 230, [231], none), (230, .iconst 0, 231, [], some []), (231, .ireturn, 232, [0], some []), (232, .aload_n 0, 233, [], some [0]), (233, .getfield 23, 236, [11, 3, 2, 448, 0], none), (236, .getfield 306, 239, [5, 2, 0, 597, 1], none), (239, .ireturn, 240, [0], none), (240, .iconst (-1), 241, [], some []), (241, .ireturn, 242, [0], none)]
def zc_X11_isWithin : List zE := [(0, .iload_n 0, 1, [], none), (1, .iload_n 1, 2, [], none), (2, .if_icmp .lt 12, 5, [14], none), (5, .iload_n 0, 6, [], none), (6, .iload_n 2, 7, [], none), (7, .if_icmp .gt 7, 10, [14], none), (10, .iconst 1, 11, [], none), (11, .goto 4, 14, [15], none), (14, .iconst 0, 15, [], some []), (15, .ireturn, 16, [1], some [])]
def zc_X11_keptWithin : List zE := [(0, .iload_n 1, 1, [], none), (1, .iload_n 2, 2, [], none), (2, .iload_n 0, 3, [], none), (3, .invokestatic 309, 6, [275, 2, 1, 0, 598, 16, 17], none), (6, .invokestatic 314, 9, [274, 2, 1, 0, 599, 410, 17], none), (9, .ireturn, 10, [0], none)]
def zc_X11_appendBytes : List zE := [(0, .bipush 24, 2, [], none), (2, .istore_n 2, 3, [], none), (3, .iload_n 2, 4, [], some [0, 1, 2]), (4, .ifCond .lt 44, 7, [48], none), (7, .aload_n 0, 8, [], none), (8, .getfield 13, 11, [11, 1, 0, 442, 0], none), (11, .aload_n 0, 12, [], none), (12, .getfield 9, 15, [11, 0, 2, 441, 0], none), (15, .arraylength, 16, [21], none), (16, .if_icmp .ge 26, 19, [42], none), (19, .aload_n 0, 20, [], none), (20, .getfield 9, 23, [11, 0, 2, 441, 0], none), (23, .aload_n 0, 24, [], none), (24, .getfield 13, 27, [11, 1, 0, 442, 0], none), (27, .iload_n 1, 28, [], none), (28, .iload_n 2, 29, [], none), (29, .iushr, 30, [], none), (30, .i2b, 31, [], none), (31, .bastore, 32, [21], none), (32, .aload_n 0, 33, [], none), (33, .dup, 34, [], none), (34, .getfield 13, 37, [11, 1, 0, 442, 0], none), (37, .iconst 1, 38, [], none), (38, .iadd, 39, [], none), (39, .putfield 13, 42, [11, 1, 0, 442, 0, 0], none), (42, .iinc 2 (-8), 45, [], some [0, 1, 2]), (45, .goto (-42), 48, [3], none), (48, .return_, 49, [], some [])]
def zc_X11_isPair : List zE := [(0, .aload_n 0, 1, [], none), (1, .getfield 42, 4, [11, 6, 2, 457, 0], none), (4, .getfield 133, 7, [8, 0, 2, 507, 1], none), (7, .iload_n 1, 8, [], none), (8, .invokevirtual 143, 11, [2, 1, 1, 9, 510, 65, 66, 11], none), (11, .ifCond .eq 21, 14, [32], none), (14, .aload_n 0, 15, [], none), (15, .getfield 42, 18, [11, 6, 2, 457, 0], none), (18, .getfield 140, 21, [8, 1, 2, 509, 1], none), (21, .iload_n 2, 22, [], none), (22, .invokevirtual 143, 25, [2, 1, 1, 9, 510, 65, 66, 11], none), (25, .ifCond .eq 7, 28, [32], none), (28, .iconst 1, 29, [], none), (29, .goto 4, 32, [33], none), (32, .iconst 0, 33, [], some []), (33, .ireturn, 34, [1], some [])]
def zc_X11_comesTo : List zE := [(0, .iload_n 3, 1, [], none), (1, .bipush (-3), 3, [], none), (3, .iconst 3, 4, [], none), (4, .invokestatic 109, 7, [145, 3, 1, 0, 491, 221, 222], none), (7, .ifCond .ne 5, 10, [12], none), (10, .iconst 0, 11, [], none), (11, .ireturn, 12, [1], none), (12, .aload_n 0, 13, [], some [0, 1, 2, 3, 4]), (13, .getfield 76, 16, [11, 10, 2, 474, 0], none), (16, .iload_n 1, 17, [], none), (17, .iload_n 2, 18, [], none), (18, .iload_n 3, 19, [], none), (19, .iconst 0, 20, [], none), (20, .invokevirtual 209, 23, [89, 4, 0, 1, 540, 394, 395, 359], none), (23, .aload_n 0, 24, [], none), (24, .getfield 76, 27, [11, 10, 2, 474, 0], none), (27, .getfield 219, 30, [1, 5, 0, 543, 1], none), (30, .iload 4, 32, [], none), (32, .if_icmp .ne 7, 35, [39], none), (35, .iconst 1, 36, [], none), (36, .goto 4, 39, [40], none), (39, .iconst 0, 40, [], some []), (40, .ireturn, 41, [1], some [])]
def zc_X11_gainBehind : List zE := [(0, .aload_n 0, 1, [], none), (1, .getfield 76, 4, [11, 10, 2, 474, 0], none), (4, .iload_n 1, 5, [], none), (5, .iload_n 2, 6, [], none), (6, .aload_n 0, 7, [], none), (7, .getfield 42, 10, [11, 6, 2, 457, 0], none), (10, .getfield 140, 13, [8, 1, 2, 509, 1], none), (13, .iload_n 2, 14, [], none), (14, .iconst 3, 15, [], none), (15, .invokevirtual 136, 18, [5, 2, 1, 9, 508, 55, 56, 11], none), (18, .iload_n 3, 19, [], none), (19, .invokevirtual 209, 22, [89, 4, 0, 1, 540, 394, 395, 359], none), (22, .aload_n 0, 23, [], none), (23, .getfield 58, 26, [11, 8, 2, 464, 0], none), (26, .aload_n 0, 27, [], none), (27, .getfield 42, 30, [11, 6, 2, 457, 0], none), (30, .getfield 150, 33, [8, 3, 0, 512, 1], none), (33, .iload_n 3, 34, [], none), (34, .iadd, 35, [], none), (35, .iconst 0, 36, [], none), (36, .aload_n 0, 37, [], none), (37, .getfield 42, 40, [11, 6, 2, 457, 0], none), (40, .invokevirtual 156, 43, [24, 0, 1, 8, 514, 305, 306, 60], none), (43, .invokevirtual 159, 46, [69, 3, 0, 7, 515, 308, 309, 261], none), (46, .aload_n 0, 47, [], some [0, 1, 2, 3]), (47, .getfield 58, 50, [11, 8, 2, 464, 0], none), (50, .aload_n 0, 51, [], none), (51, .getfield 42, 54, [11, 6, 2, 457, 0], none), (54, .getfield 140, 57, [8, 1, 2, 509, 1], none), (57, .iload_n 2, 58, [], none), (58, .iconst 0, 59, [], none), (59, .invokevirtual 136, 62, [5, 2, 1, 9, 508, 55, 56, 11], none), (62, .aload_n 0, 63, [], none), (63, .getfield 42, 66, [11, 6, 2, 457, 0], none), (66, .getfield 133, 69, [8, 0, 2, 507, 1], none), (69, .iload_n 1, 70, [], none), (70, .iconst 1, 71, [], none), (71, .invokevirtual 136, 74, [5, 2, 1, 9, 508, 55, 56, 11], none), (74, .invokevirtual 170, 77, [72, 2, 1, 7, 518, 404, 405, 261], none), (77, .istore 4, 79, [], none), (79, .aload_n 0, 80, [], none), (80, .getfield 76, 83, [11, 10, 2, 474, 0], none), (83, .getfield 317, 86, [1, 7, 0, 600, 1], none), (86, .iload 4, 88, [], none), (88, .isub, 89, [], none), (89, .iload_n 3, 90, [], none), (90, .isub, 91, [], none), (91, .ireturn, 92, [0], none)]
def zc_X11_tryHours : List zE := [(0, .aload_n 0, 1, [], none), (1, .getfield 46, 4, [11, 7, 2, 458, 0], none), (4, .aload_n 0, 5, [], none), (5, .getfield 42, 8, [11, 6, 2, 457, 0], none), (8, .invokevirtual 126, 11, [21, 1, 0, 8, 502, 101, 102, 60], none), (11, .aload_n 0, 12, [], none), (12, .getfield 67, 15, [11, 9, 2, 469, 0], none), (15, .aload_n 0, 16, [], none), (16, .getfield 46, 19, [11, 7, 2, 458, 0], none), (19, .iload_n 1, 20, [], none), (20, .iload_n 2, 21, [], none), (21, .invokevirtual 201, 24, [82, 3, 0, 0, 534, 535, 536, 290], none), (24, .return_, 25, [], none)]
def zc_X11_bitOf : List zE := [(0, .iconst 1, 1, [], none), (1, .iload_n 0, 2, [], none), (2, .iconst 3, 3, [], none), (3, .iadd, 4, [], none), (4, .ishl, 5, [], none), (5, .ireturn, 6, [0], none)]
def zc_X11_pullsKnownBy : List zE := [(0, .iconst 0, 1, [], none), (1, .istore_n 2, 2, [], none), (2, .bipush (-3), 4, [], none), (4, .istore_n 3, 5, [], none), (5, .iload_n 3, 6, [], some [0, 1, 2, 3]), (6, .iconst 3, 7, [], none), (7, .if_icmp .gt 25, 10, [32], none), (10, .aload_n 0, 11, [], none), (11, .iload_n 1, 12, [], none), (12, .iload_n 3, 13, [], none), (13, .invokevirtual 318, 16, [154, 2, 1, 11, 601, 602, 603, 222], none), (16, .ifCond .eq 10, 19, [26], none), (19, .iload_n 2, 20, [], none), (20, .iload_n 3, 21, [], none), (21, .invokestatic 284, 24, [152, 1, 1, 0, 581, 582, 222], none), (24, .ior, 25, [], none), (25, .istore_n 2, 26, [], none), (26, .iinc 3 1, 29, [], some [0, 1, 2, 3]), (29, .goto (-24), 32, [5], none), (32, .iload_n 2, 33, [], some [2]), (33, .ireturn, 34, [0], none)]
def zc_X11_fitsKnown : List zE := [(0, .iconst 0, 1, [], none), (1, .istore_n 3, 2, [], none), (2, .iload_n 3, 3, [], some [0, 1, 2, 3]), (3, .iload_n 1, 4, [], none), (4, .if_icmp .ge 91, 7, [95], none), (7, .aload_n 0, 8, [], none), (8, .getfield 76, 11, [11, 10, 2, 474, 0], none), (11, .aload_n 0, 12, [], none), (12, .getfield 101, 15, [11, 13, 2, 487, 0], none), (15, .iload_n 3, 16, [], none), (16, .iconst 0, 17, [], none), (17, .invokevirtual 136, 20, [5, 2, 1, 9, 508, 55, 56, 11], none), (20, .aload_n 0, 21, [], none), (21, .getfield 101, 24, [11, 13, 2, 487, 0], none), (24, .iload_n 3, 25, [], none), (25, .iconst 1, 26, [], none), (26, .invokevirtual 136, 29, [5, 2, 1, 9, 508, 55, 56, 11], none), (29, .iload_n 2, 30, [], none), (30, .aload_n 0, 31, [], none), (31, .getfield 101, 34, [11, 13, 2, 487, 0], none), (34, .iload_n 3, 35, [], none), (35, .iconst 2, 36, [], none), (36, .invokevirtual 136, 39, [5, 2, 1, 9, 508, 55, 56, 11], none), (39, .aload_n 0, 40, [], none), (40, .getfield 42, 43, [11, 6, 2, 457, 0], none), (43, .getfield 150, 46, [8, 3, 0, 512, 1], none), (46, .aload_n 0, 47, [], none), (47, .getfield 101, 50, [11, 13, 2, 487, 0], none), (50, .iload_n 3, 51, [], none), (51, .iconst 3, 52, [], none), (52, .invokevirtual 136, 55, [5, 2, 1, 9, 508, 55, 56, 11], none), (55, .invokevirtual 232, 58, [90, 6, 0, 1, 549, 357, 358, 359], none), (58, .aload_n 0, 59, [], some [0, 1, 2, 3]), (59, .getfield 76, 62, [11, 10, 2, 474, 0], none), (62, .getfield 216, 65, [1, 4, 0, 542, 1], none), (65, .ifCond .ne 22, 68, [87], none), (68, .aload_n 0, 69, [], none), (69, .getfield 76, 72, [11, 10, 2, 474, 0], none), (72, .getfield 222, 75, [1, 6, 0, 544, 1], none), (75, .aload_n 0, 76, [], none), (76, .getfield 101, 79, [11, 13, 2, 487, 0], none), (79, .iload_n 3, 80, [], none), (80, .iconst 4, 81, [], none), (81, .invokevirtual 136, 84, [5, 2, 1, 9, 508, 55, 56, 11], none), (84, .if_icmp .eq 5, 87, [89], none), (87, .iconst 0, 88, [], some []), (88, .ireturn, 89, [1], none), (89, .iinc 3 1, 92, [], some [0, 1, 2, 3]), (92, .goto (-90), 95, [2], none), (95, .iconst 1, 96, [], some []), (96, .ireturn, 97, [1], none)]
def zc_X12_init : List zE := [(0, .aload_n 0, 1, [], none), (1, .invokespecial 7, 4, [9998, 604, 1, 2], none), (4, .aload_n 0, 5, [], none), (5, .sipush 2000, 8, [], none), (8, .newarray .byte, 10, [21, 113], none), (10, .putfield 13, 13, [12, 1, 2, 605, 0, 1], none), (13, .aload_n 0, 14, [], some [0]), (14, .sipush 2000, 17, [], none), (17, .newarray .byte, 19, [21, 113], none), (19, .putfield 17, 22, [12, 3, 2, 606, 0, 1], none), (22, .aload_n 0, 23, [], some [0]), (23, .sipush 403, 26, [], none), (26, .newarray .int, 28, [20, 5], none), (28, .putfield 20, 31, [12, 5, 2, 607, 0, 1], none), (31, .aload_n 0, 32, [], some [0]), (32, .sipush 403, 35, [], none), (35, .newarray .int, 37, [20, 5], none), (37, .putfield 24, 40, [12, 6, 2, 608, 0, 1], none), (40, .aload_n 0, 41, [], some [0]), (41, .sipush 403, 44, [], none), (44, .newarray .int, 46, [20, 5], none), (46, .putfield 27, 49, [12, 7, 2, 609, 0, 1], none), (49, .aload_n 0, 50, [], some [0]), (50, .sipush 403, 53, [], none), (53, .newarray .long, 55, [23, 107], none), (55, .putfield 30, 58, [12, 8, 2, 610, 0, 1], none), (58, .aload_n 0, 59, [], some [0]), (59, .bipush 22, 61, [], none), (61, .newarray .long, 63, [23, 107], none), (63, .putfield 34, 66, [12, 9, 2, 611, 0, 1], none), (66, .aload_n 0, 67, [], some [0]), (67, .iconst (-1), 68, [], none), (68, .putfield 37, 71, [12, 17, 0, 612, 0, 0], none), (71, .aload_n 0, 72, [], none), (72, .bipush 17, 74, [], none), (74, .newarray .long, 76, [23, 107], none), (76, .putfield 40, 79, [12, 21, 2, 613, 0, 1], none), (79, .aload_n 0, 80, [], some [0]), (80, .iconst 2, 81, [], none), (81, .newarray .int, 83, [20, 5], none), (83, .putfield 43, 86, [12, 22, 2, 614, 0, 1], none), (86, .aload_n 0, 87, [], some [0]), (87, .bipush 14, 89, [], none), (89, .newarray .int, 91, [20, 5], none), (91, .putfield 46, 94, [12, 23, 2, 615, 0, 1], none), (94, .aload_n 0, 95, [], some [0]), (95, .bipush 14, 97, [], none), (97, .newarray .int, 99, [20, 5], none), (99, .putfield 49, 102, [12, 24, 2, 616, 0, 1], none), (102, .aload_n 0, 103, [], some [0]), (103, .bipush 14, 105, [], none), (105, .newarray .int, 107, [20, 5], none), (107, .putfield 52, 110, [12, 25, 2, 617, 0, 1], none), (110, .aload_n 0, 111, [], some [0]), (111, .iconst 2, 112, [], none), (112, .newarray .int, 114, [20, 5], none), (114, .putfield 55, 117, [12, 26, 2, 618, 0, 1], none), (117, .aload_n 0, 118, [], some [0]), (118, .bipush 10, 120, [], none), (120, .newarray .int, 122, [20, 5], none), (122, .putfield 58, 125, [12, 27, 2, 619, 0, 1], none), (125, .aload_n 0, 126, [], some [0]), (126, .bipush 10, 128, [], none), (128, .newarray .int, 130, [20, 5], none), (130, .putfield 61, 133, [12, 28, 2, 620, 0, 1], none), (133, .aload_n 0, 134, [], some [0]), (134, .iconst 2, 135, [], none), (135, .newarray .int, 137, [20, 5], none), (137, .putfield 64, 140, [12, 29, 2, 621, 0, 1], none), (140, .aload_n 0, 141, [], some [0]), (141, .bipush 10, 143, [], none), (143, .newarray .int, 145, [20, 5], none), (145, .putfield 67, 148, [12, 30, 2, 622, 0, 1], none), (148, .aload_n 0, 149, [], some [0]), (149, .bipush 10, 151, [], none), (151, .newarray .int, 153, [20, 5], none), (153, .putfield 70, 156, [12, 31, 2, 623, 0, 1], none), (156, .aload_n 0, 157, [], some [0]), (157, .bipush 10, 159, [], none), (159, .newarray .int, 161, [20, 5], none), (161, .putfield 73, 164, [12, 32, 2, 624, 0, 1], none), (164, .aload_n 0, 165, [], some [0]), (165, .iconst 2, 166, [], none), (166, .newarray .int, 168, [20, 5], none), (168, .putfield 76, 171, [12, 33, 2, 625, 0, 1], none), (171, .aload_n 0, 172, [], some [0]), (172, .iconst 2, 173, [], none), (173, .newarray .int, 175, [20, 5], none), (175, .putfield 79, 178, [12, 34, 2, 626, 0, 1], none), (178, .aload_n 0, 179, [], some [0]), (179, .iconst 2, 180, [], none), (180, .newarray .int, 182, [20, 5], none), (182, .putfield 82, 185, [12, 35, 2, 627, 0, 1], none), (185, .aload_n 0, 186, [], some [0]), (186, .bipush 8, 188, [], none), (188, .newarray .int, 190, [20, 5], none), (190, .putfield 85, 193, [12, 36, 2, 628, 0, 1], none), (193, .aload_n 0, 194, [], some [0]), (194, .bipush 8, 196, [], none), (196, .newarray .int, 198, [20, 5], none), (198, .putfield 88, 201, [12, 37, 2, 629, 0, 1], none), (201, .aload_n 0, 202, [], some [0]), (202, .sipush 260, 205, [], none), (205, .newarray .boolean, 207, [22, 630], none), (207, .putfield 91, 210, [12, 39, 2, 631, 0, 1], none), (210, .aload_n 0, 211, [], some [0]), (211, .sipush 260, 214, [], none), (214, .newarray .int, 216, [20, 5], none), (216, .putfield 95, 219, [12, 40, 2, 632, 0, 1], none), (219, .aload_n 0, 220, [], some [0]), (220, .sipush 260, 223, [], none), (223, .newarray .int, 225, [20, 5], none), (225, .putfield 98, 228, [12, 41, 2, 633, 0, 1], none), (228, .aload_n 0, 229, [], some [0]), (229, .sipush 260, 232, [], none), (232, .newarray .int, 234, [20, 5], none), (234, .putfield 101, 237, [12, 42, 2, 634, 0, 1], none), (237, .aload_n 0, 238, [], some [0]), (238, .sipush 260, 241, [], none), (241, .newarray .int, 243, [20, 5], none), (243, .putfield 104, 246, [12, 43, 2, 635, 0, 1], none), (246, .aload_n 0, 247, [], some [0]), (247, .sipush 840, 250, [], none), (250, .newarray .int, 252, [20, 5], none), (252, .putfield 107, 255, [12, 45, 2, 636, 0, 1], none), (255, .aload_n 0, 256, [], some [0]), (256, .sipush 840, 259, [], none), (259, .newarray .int, 261, [20, 5], none), (261, .putfield 110, 264, [12, 46, 2, 637, 0, 1], none), (264, .aload_n 0, 265, [], some [0]), (265, .bipush 64, 267, [], none), (267, .newarray .int, 269, [20, 5], none), (269, .putfield 113, 272, [12, 47, 2, 638, 0, 1], none), (272, .aload_n 0, 273, [], some [0]), (273, .bipush 9, 275, [], none), (275, .newarray .int, 277, [20, 5], none), (277, .putfield 116, 280, [12, 49, 2, 639, 0, 1], none), (280, .aload_n 0, 281, [], some [0]), (281, .sipush 400, 284, [], none), (284, .newarray .int, 286, [20, 5], none), (286, .putfield 119, 289, [12, 50, 2, 640, 0, 1], none), (289, .aload_n 0, 290, [], some [0]), (290, .bipush 58, 292, [], none), (292, .newarray .int, 294, [20, 5], none), (294, .putfield 122, 297, [12, 52, 2, 641, 0, 1], none), (297, .aload_n 0, 298, [], some [0]), (298, .bipush 58, 300, [], none), (300, .newarray .int, 302, [20, 5], none), (302, .putfield 125, 305, [12, 53, 2, 642, 0, 1], none), (305, .aload_n 0, 306, [], some [0]), (306, .iconst 5, 307, [], none), (307, .newarray .int, 309, [20, 5], none), (309, .putfield 128, 312, [12, 55, 2, 643, 0, 1], none), (312, .aload_n 0, 313, [], some [0]), (313, .bipush 7, 315, [], none), (315, .newarray .int, 317, [20, 5], none), (317, .putfield 131, 320, [12, 56, 2, 644, 0, 1], none), (320, .aload_n 0, 321, [], some [0]), (321, .bipush 7, 323, [], none), (323, .newarray .int, 325, [20, 5], none), (325, .putfield 134, 328, [12, 57, 2, 645, 0, 1], none), (328, .aload_n 0, 329, [], some [0]), (329, .bipush 7, 331, [], none), (331, .newarray .int, 333, [20, 5], none), (333, .putfield 137, 336, [12, 58, 2, 646, 0, 1], none), (336, .aload_n 0, 337, [], some [0]), (337, .sipush 2320, 340, [], none), (340, .newarray .int, 342, [20, 5], none), (342, .putfield 140, 345, [12, 60, 2, 647, 0, 1], none), (345, .aload_n 0, 346, [], some [0]), (346, .bipush 7, 348, [], none), (348, .newarray .int, 350, [20, 5], none), (350, .putfield 143, 353, [12, 67, 2, 648, 0, 1], none), (353, .aload_n 0, 354, [], some [0]), (354, .bipush 42, 356, [], none), (356, .newarray .int, 358, [20, 5], none), (358, .putfield 146, 361, [12, 69, 2, 649, 0, 1], none), (361, .aload_n 0, 362, [], some [0]), (362, .bipush 42, 364, [], none), (364, .newarray .boolean, 366, [22, 630], none), (366, .putfield 149, 369, [12, 70, 2, 650, 0, 1], none), (369, .aload_n 0, 370, [], some [0]), (370, .bipush 7, 372, [], none), (372, .newarray .int, 374, [20, 5], none), (374, .putfield 152, 377, [12, 73, 2, 651, 0, 1], none), (377, .aload_n 0, 378, [], some [0]), (378, .bipush 20, 380, [], none), (380, .newarray .int, 382, [20, 5], none), (382, .putfield 155, 385, [12, 75, 2, 652, 0, 1], none), (385, .aload_n 0, 386, [], some [0]), (386, .bipush 20, 388, [], none), (388, .newarray .int, 390, [20, 5], none), (390, .putfield 158, 393, [12, 76, 2, 653, 0, 1], none), (393, .aload_n 0, 394, [], some [0]), (394, .bipush 20, 396, [], none), (396, .newarray .int, 398, [20, 5], none), (398, .putfield 161, 401, [12, 77, 2, 654, 0, 1], none), (401, .aload_n 0, 402, [], some [0]), (402, .bipush 20, 404, [], none), (404, .newarray .int, 406, [20, 5], none), (406, .putfield 164, 409, [12, 78, 2, 655, 0, 1], none), (409, .aload_n 0, 410, [], some [0]), (410, .bipush 20, 412, [], none), (412, .newarray .int, 414, [20, 5], none), (414, .putfield 167, 417, [12, 79, 2, 656, 0, 1], none), (417, .aload_n 0, 418, [], some [0]), (418, .iconst 3, 419, [], none), (419, .newarray .boolean, 421, [22, 630], none), (421, .putfield 170, 424, [12, 80, 2, 657, 0, 1], none), (424, .aload_n 0, 425, [], some [0]), (425, .sipush 174, 428, [], none), (428, .newarray .int, 430, [20, 5], none), (430, .putfield 173, 433, [12, 81, 2, 658, 0, 1], none), (433, .aload_n 0, 434, [], some [0]), (434, .iconst 0, 435, [], none), (435, .invokevirtual 176, 438, [172, 1, 0, 12, 659, 660, 661, 662], none), (438, .aload_n 0, 439, [], none), (439, .getfield 34, 442, [12, 9, 2, 611, 0], none), (442, .iconst 0, 443, [], none), (443, .bipush 108, 445, [], none), (445, .bipush 111, 447, [], none), (447, .bipush 97, 449, [], none), (449, .bipush 100, 451, [], none), (451, .iconst 0, 452, [], none), (452, .iconst 0, 453, [], none), (453, .iconst 0, 454, [], none), (454, .invokestatic 180, 457, [163, 7, 2, 0, 663, 664, 662], none), (457, .lastore, 458, [23], none), (458, .aload_n 0, 459, [], none), (459, .getfield 34, 462, [12, 9, 2, 611, 0], none), (462, .iconst 1, 463, [], none), (463, .bipush 115, 465, [], none), (465, .bipush 105, 467, [], none), (467, .bipush 108, 469, [], none), (469, .bipush 107, 471, [], none), (471, .iconst 0, 472, [], none), (472, .iconst 0, 473, [], none), (473, .iconst 0, 474, [], none), (474, .invokestatic 180, 477, [163, 7, 2, 0, 663, 664, 662], none), (477, .lastore, 478, [23], none), (478, .aload_n 0, 479, [], some [0]), (479, .getfield 34, 482, [12, 9, 2, 611, 0], none), (482, .iconst 2, 483, [], none), (483, .bipush 104, 485, [], none), (485, .bipush 111, 487, [], none), (487, .bipush 111, 489, [], none), (489, .bipush 107, 491, [], none), (491, .iconst 0, 492, [], none), (492, .iconst 0, 493, [], none), (493, .iconst 0, 494, [], none), (494, .invokestatic 180, 497, [163, 7, 2, 0, 663, 664, 662], none), (497, .lastore, 498, [23], none), (498, .aload_n 0, 499, [], none), (499, .getfield 34, 502, [12, 9, 2, 611, 0], none), (502, .iconst 3, 503, [], none), (503, .bipush 108, 505, [], none), (505, .bipush 105, 507, [], none), (507, .bipush 102, 509, [], none), (509, .bipush 116, 511, [], none), (511, .iconst 0, 512, [], none), (512, .iconst 0, 513, [], none), (513, .iconst 0, 514, [], none), (514, .invokestatic 180, 517, [163, 7, 2, 0, 663, 664, 662], none), (517, .lastore, 518, [23], none), (518, .aload_n 0, 519, [], some [0]), (519, .getfield 34, 522, [12, 9, 2, 611, 0], none), (522, .iconst 4, 523, [], none), (523, .bipush 119, 525, [], none), (525, .bipush 105, 527, [], none), (527, .bipush 110, 529, [], none), (529, .bipush 100, 531, [], none), (531, .iconst 0, 532, [], none), (532, .iconst 0, 533, [], none), (533, .iconst 0, 534, [], none), (534, .invokestatic 180, 537, [163, 7, 2, 0, 663, 664, 662], none), (537, .lastore, 538, [23], none), (538, .aload_n 0, 539, [], none), (539, .getfield 34, 542, [12, 9, 2, 611, 0], none), (542, .iconst 5, 543, [], none), (543, .bipush 116, 545, [], none), (545, .bipush 105, 547, [], none), (547, .bipush 101, 549, [], none), (549, .bipush 115, 551, [], none), (551, .iconst 0, 552, [], none), (552, .iconst 0, 553, [], none), (553, .iconst 0, 554, [], none), (554, .invokestatic 180, 557, [163, 7, 2, 0, 663, 664, 662], none), (557, .lastore, 558, [23], none), (558, .aload_n 0, 559, [], some [0]), (559, .getfield 34, 562, [12, 9, 2, 611, 0], none), (562, .bipush 6, 564, [], none), (564, .bipush 112, 566, [], none), (566, .bipush 97, 568, [], none), (568, .bipush 121, 570, [], none), (570, .bipush 115, 572, [], none), (572, .iconst 0, 573, [], none), (573, .iconst 0, 574, [], none), (574, .iconst 0, 575, [], none), (575, .invokestatic 180, 578, [163, 7, 2, 0, 663, 664, 662], none), (578, .lastore, 579, [23], none), (579, .aload_n 0, 580, [], none), (580, .getfield 34, 583, [12, 9, 2, 611, 0], none), (583, .bipush 7, 585, [], none), (585, .bipush 114, 587, [], none), (587, .bipush 105, 589, [], none), (589, .bipush 109, 591, [], none), (591, .iconst 0, 592, [], none), (592, .iconst 0, 593, [], none), (593, .iconst 0, 594, [], none), (594, .iconst 0, 595, [], none), (595, .invokestatic 180, 598, [163, 7, 2, 0, 663, 664, 662], none), (598, .lastore, 599, [23], none), (599, .aload_n 0, 600, [], some [0]), (600, .getfield 34, 603, [12, 9, 2, 611, 0], none), (603, .bipush 8, 605, [], none), (605, .bipush 103, 607, [], none), (607, .bipush 117, 609, [], none), (609, .bipush 115, 611, [], none), (611, .bipush 116, 613, [], none), (613, .bipush 115, 615, [], none), (615, .iconst 0, 616, [], none), (616, .iconst 0, 617, [], none), (617, .invokestatic 180, 620, [163, 7, 2, 0, 663, 664, 662], none), (620, .lastore, 621, [23], none), (621, .aload_n 0, 622, [], none), (622, .getfield 34, 625, [12, 9, 2, 611, 0], none), (625, .bipush 9, 627, [], none), (627, .bipush 115, 629, [], none), (629, .bipush 101, 631, [], none), (631, .bipush 101, 633, [], none), (633, .bipush 100, 635, [], none), (635, .iconst 0, 636, [], none), (636, .iconst 0, 637, [], none), (637, .iconst 0, 638, [], none), (638, .invokestatic 180, 641, [163, 7, 2, 0, 663, 664, 662], none), (641, .lastore, 642, [23], none), (642, .aload_n 0, 643, [], some [0]), (643, .getfield 34, 646, [12, 9, 2, 611, 0], none), (646, .bipush 10, 648, [], none), (648, .bipush 105, 650, [], none), (650, .bipush 102, 652, [], none), (652, .iconst 0, 653, [], none), (653, .iconst 0, 654, [], none), (654, .iconst 0, 655, [], none), (655, .iconst 0, 656, [], none), (656, .iconst 0, 657, [], none), (657, .invokestatic 180, 660, [163, 7, 2, 0, 663, 664, 662], none), (660, .lastore, 661, [23], none), (661, .aload_n 0, 662, [], none), (662, .getfield 34, 665, [12, 9, 2, 611, 0], none), (665, .bipush 11, 667, [], none), (667, .bipush 116, 669, [], none), (669, .bipush 104, 671, [], none), (671, .bipush 101, 673, [], none), (673, .bipush 110, 675, [], none), (675, .iconst 0, 676, [], none), (676, .iconst 0, 677, [], none), (677, .iconst 0, 678, [], none), (678, .invokestatic 180, 681, [163, 7, 2, 0, 663, 664, 662], none), (681, .lastore, 682, [23], none), (682, .aload_n 0, 683, [], some [0]), (683, .getfield 34, 686, [12, 9, 2, 611, 0], none), (686, .bipush 12, 688, [], none), (688, .bipush 101, 690, [], none), (690, .bipush 108, 692, [], none), (692, .bipush 115, 694, [], none), (694, .bipush 101, 696, [], none), (696, .iconst 0, 697, [], none), (697, .iconst 0, 698, [], none), (698, .iconst 0, 699, [], none), (699, .invokestatic 180, 702, [163, 7, 2, 0, 663, 664, 662], none), (702, .lastore, 703, [23], none), (703, .aload_n 0, 704, [], none), (704, .getfield 34, 707, [12, 9, 2, 611, 0], none), (707, .bipush 13, 709, [], none), (709, .bipush 104, 711, [], none), (711, .bipush 111, 713, [], none), (713, .bipush 117, 715, [], none), (715, .bipush 114, 717, [], none), (717, .iconst 0, 718, [], none), (718, .iconst 0, 719, [], none), (719, .iconst 0, 720, [], none), (720, .invokestatic 180, 723, [163, 7, 2, 0, 663, 664, 662], none), (723, .lastore, 724, [23], none), (724, .aload_n 0, 725, [], some [0]), (725, .getfield 34, 728, [12, 9, 2, 611, 0], none), (728, .bipush 14, 730, [], none), (730, .bipush 100, 732, [], none), (732, .bipush 97, 734, [], none), (734, .bipush 121, 736, [], none), (736, .iconst 0, 737, [], none), (737, .iconst 0, 738, [], none), (738, .iconst 0, 739, [], none), (739, .iconst 0, 740, [], none), (740, .invokestatic 180, 743, [163, 7, 2, 0, 663, 664, 662], none), (743, .lastore, 744, [23], none), (744, .aload_n 0, 745, [], none), (745, .getfield 34, 748, [12, 9, 2, 611, 0], none), (748, .bipush 15, 750, [], none), (750, .bipush 115, 752, [], none), (752, .bipush 105, 754, [], none), (754, .bipush 122, 756, [], none), (756, .bipush 101, 758, [], none), (758, .iconst 0, 759, [], none), (759, .iconst 0, 760, [], none), (760, .iconst 0, 761, [], none), (761, .invokestatic 180, 764, [163, 7, 2, 0, 663, 664, 662], none), (764, .lastore, 765, [23], none), (765, .aload_n 0, 766, [], some [0]), (766, .getfield 34, 769, [12, 9, 2, 611, 0], none), (769, .bipush 16, 771, [], none), (771, .bipush 119, 773, [], none), (773, .bipush 101, 775, [], none), (775, .bipush 105, 777, [], none), (777, .bipush 103, 779, [], none), (779, .bipush 104, 781, [], none), (781, .bipush 116, 783, [], none), (783, .iconst 0, 784, [], none), (784, .invokestatic 180, 787, [163, 7, 2, 0, 663, 664, 662], none), (787, .lastore, 788, [23], none), (788, .aload_n 0, 789, [], none), (789, .getfield 34, 792, [12, 9, 2, 611, 0], none), (792, .bipush 17, 794, [], none), (794, .bipush 104, 796, [], none), (796, .bipush 105, 798, [], none), (798, .bipush 103, 800, [], none), (800, .bipush 104, 802, [], none), (802, .iconst 0, 803, [], none), (803, .iconst 0, 804, [], none), (804, .iconst 0, 805, [], none), (805, .invokestatic 180, 808, [163, 7, 2, 0, 663, 664, 662], none), (808, .lastore, 809, [23], none), (809, .aload_n 0, 810, [], some [0]), (810, .getfield 34, 813, [12, 9, 2, 611, 0], none), (813, .bipush 18, 815, [], none), (815, .bipush 97, 817, [], none), (817, .bipush 99, 819, [], none), (819, .bipush 114, 821, [], none), (821, .bipush 111, 823, [], none), (823, .bipush 115, 825, [], none), (825, .bipush 115, 827, [], none), (827, .iconst 0, 828, [], none), (828, .invokestatic 180, 831, [163, 7, 2, 0, 663, 664, 662], none), (831, .lastore, 832, [23], none), (832, .aload_n 0, 833, [], none), (833, .getfield 34, 836, [12, 9, 2, 611, 0], none), (836, .bipush 19, 838, [], none), (838, .bipush 112, 840, [], none), (840, .bipush 114, 842, [], none), (842, .bipush 105, 844, [], none), (844, .bipush 99, 846, [], none), (846, .bipush 101, 848, [], none), (848, .iconst 0, 849, [], none), (849, .iconst 0, 850, [], none), (850, .invokestatic 180, 853, [163, 7, 2, 0, 663, 664, 662], none), (853, .lastore, 854, [23], none), (854, .aload_n 0, 855, [], some [0]), (855, .getfield 34, 858, [12, 9, 2, 611, 0], none), (858, .bipush 20, 860, [], none), (860, .bipush 117, 862, [], none), (862, .bipush 112, 864, [], none), (864, .iconst 0, 865, [], none), (865, .iconst 0, 866, [], none), (866, .iconst 0, 867, [], none), (867, .iconst 0, 868, [], none), (868, .iconst 0, 869, [], none), (869, .invokestatic 180, 872, [163, 7, 2, 0, 663, 664, 662], none), (872, .lastore, 873, [23], none), (873, .aload_n 0, 874, [], none), (874, .getfield 34, 877, [12, 9, 2, 611, 0], none), (877, .bipush 21, 879, [], none), (879, .bipush 115, 881, [], none), (881, .bipush 116, 883, [], none), (883, .bipush 111, 885, [], none), (885, .bipush 114, 887, [], none), (887, .bipush 101, 889, [], none), (889, .bipush 100, 891, [], none), (891, .iconst 0, 892, [], none), (892, .invokestatic 180, 895, [163, 7, 2, 0, 663, 664, 662], none), (895, .lastore, 896, [23], none), (896, .aload_n 0, 897, [], some [0]), (897, .invokevirtual 184, 900, [198, 0, 0, 12, 665, 666, 667, 662], none), (900, .aload_n 0, 901, [], none), (901, .invokevirtual 187, 904, [199, 0, 0, 12, 668, 669, 670, 662], none), (904, .return_, 905, [], none)]
def zc_X12_feed : List zE := [(0, .aload_n 0, 1, [], none), (1, .getfield 190, 4, [12, 2, 0, 671, 0], none), (4, .bipush 20, 6, [], none), (6, .iadd, 7, [], none), (7, .sipush 2000, 10, [], none), (10, .if_icmp .le 5, 13, [15], none), (13, .iconst (-1), 14, [], none), (14, .ireturn, 15, [0], none), (15, .aload_n 0, 16, [], some [0, 1, 2, 3, 4, 5]), (16, .iload_n 1, 17, [], none), (17, .invokevirtual 193, 20, [157, 1, 0, 12, 672, 673, 674, 662], none), (20, .aload_n 0, 21, [], none), (21, .iload_n 2, 22, [], none), (22, .invokevirtual 193, 25, [157, 1, 0, 12, 672, 673, 674, 662], none), (25, .aload_n 0, 26, [], none), (26, .iload_n 3, 27, [], none), (27, .invokevirtual 193, 30, [157, 1, 0, 12, 672, 673, 674, 662], none), (30, .aload_n 0, 31, [], none), (31, .iload 4, 33, [], none), (33, .invokevirtual 193, 36, [157, 1, 0, 12, 672, 673, 674, 662], none), (36, .aload_n 0, 37, [], some [0, 5]), (37, .iload 5, 39, [], none), (39, .invokevirtual 193, 42, [157, 1, 0, 12, 672, 673, 674, 662], none), (42, .aload_n 0, 43, [], none), (43, .getfield 190, 46, [12, 2, 0, 671, 0], none), (46, .ireturn, 47, [0], none)]
def zc_X12_put : List zE := [(0, .bipush 24, 2, [], none), (2, .istore_n 2, 3, [], none), (3, .iload_n 2, 4, [], some [0, 1, 2]), (4, .ifCond .lt 32, 7, [36], none), (7, .aload_n 0, 8, [], none), (8, .getfield 13, 11, [12, 1, 2, 605, 0], none), (11, .aload_n 0, 12, [], none), (12, .getfield 190, 15, [12, 2, 0, 671, 0], none), (15, .iload_n 1, 16, [], none), (16, .iload_n 2, 17, [], none), (17, .ishr, 18, [], none), (18, .i2b, 19, [], none), (19, .bastore, 20, [21], none), (20, .aload_n 0, 21, [], none), (21, .dup, 22, [], none), (22, .getfield 190, 25, [12, 2, 0, 671, 0], none), (25, .iconst 1, 26, [], none), (26, .iadd, 27, [], none), (27, .putfield 190, 30, [12, 2, 0, 671, 0, 0], none), (30, .iinc 2 (-8), 33, [], none), (33, .goto (-30), 36, [3], none), (36, .return_, 37, [], some [])]
def zc_X12_back : List zE := [(0, .iload_n 1, 1, [], none), (1, .ifCond .lt 11, 4, [12], none), (4, .iload_n 1, 5, [], none), (5, .aload_n 0, 6, [], none), (6, .getfield 190, 9, [12, 2, 0, 671, 0], none), (9, .if_icmp .le 5, 12, [14], none), (12, .iconst (-1), 13, [], some []), (13, .ireturn, 14, [0], none), (14, .aload_n 0, 15, [], some [0, 1]), (15, .dup, 16, [], none), (16, .getfield 190, 19, [12, 2, 0, 671, 0], none), (19, .iload_n 1, 20, [], none), (20, .isub, 21, [], none), (21, .putfield 190, 24, [12, 2, 0, 671, 0, 0], none), (24, .aload_n 0, 25, [], none), (25, .getfield 190, 28, [12, 2, 0, 671, 0], none), (28, .ireturn, 29, [0], none)]
def zc_X12_byteAt : List zE := [(0, .iload_n 1, 1, [], none), (1, .aload_n 0, 2, [], none), (2, .getfield 196, 5, [12, 4, 0, 675, 0], none), (5, .if_icmp .ge 16, 8, [21], none), (8, .aload_n 0, 9, [], none), (9, .getfield 17, 12, [12, 3, 2, 606, 0], none), (12, .iload_n 1, 13, [], none), (13, .baload, 14, [21], none), (14, .sipush 255, 17, [], none), (17, .iand, 18, [], none), (18, .goto 4, 21, [22], none), (21, .iconst 0, 22, [], some []), (22, .ireturn, 23, [0], some [])]
def zc_X12_isDigit : List zE := [(0, .iload_n 0, 1, [], none), (1, .bipush 48, 3, [], none), (3, .if_icmp .lt 13, 6, [16], none), (6, .iload_n 0, 7, [], none), (7, .bipush 57, 9, [], none), (9, .if_icmp .gt 7, 12, [16], none), (12, .iconst 1, 13, [], none), (13, .goto 4, 16, [17], none), (16, .iconst 0, 17, [], some []), (17, .ireturn, 18, [1], some [])]
def zc_X12_isLetter : List zE := [(0, .iload_n 0, 1, [], none), (1, .bipush 97, 3, [], none), (3, .if_icmp .lt 13, 6, [16], none), (6, .iload_n 0, 7, [], none), (7, .bipush 122, 9, [], none), (9, .if_icmp .gt 7, 12, [16], none), (12, .iconst 1, 13, [], none), (13, .goto 4, 16, [17], none), (16, .iconst 0, 17, [], some []), (17, .ireturn, 18, [1], some [])]
def zc_X12_appends : List zE := [(0, .iload_n 2, 1, [], none), (1, .ifCond .ne 7, 4, [8], none), (4, .lload_n 0, 5, [], none), (5, .goto 16, 8, [21], none), (8, .ldc2_w 199, 11, [0, 27, 676], some [0, 2]), (11, .lload_n 0, 12, [], none), (12, .lmul, 13, [], none), (13, .iload_n 2, 14, [], none), (14, .bipush 97, 16, [], none), (16, .isub, 17, [], none), (17, .iconst 1, 18, [], none), (18, .iadd, 19, [], none), (19, .i2l, 20, [], none), (20, .ladd, 21, [], none), (21, .lreturn, 22, [], some [])]
def zc_X12_word : List zE := [(0, .lconst 0, 1, [], none), (1, .iload_n 0, 2, [], none), (2, .invokestatic 201, 5, [162, 2, 2, 0, 677, 678, 662], none), (5, .iload_n 1, 6, [], none), (6, .invokestatic 201, 9, [162, 2, 2, 0, 677, 678, 662], none), (9, .iload_n 2, 10, [], none), (10, .invokestatic 201, 13, [162, 2, 2, 0, 677, 678, 662], none), (13, .iload_n 3, 14, [], none), (14, .invokestatic 201, 17, [162, 2, 2, 0, 677, 678, 662], none), (17, .iload 4, 19, [], none), (19, .invokestatic 201, 22, [162, 2, 2, 0, 677, 678, 662], none), (22, .iload 5, 24, [], none), (24, .invokestatic 201, 27, [162, 2, 2, 0, 677, 678, 662], none), (27, .iload 6, 29, [], none), (29, .invokestatic 201, 32, [162, 2, 2, 0, 677, 678, 662], none), (32, .lreturn, 33, [], none)]
def zc_X12_token : List zE := [(0, .aload_n 0, 1, [], none), (1, .getfield 20, 4, [12, 5, 2, 607, 0], none), (4, .aload_n 0, 5, [], none), (5, .getfield 205, 8, [12, 10, 0, 679, 0], none), (8, .iload_n 1, 9, [], none), (9, .iastore, 10, [20], none), (10, .aload_n 0, 11, [], none), (11, .getfield 24, 14, [12, 6, 2, 608, 0], none), (14, .aload_n 0, 15, [], none), (15, .getfield 205, 18, [12, 10, 0, 679, 0], none), (18, .iload_n 2, 19, [], none), (19, .iastore, 20, [20], none), (20, .aload_n 0, 21, [], none), (21, .getfield 27, 24, [12, 7, 2, 609, 0], none), (24, .aload_n 0, 25, [], none), (25, .getfield 205, 28, [12, 10, 0, 679, 0], none), (28, .iload_n 3, 29, [], none), (29, .iastore, 30, [20], none), (30, .aload_n 0, 31, [], none), (31, .getfield 30, 34, [12, 8, 2, 610, 0], none), (34, .aload_n 0, 35, [], none), (35, .getfield 205, 38, [12, 10, 0, 679, 0], none), (38, .lload 4, 40, [], none), (40, .lastore, 41, [23], none), (41, .aload_n 0, 42, [], some [0]), (42, .dup, 43, [], none), (43, .getfield 205, 46, [12, 10, 0, 679, 0], none), (46, .iconst 1, 47, [], none), (47, .iadd, 48, [], none), (48, .putfield 205, 51, [12, 10, 0, 679, 0, 0], none), (51, .return_, 52, [], none)]
def zc_X12_cut : List zE := [(0, .aload_n 0, 1, [], none), (1, .iconst 0, 2, [], none), (2, .putfield 205, 5, [12, 10, 0, 679, 0, 0], none), (5, .iconst 0, 6, [], none), (6, .istore_n 1, 7, [], none), (7, .aload_n 0, 8, [], some [0, 1]), (8, .getfield 205, 11, [12, 10, 0, 679, 0], none), (11, .sipush 400, 14, [], none), (14, .if_icmp .gt 280, 17, [294], none), (17, .aload_n 0, 18, [], none), (18, .iload_n 1, 19, [], none), (19, .invokevirtual 208, 22, [159, 1, 1, 12, 680, 681, 682, 662], none), (22, .istore_n 2, 23, [], none), (23, .iload_n 1, 24, [], none), (24, .aload_n 0, 25, [], none), (25, .getfield 196, 28, [12, 4, 0, 675, 0], none), (28, .if_icmp .lt 15, 31, [43], none), (31, .aload_n 0, 32, [], none), (32, .iconst 0, 33, [], none), (33, .aload_n 0, 34, [], none), (34, .getfield 196, 37, [12, 4, 0, 675, 0], none), (37, .iconst 0, 38, [], none), (38, .lconst 0, 39, [], none), (39, .invokevirtual 212, 42, [164, 4, 0, 12, 683, 684, 685, 662], none), (42, .return_, 43, [], none), (43, .iload_n 2, 44, [], some [0, 1, 2]), (44, .bipush 9, 46, [], none), (46, .if_icmp .eq 21, 49, [67], none), (49, .iload_n 2, 50, [], none), (50, .bipush 10, 52, [], none), (52, .if_icmp .eq 15, 55, [67], none), (55, .iload_n 2, 56, [], none), (56, .bipush 13, 58, [], none), (58, .if_icmp .eq 9, 61, [67], none), (61, .iload_n 2, 62, [], none), (62, .bipush 32, 64, [], none), (64, .if_icmp .ne 9, 67, [73], none), (67, .iinc 1 1, 70, [], some [0, 1]), (70, .goto 221, 73, [291], none), (73, .iload_n 2, 74, [], some [0, 1, 2]), (74, .invokestatic 216, 77, [161, 1, 1, 0, 686, 687, 662], none), (77, .ifCond .eq 119, 80, [196], none), (80, .iconst 0, 81, [], none), (81, .istore_n 3, 82, [], none), (82, .lconst 0, 83, [], none), (83, .lstore 4, 85, [], none), (85, .aload_n 0, 86, [], some [0, 1, 3, 4]), (86, .iload_n 1, 87, [], none), (87, .iload_n 3, 88, [], none), (88, .iadd, 89, [], none), (89, .invokevirtual 208, 92, [159, 1, 1, 12, 680, 681, 682, 662], none), (92, .invokestatic 216, 95, [161, 1, 1, 0, 686, 687, 662], none), (95, .ifCond .eq 29, 98, [124], none), (98, .iload_n 3, 99, [], none), (99, .bipush 8, 101, [], none), (101, .if_icmp .ge 17, 104, [118], none), (104, .lload 4, 106, [], none), (106, .aload_n 0, 107, [], none), (107, .iload_n 1, 108, [], none), (108, .iload_n 3, 109, [], none), (109, .iadd, 110, [], none), (110, .invokevirtual 208, 113, [159, 1, 1, 12, 680, 681, 682, 662], none), (113, .invokestatic 201, 116, [162, 2, 2, 0, 677, 678, 662], none), (116, .lstore 4, 118, [], none), (118, .iinc 3 1, 121, [], some [0, 1, 3, 4]), (121, .goto (-36), 124, [85], none), (124, .iload_n 3, 125, [], some [0, 1, 3, 4]), (125, .bipush 8, 127, [], none), (127, .if_icmp .le 7, 130, [134], none), (130, .iconst 3, 131, [], none), (131, .goto 4, 134, [135], none), (134, .iconst 1, 135, [], some [0, 1, 3, 4]), (135, .istore 6, 137, [], some [0, 1, 3, 4]), (137, .iload_n 3, 138, [], none), (138, .bipush 8, 140, [], none), (140, .if_icmp .gt 39, 143, [179], none), (143, .iconst 0, 144, [], none), (144, .istore 7, 146, [], none), (146, .iload 7, 148, [], some [0, 1, 3, 4, 6, 7]), (148, .bipush 22, 150, [], none), (150, .if_icmp .ge 29, 153, [179], none), (153, .aload_n 0, 154, [], none), (154, .getfield 34, 157, [12, 9, 2, 611, 0], none), (157, .iload 7, 159, [], none), (159, .laload, 160, [23], none), (160, .lload 4, 162, [], none), (162, .lcmp, 163, [], none), (163, .ifCond .ne 10, 166, [173], none), (166, .bipush 20, 168, [], none), (168, .iload 7, 170, [], none), (170, .iadd, 171, [], none), (171, .istore 6, 173, [], none), (173, .iinc 7 1, 176, [], some [0, 1, 3, 4, 6, 7]), (176, .goto (-30), 179, [146], none), (179, .aload_n 0, 180, [], some [0, 1, 3, 4, 6]), (180, .iload 6, 182, [], none), (182, .iload_n 1, 183, [], none), (183, .iconst 0, 184, [], none), (184, .lload 4, 186, [], none), (186, .invokevirtual 212, 189, [164, 4, 0, 12, 683, 684, 685, 662], none), (189, .iload_n 1, 190, [], none), (190, .iload_n 3, 191, [], none), (191, .iadd, 192, [], none), (192, .istore_n 1, 193, [], none), (193, .goto 98, 196, [291], none), (196, .iload_n 2, 197, [], some [0, 1, 2]), (197, .invokestatic 220, 200, [160, 1, 1, 0, 688, 689, 662], none), (200, .ifCond .eq 75, 203, [275], none), (203, .iconst 0, 204, [], none), (204, .istore_n 3, 205, [], none), (205, .iconst 0, 206, [], none), (206, .istore 4, 208, [], none), (208, .aload_n 0, 209, [], some [0, 1, 3, 4]), (209, .iload_n 1, 210, [], none), (210, .iload_n 3, 211, [], none), (211, .iadd, 212, [], none), (212, .invokevirtual 208, 215, [159, 1, 1, 12, 680, 681, 682, 662], none), (215, .invokestatic 220, 218, [160, 1, 1, 0, 688, 689, 662], none), (218, .ifCond .eq 32, 221, [250], none), (221, .iload_n 3, 222, [], none), (222, .iconst 4, 223, [], none), (223, .if_icmp .ge 21, 226, [244], none), (226, .bipush 10, 228, [], none), (228, .iload 4, 230, [], none), (230, .imul, 231, [], none), (231, .aload_n 0, 232, [], none), (232, .iload_n 1, 233, [], none), (233, .iload_n 3, 234, [], none), (234, .iadd, 235, [], none), (235, .invokevirtual 208, 238, [159, 1, 1, 12, 680, 681, 682, 662], none), (238, .iadd, 239, [], none), (239, .bipush 48, 241, [], none), (241, .isub, 242, [], none), (242, .istore 4, 244, [], none), (244, .iinc 3 1, 247, [], some [0, 1, 3, 4]), (247, .goto (-39), 250, [208], none), (250, .aload_n 0, 251, [], some [0, 1, 3, 4]), (251, .iload_n 3, 252, [], none), (252, .iconst 4, 253, [], none), (253, .if_icmp .le 7, 256, [260], none), (256, .iconst 3, 257, [], none), (257, .goto 4, 260, [261], none), (260, .iconst 2, 261, [], some [0, 1, 3, 4]), (261, .iload_n 1, 262, [], some [0, 1, 3, 4]), (262, .iload 4, 264, [], none), (264, .lconst 0, 265, [], none), (265, .invokevirtual 212, 268, [164, 4, 0, 12, 683, 684, 685, 662], none), (268, .iload_n 1, 269, [], none), (269, .iload_n 3, 270, [], none), (270, .iadd, 271, [], none), (271, .istore_n 1, 272, [], none), (272, .goto 19, 275, [291], none), (275, .iload_n 1, 276, [], some [0, 1, 2]), (276, .aload_n 0, 277, [], none), (277, .iload_n 1, 278, [], none), (278, .iload_n 2, 279, [], none), (279, .aload_n 0, 280, [], none), (280, .iload_n 1, 281, [], none), (281, .iconst 1, 282, [], none), (282, .iadd, 283, [], none), (283, .invokevirtual 208, 286, [159, 1, 1, 12, 680, 681, 682, 662], none), (286, .invokevirtual 223, 289, [166, 3, 1, 12, 690, 691, 692, 662], none), (289, .iadd, 290, [], none), (290, .istore_n 1, 291, [], none), (291, .goto (-284), 294, [7], some [0, 1]), (294, .return_, 295, [], some [])]
def zc_X12_sign : List zE := [(0, .iload_n 2, 1, [], none), (1, .bipush 59, 3, [], none), (3, .if_icmp .ne 7, 6, [10], none), (6, .iconst 4, 7, [], none), (7, .goto 36, 10, [43], none), (10, .iload_n 2, 11, [], some [0, 1, 2]), (11, .bipush 61, 13, [], none), (13, .if_icmp .ne 7, 16, [20], none), (16, .iconst 5, 17, [], none), (17, .goto 26, 20, [43], none), (20, .iload_n 2, 21, [], some [0, 1, 2]), (21, .bipush 40, 23, [], none), (23, .if_icmp .ne 8, 26, [31], none), (26, .bipush 6, 28, [], none), (28, .goto 15, 31, [43], none), (31, .iload_n 2, 32, [], some [0, 1, 2]), (32, .bipush 41, 34, [], none), (34, .if_icmp .ne 8, 37, [42], none), (37, .bipush 7, 39, [], none), (39, .goto 4, 42, [43], none), (42, .iconst 3, 43, [], some [0, 1, 2]), (43, .istore 4, 45, [], some [0, 1, 2]), (45, .iload_n 2, 46, [], none), (46, .bipush 43, 48, [], none), (48, .if_icmp .ne 7, 51, [55], none), (51, .bipush 8, 53, [], none), (53, .istore 4, 55, [], none), (55, .iload_n 2, 56, [], some [0, 1, 2, 4]), (56, .bipush 45, 58, [], none), (58, .if_icmp .ne 7, 61, [65], none), (61, .bipush 9, 63, [], none), (63, .istore 4, 65, [], none), (65, .iload_n 2, 66, [], some [0, 1, 2, 4]), (66, .bipush 42, 68, [], none), (68, .if_icmp .ne 7, 71, [75], none), (71, .bipush 10, 73, [], none), (73, .istore 4, 75, [], none), (75, .iload_n 2, 76, [], some [0, 1, 2, 4]), (76, .bipush 47, 78, [], none), (78, .if_icmp .ne 7, 81, [85], none), (81, .bipush 15, 83, [], none), (83, .istore 4, 85, [], none), (85, .iload_n 2, 86, [], some [0, 1, 2, 4]), (86, .bipush 60, 88, [], none), (88, .if_icmp .ne 7, 91, [95], none), (91, .bipush 13, 93, [], none), (93, .istore 4, 95, [], none), (95, .aload_n 0, 96, [], some [0, 1, 4]), (96, .iload 4, 98, [], none), (98, .iload_n 1, 99, [], none), (99, .iconst 0, 100, [], none), (100, .lconst 0, 101, [], none), (101, .invokevirtual 212, 104, [164, 4, 0, 12, 683, 684, 685, 662], none), (104, .iconst 1, 105, [], none), (105, .ireturn, 106, [0], none)]
def zc_X12_is : List zE := [(0, .aload_n 0, 1, [], none), (1, .getfield 227, 4, [12, 13, 0, 693, 0], none), (4, .ifCond .ne 20, 7, [24], none), (7, .aload_n 0, 8, [], none), (8, .getfield 20, 11, [12, 5, 2, 607, 0], none), (11, .aload_n 0, 12, [], none), (12, .getfield 230, 15, [12, 11, 0, 694, 0], none), (15, .iaload, 16, [20], none), (16, .iload_n 1, 17, [], none), (17, .if_icmp .ne 7, 20, [24], none), (20, .iconst 1, 21, [], none), (21, .goto 4, 24, [25], none), (24, .iconst 0, 25, [], some []), (25, .ireturn, 26, [1], some [])]
def zc_X12_fail : List zE := [(0, .aload_n 0, 1, [], none), (1, .getfield 227, 4, [12, 13, 0, 693, 0], none), (4, .ifCond .le 4, 7, [8], none), (7, .return_, 8, [], none), (8, .aload_n 0, 9, [], some [0, 1]), (9, .iload_n 1, 10, [], none), (10, .putfield 227, 13, [12, 13, 0, 693, 0, 0], none), (13, .aload_n 0, 14, [], none), (14, .aload_n 0, 15, [], none), (15, .getfield 24, 18, [12, 6, 2, 608, 0], none), (18, .aload_n 0, 19, [], none), (19, .getfield 230, 22, [12, 11, 0, 694, 0], none), (22, .iaload, 23, [20], none), (23, .putfield 233, 26, [12, 14, 0, 695, 0, 0], none), (26, .return_, 27, [], none)]
def zc_X12_wrong : List zE := [(0, .aload_n 0, 1, [], none), (1, .getfield 24, 4, [12, 6, 2, 608, 0], none), (4, .iload_n 2, 5, [], none), (5, .iaload, 6, [20], none), (6, .istore_n 3, 7, [], none), (7, .aload_n 0, 8, [], none), (8, .getfield 227, 11, [12, 13, 0, 693, 0], none), (11, .ifCond .gt 34, 14, [45], none), (14, .aload_n 0, 15, [], none), (15, .getfield 236, 18, [12, 15, 0, 696, 0], none), (18, .ifCond .eq 28, 21, [46], none), (21, .iload_n 3, 22, [], none), (22, .aload_n 0, 23, [], none), (23, .getfield 239, 26, [12, 16, 0, 697, 0], none), (26, .if_icmp .gt 19, 29, [45], none), (29, .iload_n 3, 30, [], none), (30, .aload_n 0, 31, [], none), (31, .getfield 239, 34, [12, 16, 0, 697, 0], none), (34, .if_icmp .ne 12, 37, [46], none), (37, .iload_n 1, 38, [], none), (38, .aload_n 0, 39, [], none), (39, .getfield 236, 42, [12, 15, 0, 696, 0], none), (42, .if_icmp .lt 4, 45, [46], none), (45, .return_, 46, [], some []), (46, .aload_n 0, 47, [], some [0, 1, 3]), (47, .iload_n 1, 48, [], none), (48, .putfield 236, 51, [12, 15, 0, 696, 0, 0], none), (51, .aload_n 0, 52, [], none), (52, .iload_n 3, 53, [], none), (53, .putfield 239, 56, [12, 16, 0, 697, 0, 0], none), (56, .return_, 57, [], none)]
def zc_X12_goesOn : List zE := [(0, .aload_n 0, 1, [], none), (1, .getfield 230, 4, [12, 11, 0, 694, 0], none), (4, .sipush 400, 7, [], none), (7, .if_icmp .ne 11, 10, [18], none), (10, .aload_n 0, 11, [], none), (11, .iconst 2, 12, [], none), (12, .invokevirtual 242, 15, [168, 1, 0, 12, 698, 699, 700, 662], none), (15, .goto 13, 18, [28], none), (18, .aload_n 0, 19, [], some [0]), (19, .dup, 20, [], none), (20, .getfield 230, 23, [12, 11, 0, 694, 0], none), (23, .iconst 1, 24, [], none), (24, .iadd, 25, [], none), (25, .putfield 230, 28, [12, 11, 0, 694, 0, 0], none), (28, .return_, 29, [], some [])]
def zc_X12_must : List zE := [(0, .aload_n 0, 1, [], none), (1, .iload_n 1, 2, [], none), (2, .invokevirtual 245, 5, [167, 1, 1, 12, 701, 702, 703, 662], none), (5, .ifCond .eq 10, 8, [15], none), (8, .aload_n 0, 9, [], none), (9, .invokevirtual 248, 12, [170, 0, 0, 12, 704, 705, 706, 662], none), (12, .goto 8, 15, [20], none), (15, .aload_n 0, 16, [], some [0]), (16, .iconst 1, 17, [], none), (17, .invokevirtual 242, 20, [168, 1, 0, 12, 698, 699, 700, 662], none), (20, .return_, 21, [], some [])]
def zc_X12_plain : List zE := [(0, .aload_n 0, 1, [], none), (1, .getfield 43, 4, [12, 22, 2, 614, 0], none), (4, .iload_n 1, 5, [], none), (5, .iconst 0, 6, [], none), (6, .iastore, 7, [20], none), (7, .aload_n 0, 8, [], none), (8, .getfield 55, 11, [12, 26, 2, 618, 0], none), (11, .iload_n 1, 12, [], none), (12, .iconst 0, 13, [], none), (13, .iastore, 14, [20], none), (14, .aload_n 0, 15, [], none), (15, .getfield 64, 18, [12, 29, 2, 621, 0], none), (18, .iload_n 1, 19, [], none), (19, .iconst 0, 20, [], none), (20, .iastore, 21, [20], none), (21, .aload_n 0, 22, [], none), (22, .getfield 76, 25, [12, 33, 2, 625, 0], none), (25, .iload_n 1, 26, [], none), (26, .bipush 10, 28, [], none), (28, .iastore, 29, [20], none), (29, .aload_n 0, 30, [], some [0, 1]), (30, .getfield 79, 33, [12, 34, 2, 626, 0], none), (33, .iload_n 1, 34, [], none), (34, .iconst 0, 35, [], none), (35, .iastore, 36, [20], none), (36, .aload_n 0, 37, [], none), (37, .getfield 82, 40, [12, 35, 2, 627, 0], none), (40, .iload_n 1, 41, [], none), (41, .iconst 0, 42, [], none), (42, .iastore, 43, [20], none), (43, .iconst 0, 44, [], none), (44, .istore_n 2, 45, [], none), (45, .iload_n 2, 46, [], some [0, 1, 2]), (46, .iconst 4, 47, [], none), (47, .if_icmp .ge 31, 50, [78], none), (50, .aload_n 0, 51, [], none), (51, .getfield 85, 54, [12, 36, 2, 628, 0], none), (54, .iconst 4, 55, [], none), (55, .iload_n 1, 56, [], none), (56, .imul, 57, [], none), (57, .iload_n 2, 58, [], none), (58, .iadd, 59, [], none), (59, .iconst 0, 60, [], none), (60, .iastore, 61, [20], none), (61, .aload_n 0, 62, [], none), (62, .getfield 88, 65, [12, 37, 2, 629, 0], none), (65, .iconst 4, 66, [], none), (66, .iload_n 1, 67, [], none), (67, .imul, 68, [], none), (68, .iload_n 2, 69, [], none), (69, .iadd, 70, [], none), (70, .iconst 0, 71, [], none), (71, .iastore, 72, [20], none), (72, .iinc 2 1, 75, [], none), (75, .goto (-30), 78, [45], none), (78, .return_, 79, [], some [])]
def zc_X12_read : List zE := [(0, .aload_n 0, 1, [], none), (1, .aload_n 0, 2, [], none), (2, .getfield 190, 5, [12, 2, 0, 671, 0], none), (5, .putfield 196, 8, [12, 4, 0, 675, 0, 0], none), (8, .iconst 0, 9, [], none), (9, .istore_n 1, 10, [], none), (10, .iload_n 1, 11, [], some [0, 1]), (11, .aload_n 0, 12, [], none), (12, .getfield 196, 15, [12, 4, 0, 675, 0], none), (15, .if_icmp .ge 21, 18, [36], none), (18, .aload_n 0, 19, [], none), (19, .getfield 17, 22, [12, 3, 2, 606, 0], none), (22, .iload_n 1, 23, [], none), (23, .aload_n 0, 24, [], none), (24, .getfield 13, 27, [12, 1, 2, 605, 0], none), (27, .iload_n 1, 28, [], none), (28, .baload, 29, [21], none), (29, .bastore, 30, [21], none), (30, .iinc 1 1, 33, [], none), (33, .goto (-23), 36, [10], none), (36, .aload_n 0, 37, [], some [0]), (37, .iconst 0, 38, [], none), (38, .putfield 190, 41, [12, 2, 0, 671, 0, 0], none), (41, .aload_n 0, 42, [], none), (42, .invokevirtual 251, 45, [165, 0, 0, 12, 707, 708, 709, 662], none), (45, .aload_n 0, 46, [], none), (46, .iconst 0, 47, [], none), (47, .putfield 230, 50, [12, 11, 0, 694, 0, 0], none), (50, .aload_n 0, 51, [], none), (51, .iconst 0, 52, [], none), (52, .putfield 254, 55, [12, 12, 0, 710, 0, 0], none), (55, .aload_n 0, 56, [], some [0]), (56, .iconst 0, 57, [], none), (57, .putfield 227, 60, [12, 13, 0, 693, 0, 0], none), (60, .aload_n 0, 61, [], none), (61, .iconst 0, 62, [], none), (62, .putfield 236, 65, [12, 15, 0, 696, 0, 0], none), (65, .aload_n 0, 66, [], none), (66, .iconst 1, 67, [], none), (67, .aload_n 0, 68, [], none), (68, .getfield 257, 71, [12, 18, 0, 711, 0], none), (71, .isub, 72, [], none), (72, .putfield 260, 75, [12, 19, 0, 712, 0, 0], none), (75, .aload_n 0, 76, [], none), (76, .iconst 0, 77, [], none), (77, .putfield 263, 80, [12, 20, 0, 713, 0, 0], none), (80, .aload_n 0, 81, [], some [0]), (81, .aload_n 0, 82, [], none), (82, .getfield 260, 85, [12, 19, 0, 712, 0], none), (85, .invokevirtual 176, 88, [172, 1, 0, 12, 659, 660, 661, 662], none), (88, .aload_n 0, 89, [], none), (89, .sipush 130, 92, [], none), (92, .aload_n 0, 93, [], none), (93, .getfield 260, 96, [12, 19, 0, 712, 0], none), (96, .imul, 97, [], none), (97, .putfield 266, 100, [12, 38, 0, 714, 0, 0], none), (100, .aload_n 0, 101, [], none), (101, .sipush 420, 104, [], none), (104, .aload_n 0, 105, [], none), (105, .getfield 260, 108, [12, 19, 0, 712, 0], none), (108, .imul, 109, [], none), (109, .putfield 269, 112, [12, 44, 0, 715, 0, 0], none), (112, .aload_n 0, 113, [], some [0]), (113, .getfield 227, 116, [12, 13, 0, 693, 0], none), (116, .ifCond .ne 18, 119, [134], none), (119, .aload_n 0, 120, [], none), (120, .iconst 0, 121, [], none), (121, .invokevirtual 245, 124, [167, 1, 1, 12, 701, 702, 703, 662], none), (124, .ifCond .ne 10, 127, [134], none), (127, .aload_n 0, 128, [], none), (128, .invokevirtual 272, 131, [177, 0, 0, 12, 716, 717, 718, 662], none), (131, .goto (-19), 134, [112], none), (134, .aload_n 0, 135, [], some [0]), (135, .aload_n 0, 136, [], none), (136, .getfield 227, 139, [12, 13, 0, 693, 0], none), (139, .ifCond .le 10, 142, [149], none), (142, .aload_n 0, 143, [], none), (143, .getfield 233, 146, [12, 14, 0, 695, 0], none), (146, .goto 18, 149, [164], none), (149, .aload_n 0, 150, [], some [0]), (150, .getfield 236, 153, [12, 15, 0, 696, 0], none), (153, .ifCond .le 10, 156, [163], none), (156, .aload_n 0, 157, [], none), (157, .getfield 239, 160, [12, 16, 0, 697, 0], none), (160, .goto 4, 163, [164], none), (163, .iconst (-1), 164, [], some [0]), (164, .putfield 37, 167, [12, 17, 0, 612, 0, 0], some [0]), (167, .aload_n 0, 168, [], none), (168, .getfield 227, 171, [12, 13, 0, 693, 0], none), (171, .ifCond .le 8, 174, [179], none), (174, .aload_n 0, 175, [], none), (175, .getfield 227, 178, [12, 13, 0, 693, 0], none), (178, .ireturn, 179, [0], none), (179, .aload_n 0, 180, [], some [0]), (180, .getfield 236, 183, [12, 15, 0, 696, 0], none), (183, .ifCond .le 8, 186, [191], none), (186, .aload_n 0, 187, [], none), (187, .getfield 236, 190, [12, 15, 0, 696, 0], none), (190, .ireturn, 191, [0], none), (191, .aload_n 0, 192, [], some [0]), (192, .aload_n 0, 193, [], none), (193, .getfield 260, 196, [12, 19, 0, 712, 0], none), (196, .putfield 257, 199, [12, 18, 0, 711, 0, 0], none), (199, .aload_n 0, 200, [], none), (200, .invokevirtual 184, 203, [198, 0, 0, 12, 665, 666, 667, 662], none), (203, .aload_n 0, 204, [], none), (204, .invokevirtual 187, 207, [199, 0, 0, 12, 668, 669, 670, 662], none), (207, .aload_n 0, 208, [], none), (208, .iconst 0, 209, [], none), (209, .putfield 275, 212, [12, 59, 0, 719, 0, 0], none), (212, .aload_n 0, 213, [], some [0]), (213, .iconst 0, 214, [], none), (214, .putfield 278, 217, [12, 74, 0, 720, 0, 0], none), (217, .iconst 0, 218, [], none), (218, .istore_n 1, 219, [], none), (219, .iload_n 1, 220, [], some [0, 1]), (220, .iconst 3, 221, [], none), (221, .if_icmp .ge 16, 224, [237], none), (224, .aload_n 0, 225, [], none), (225, .getfield 170, 228, [12, 80, 2, 657, 0], none), (228, .iload_n 1, 229, [], none), (229, .iconst 0, 230, [], none), (230, .bastore, 231, [22], none), (231, .iinc 1 1, 234, [], none), (234, .goto (-15), 237, [219], none), (237, .iconst 0, 238, [], some []), (238, .ireturn, 239, [0], none)]
def zc_X12_place : List zE := [(0, .aload_n 0, 1, [], none), (1, .getfield 37, 4, [12, 17, 0, 612, 0], none), (4, .ireturn, 5, [0], none)]
def zc_X12_roomFor : List zE := [(0, .iload_n 1, 1, [], none), (1, .iload_n 2, 2, [], none), (2, .if_icmp .ne 8, 5, [10], none), (5, .aload_n 0, 6, [], none), (6, .iconst 2, 7, [], none), (7, .invokevirtual 242, 10, [168, 1, 0, 12, 698, 699, 700, 662], none), (10, .aload_n 0, 11, [], some [0]), (11, .getfield 227, 14, [12, 13, 0, 693, 0], none), (14, .ifCond .ne 7, 17, [21], none), (17, .aload_n 0, 18, [], none), (18, .invokevirtual 248, 21, [170, 0, 0, 12, 704, 705, 706, 662], none), (21, .return_, 22, [], some [])]
def zc_X12_toldInt : List zE := [(0, .aload_n 0, 1, [], none), (1, .invokevirtual 248, 4, [170, 0, 0, 12, 704, 705, 706, 662], none), (4, .aload_n 0, 5, [], none), (5, .iload_n 1, 6, [], none), (6, .iload_n 2, 7, [], none), (7, .invokevirtual 281, 10, [180, 2, 1, 12, 721, 722, 723, 662], none), (10, .istore_n 3, 11, [], none), (11, .aload_n 0, 12, [], none), (12, .iconst 4, 13, [], none), (13, .invokevirtual 285, 16, [171, 1, 0, 12, 724, 725, 726, 662], none), (16, .iload_n 3, 17, [], none), (17, .ireturn, 18, [0], none)]
def zc_X12_tellOne : List zE := [(0, .aload_n 0, 1, [], none), (1, .getfield 20, 4, [12, 5, 2, 607, 0], none), (4, .aload_n 0, 5, [], none), (5, .getfield 230, 8, [12, 11, 0, 694, 0], none), (8, .iaload, 9, [20], none), (9, .tableswitch 198 20 29 #[55, 84, 112, 198, 198, 198, 198, 140, 159, 178], 64, [207, 64, 93, 121, 207, 207, 207, 207, 149, 168, 187], none), (64, .aload_n 0, 65, [], some [0]), (65, .aload_n 0, 66, [], none), (66, .getfield 43, 69, [12, 22, 2, 614, 0], none), (69, .aload_n 0, 70, [], none), (70, .getfield 260, 73, [12, 19, 0, 712, 0], none), (73, .iaload, 74, [20], none), (74, .bipush 7, 76, [], none), (76, .invokevirtual 288, 79, [175, 2, 0, 12, 727, 728, 729, 662], none), (79, .aload_n 0, 80, [], none), (80, .getfield 227, 83, [12, 13, 0, 693, 0], none), (83, .ifCond .ne 177, 86, [260], none), (86, .aload_n 0, 87, [], none), (87, .invokevirtual 292, 90, [181, 0, 0, 12, 730, 731, 732, 662], none), (90, .goto 170, 93, [260], none), (93, .aload_n 0, 94, [], some [0]), (94, .aload_n 0, 95, [], none), (95, .getfield 55, 98, [12, 26, 2, 618, 0], none), (98, .aload_n 0, 99, [], none), (99, .getfield 260, 102, [12, 19, 0, 712, 0], none), (102, .iaload, 103, [20], none), (103, .iconst 5, 104, [], none), (104, .invokevirtual 288, 107, [175, 2, 0, 12, 727, 728, 729, 662], none), (107, .aload_n 0, 108, [], none), (108, .getfield 227, 111, [12, 13, 0, 693, 0], none), (111, .ifCond .ne 149, 114, [260], none), (114, .aload_n 0, 115, [], none), (115, .invokevirtual 295, 118, [182, 0, 0, 12, 733, 734, 735, 662], none), (118, .goto 142, 121, [260], none), (121, .aload_n 0, 122, [], some [0]), (122, .aload_n 0, 123, [], none), (123, .getfield 64, 126, [12, 29, 2, 621, 0], none), (126, .aload_n 0, 127, [], none), (127, .getfield 260, 130, [12, 19, 0, 712, 0], none), (130, .iaload, 131, [20], none), (131, .iconst 5, 132, [], none), (132, .invokevirtual 288, 135, [175, 2, 0, 12, 727, 728, 729, 662], none), (135, .aload_n 0, 136, [], none), (136, .getfield 227, 139, [12, 13, 0, 693, 0], none), (139, .ifCond .ne 121, 142, [260], none), (142, .aload_n 0, 143, [], none), (143, .invokevirtual 298, 146, [183, 0, 0, 12, 736, 737, 738, 662], none), (146, .goto 114, 149, [260], none), (149, .aload_n 0, 150, [], some [0]), (150, .getfield 76, 153, [12, 33, 2, 625, 0], none), (153, .aload_n 0, 154, [], none), (154, .getfield 260, 157, [12, 19, 0, 712, 0], none), (157, .aload_n 0, 158, [], none), (158, .iconst 1, 159, [], none), (159, .bipush 99, 161, [], none), (161, .invokevirtual 301, 164, [176, 2, 1, 12, 739, 740, 741, 662], none), (164, .iastore, 165, [20], none), (165, .goto 95, 168, [260], none), (168, .aload_n 0, 169, [], some [0]), (169, .getfield 79, 172, [12, 34, 2, 626, 0], none), (172, .aload_n 0, 173, [], none), (173, .getfield 260, 176, [12, 19, 0, 712, 0], none), (176, .aload_n 0, 177, [], none), (177, .iconst 0, 178, [], none), (178, .bipush 100, 180, [], none), (180, .invokevirtual 301, 183, [176, 2, 1, 12, 739, 740, 741, 662], none), (183, .iastore, 184, [20], none), (184, .goto 76, 187, [260], none), (187, .aload_n 0, 188, [], some [0]), (188, .getfield 82, 191, [12, 35, 2, 627, 0], none), (191, .aload_n 0, 192, [], none), (192, .getfield 260, 195, [12, 19, 0, 712, 0], none), (195, .aload_n 0, 196, [], none), (196, .iconst 0, 197, [], none), (197, .sipush 9999, 200, [], none), (200, .invokevirtual 301, 203, [176, 2, 1, 12, 739, 740, 741, 662], none), (203, .iastore, 204, [20], none), (204, .goto 56, 207, [260], none), (207, .aload_n 0, 208, [], some [0]), (208, .getfield 20, 211, [12, 5, 2, 607, 0], none), (211, .aload_n 0, 212, [], none), (212, .getfield 230, 215, [12, 11, 0, 694, 0], none), (215, .iaload, 216, [20], none), (216, .bipush 23, 218, [], none), (218, .isub, 219, [], none), (219, .istore_n 1, 220, [], none), (220, .iload_n 1, 221, [], none), (221, .ifCond .lt 17, 224, [238], none), (224, .aload_n 0, 225, [], none), (225, .getfield 20, 228, [12, 5, 2, 607, 0], none), (228, .aload_n 0, 229, [], none), (229, .getfield 230, 232, [12, 11, 0, 694, 0], none), (232, .iaload, 233, [20], none), (233, .bipush 26, 235, [], none), (235, .if_icmp .le 8, 238, [243], none), (238, .aload_n 0, 239, [], some [0, 1]), (239, .iconst 1, 240, [], none), (240, .invokevirtual 242, 243, [168, 1, 0, 12, 698, 699, 700, 662], none), (243, .aload_n 0, 244, [], some [0, 1]), (244, .getfield 227, 247, [12, 13, 0, 693, 0], none), (247, .ifCond .le 4, 250, [251], none), (250, .return_, 251, [], none), (251, .aload_n 0, 252, [], some [0, 1]), (252, .invokevirtual 248, 255, [170, 0, 0, 12, 704, 705, 706, 662], none), (255, .aload_n 0, 256, [], none), (256, .iload_n 1, 257, [], none), (257, .invokevirtual 304, 260, [184, 1, 0, 12, 742, 743, 744, 662], none), (260, .return_, 261, [], some [])]
def zc_X12_named : List zE := [(0, .aload_n 0, 1, [], none), (1, .getfield 230, 4, [12, 11, 0, 694, 0], none), (4, .istore_n 1, 5, [], none), (5, .aload_n 0, 6, [], none), (6, .iconst 1, 7, [], none), (7, .invokevirtual 285, 10, [171, 1, 0, 12, 724, 725, 726, 662], none), (10, .iconst 0, 11, [], none), (11, .istore_n 2, 12, [], none), (12, .iload_n 2, 13, [], some [0, 1, 2]), (13, .aload_n 0, 14, [], none), (14, .getfield 263, 17, [12, 20, 0, 713, 0], none), (17, .if_icmp .ge 38, 20, [55], none), (20, .aload_n 0, 21, [], none), (21, .getfield 227, 24, [12, 13, 0, 693, 0], none), (24, .ifCond .ne 31, 27, [55], none), (27, .aload_n 0, 28, [], none), (28, .getfield 40, 31, [12, 21, 2, 613, 0], none), (31, .iload_n 2, 32, [], none), (32, .laload, 33, [23], none), (33, .aload_n 0, 34, [], none), (34, .getfield 30, 37, [12, 8, 2, 610, 0], none), (37, .iload_n 1, 38, [], none), (38, .laload, 39, [23], none), (39, .lcmp, 40, [], none), (40, .ifCond .ne 9, 43, [49], none), (43, .aload_n 0, 44, [], none), (44, .iconst 3, 45, [], none), (45, .iload_n 1, 46, [], none), (46, .invokevirtual 307, 49, [169, 2, 0, 12, 745, 746, 747, 662], none), (49, .iinc 2 1, 52, [], some [0, 1, 2]), (52, .goto (-40), 55, [12], none), (55, .iload_n 1, 56, [], some [1]), (56, .ireturn, 57, [0], none)]
def zc_X12_ends : List zE := [(0, .aload_n 0, 1, [], none), (1, .iconst 4, 2, [], none), (2, .invokevirtual 285, 5, [171, 1, 0, 12, 724, 725, 726, 662], none), (5, .aload_n 0, 6, [], none), (6, .getfield 227, 9, [12, 13, 0, 693, 0], none), (9, .ifCond .le 4, 12, [13], none), (12, .return_, 13, [], none), (13, .aload_n 0, 14, [], some [0, 1]), (14, .getfield 40, 17, [12, 21, 2, 613, 0], none), (17, .aload_n 0, 18, [], none), (18, .getfield 263, 21, [12, 20, 0, 713, 0], none), (21, .aload_n 0, 22, [], none), (22, .getfield 30, 25, [12, 8, 2, 610, 0], none), (25, .iload_n 1, 26, [], none), (26, .laload, 27, [23], none), (27, .lastore, 28, [23], none), (28, .aload_n 0, 29, [], none), (29, .dup, 30, [], none), (30, .getfield 263, 33, [12, 20, 0, 713, 0], none), (33, .iconst 1, 34, [], none), (34, .iadd, 35, [], none), (35, .putfield 263, 38, [12, 20, 0, 713, 0, 0], none), (38, .return_, 39, [], none)]
def zc_X12_bounded : List zE := [(0, .aload_n 0, 1, [], none), (1, .getfield 227, 4, [12, 13, 0, 693, 0], none), (4, .ifCond .gt 11, 7, [15], none), (7, .aload_n 0, 8, [], none), (8, .iconst 2, 9, [], none), (9, .invokevirtual 245, 12, [167, 1, 1, 12, 701, 702, 703, 662], none), (12, .ifCond .ne 10, 15, [22], none), (15, .aload_n 0, 16, [], some [0, 1]), (16, .iconst 1, 17, [], none), (17, .invokevirtual 242, 20, [168, 1, 0, 12, 698, 699, 700, 662], none), (20, .iload_n 1, 21, [], none), (21, .ireturn, 22, [0], none), (22, .aload_n 0, 23, [], some [0, 1, 2]), (23, .getfield 27, 26, [12, 7, 2, 609, 0], none), (26, .aload_n 0, 27, [], none), (27, .getfield 230, 30, [12, 11, 0, 694, 0], none), (30, .iaload, 31, [20], none), (31, .istore_n 3, 32, [], none), (32, .iload_n 3, 33, [], none), (33, .iload_n 1, 34, [], none), (34, .if_icmp .lt 8, 37, [42], none), (37, .iload_n 3, 38, [], none), (38, .iload_n 2, 39, [], none), (39, .if_icmp .le 12, 42, [51], none), (42, .aload_n 0, 43, [], some [0, 3]), (43, .iconst 5, 44, [], none), (44, .aload_n 0, 45, [], none), (45, .getfield 230, 48, [12, 11, 0, 694, 0], none), (48, .invokevirtual 307, 51, [169, 2, 0, 12, 745, 746, 747, 662], none), (51, .aload_n 0, 52, [], some [0, 3]), (52, .invokevirtual 248, 55, [170, 0, 0, 12, 704, 705, 706, 662], none), (55, .iload_n 3, 56, [], none), (56, .ireturn, 57, [0], none)]
def zc_X12_tellLoad : List zE := [(0, .bipush 7, 2, [], none), (2, .aload_n 0, 3, [], none), (3, .getfield 260, 6, [12, 19, 0, 712, 0], none), (6, .imul, 7, [], none), (7, .aload_n 0, 8, [], none), (8, .getfield 43, 11, [12, 22, 2, 614, 0], none), (11, .aload_n 0, 12, [], none), (12, .getfield 260, 15, [12, 19, 0, 712, 0], none), (15, .iaload, 16, [20], none), (16, .iadd, 17, [], none), (17, .istore_n 1, 18, [], none), (18, .aload_n 0, 19, [], none), (19, .invokevirtual 310, 22, [178, 0, 1, 12, 748, 749, 750, 662], none), (22, .istore_n 2, 23, [], none), (23, .aload_n 0, 24, [], none), (24, .getfield 46, 27, [12, 23, 2, 615, 0], none), (27, .iload_n 1, 28, [], none), (28, .aload_n 0, 29, [], none), (29, .iconst 0, 30, [], none), (30, .bipush 19, 32, [], none), (32, .invokevirtual 281, 35, [180, 2, 1, 12, 721, 722, 723, 662], none), (35, .iastore, 36, [20], none), (36, .aload_n 0, 37, [], none), (37, .getfield 49, 40, [12, 24, 2, 616, 0], none), (40, .iload_n 1, 41, [], none), (41, .aload_n 0, 42, [], none), (42, .iconst 1, 43, [], none), (43, .bipush 9, 45, [], none), (45, .invokevirtual 281, 48, [180, 2, 1, 12, 721, 722, 723, 662], none), (48, .iastore, 49, [20], none), (49, .aload_n 0, 50, [], some [0, 1, 2]), (50, .getfield 52, 53, [12, 25, 2, 617, 0], none), (53, .iload_n 1, 54, [], none), (54, .aload_n 0, 55, [], none), (55, .iconst 0, 56, [], none), (56, .bipush 99, 58, [], none), (58, .invokevirtual 281, 61, [180, 2, 1, 12, 721, 722, 723, 662], none), (61, .iastore, 62, [20], none), (62, .aload_n 0, 63, [], none), (63, .iload_n 2, 64, [], none), (64, .invokevirtual 314, 67, [179, 1, 0, 12, 751, 752, 753, 662], none), (67, .aload_n 0, 68, [], none), (68, .getfield 227, 71, [12, 13, 0, 693, 0], none), (71, .ifCond .ne 16, 74, [87], none), (74, .aload_n 0, 75, [], none), (75, .getfield 43, 78, [12, 22, 2, 614, 0], none), (78, .aload_n 0, 79, [], none), (79, .getfield 260, 82, [12, 19, 0, 712, 0], none), (82, .dup2, 83, [], none), (83, .iaload, 84, [20], none), (84, .iconst 1, 85, [], none), (85, .iadd, 86, [], none), (86, .iastore, 87, [20], none), (87, .return_, 88, [], some [])]
def zc_X12_tellSilk : List zE := [(0, .iconst 5, 1, [], none), (1, .aload_n 0, 2, [], none), (2, .getfield 260, 5, [12, 19, 0, 712, 0], none), (5, .imul, 6, [], none), (6, .aload_n 0, 7, [], none), (7, .getfield 55, 10, [12, 26, 2, 618, 0], none), (10, .aload_n 0, 11, [], none), (11, .getfield 260, 14, [12, 19, 0, 712, 0], none), (14, .iaload, 15, [20], none), (15, .iadd, 16, [], none), (16, .istore_n 1, 17, [], none), (17, .aload_n 0, 18, [], none), (18, .invokevirtual 310, 21, [178, 0, 1, 12, 748, 749, 750, 662], none), (21, .istore_n 2, 22, [], none), (22, .aload_n 0, 23, [], none), (23, .getfield 58, 26, [12, 27, 2, 619, 0], none), (26, .iload_n 1, 27, [], none), (27, .aload_n 0, 28, [], none), (28, .iconst 1, 29, [], none), (29, .bipush 9, 31, [], none), (31, .invokevirtual 281, 34, [180, 2, 1, 12, 721, 722, 723, 662], none), (34, .iastore, 35, [20], none), (35, .aload_n 0, 36, [], none), (36, .getfield 227, 39, [12, 13, 0, 693, 0], none), (39, .ifCond .ne 16, 42, [55], none), (42, .aload_n 0, 43, [], none), (43, .bipush 9, 45, [], none), (45, .invokevirtual 245, 48, [167, 1, 1, 12, 701, 702, 703, 662], none), (48, .ifCond .eq 7, 51, [55], none), (51, .iconst 1, 52, [], some [0, 1, 2]), (52, .goto 4, 55, [56], none), (55, .iconst 0, 56, [], some [0, 1, 2]), (56, .istore_n 3, 57, [], some [0, 1, 2]), (57, .iload_n 3, 58, [], none), (58, .ifCond .eq 7, 61, [65], none), (61, .aload_n 0, 62, [], none), (62, .invokevirtual 248, 65, [170, 0, 0, 12, 704, 705, 706, 662], none), (65, .aload_n 0, 66, [], some [0, 1, 2, 3]), (66, .iconst 0, 67, [], none), (67, .iconst 3, 68, [], none), (68, .invokevirtual 281, 71, [180, 2, 1, 12, 721, 722, 723, 662], none), (71, .istore 4, 73, [], none), (73, .aload_n 0, 74, [], none), (74, .getfield 61, 77, [12, 28, 2, 620, 0], none), (77, .iload_n 1, 78, [], none), (78, .iload_n 3, 79, [], none), (79, .ifCond .eq 9, 82, [88], none), (82, .iload 4, 84, [], none), (84, .ineg, 85, [], none), (85, .goto 5, 88, [90], none), (88, .iload 4, 90, [], some [0, 2, 4]), (90, .iastore, 91, [20], some [0, 2]), (91, .aload_n 0, 92, [], none), (92, .iload_n 2, 93, [], none), (93, .invokevirtual 314, 96, [179, 1, 0, 12, 751, 752, 753, 662], none), (96, .aload_n 0, 97, [], none), (97, .getfield 227, 100, [12, 13, 0, 693, 0], none), (100, .ifCond .ne 16, 103, [116], none), (103, .aload_n 0, 104, [], none), (104, .getfield 55, 107, [12, 26, 2, 618, 0], none), (107, .aload_n 0, 108, [], none), (108, .getfield 260, 111, [12, 19, 0, 712, 0], none), (111, .dup2, 112, [], none), (112, .iaload, 113, [20], none), (113, .iconst 1, 114, [], none), (114, .iadd, 115, [], none), (115, .iastore, 116, [20], none), (116, .return_, 117, [], some [])]
def zc_X12_tellHook : List zE := [(0, .iconst 5, 1, [], none), (1, .aload_n 0, 2, [], none), (2, .getfield 260, 5, [12, 19, 0, 712, 0], none), (5, .imul, 6, [], none), (6, .aload_n 0, 7, [], none), (7, .getfield 64, 10, [12, 29, 2, 621, 0], none), (10, .aload_n 0, 11, [], none), (11, .getfield 260, 14, [12, 19, 0, 712, 0], none), (14, .iaload, 15, [20], none), (15, .iadd, 16, [], none), (16, .istore_n 1, 17, [], none), (17, .aload_n 0, 18, [], none), (18, .invokevirtual 310, 21, [178, 0, 1, 12, 748, 749, 750, 662], none), (21, .istore_n 2, 22, [], none), (22, .aload_n 0, 23, [], none), (23, .getfield 67, 26, [12, 30, 2, 622, 0], none), (26, .iload_n 1, 27, [], none), (27, .aload_n 0, 28, [], none), (28, .iconst 0, 29, [], none), (29, .bipush 19, 31, [], none), (31, .invokevirtual 281, 34, [180, 2, 1, 12, 721, 722, 723, 662], none), (34, .iastore, 35, [20], none), (35, .aload_n 0, 36, [], none), (36, .getfield 70, 39, [12, 31, 2, 623, 0], none), (39, .iload_n 1, 40, [], none), (40, .aload_n 0, 41, [], none), (41, .iconst 0, 42, [], none), (42, .iconst 5, 43, [], none), (43, .invokevirtual 281, 46, [180, 2, 1, 12, 721, 722, 723, 662], none), (46, .iastore, 47, [20], none), (47, .aload_n 0, 48, [], some [0, 1, 2]), (48, .getfield 73, 51, [12, 32, 2, 624, 0], none), (51, .iload_n 1, 52, [], none), (52, .aload_n 0, 53, [], none), (53, .iconst 1, 54, [], none), (54, .bipush 9, 56, [], none), (56, .invokevirtual 281, 59, [180, 2, 1, 12, 721, 722, 723, 662], none), (59, .iastore, 60, [20], none), (60, .aload_n 0, 61, [], none), (61, .iload_n 2, 62, [], none), (62, .invokevirtual 314, 65, [179, 1, 0, 12, 751, 752, 753, 662], none), (65, .aload_n 0, 66, [], none), (66, .getfield 227, 69, [12, 13, 0, 693, 0], none), (69, .ifCond .ne 16, 72, [85], none), (72, .aload_n 0, 73, [], none), (73, .getfield 64, 76, [12, 29, 2, 621, 0], none), (76, .aload_n 0, 77, [], none), (77, .getfield 260, 80, [12, 19, 0, 712, 0], none), (80, .dup2, 81, [], none), (81, .iaload, 82, [20], none), (82, .iconst 1, 83, [], none), (83, .iadd, 84, [], none), (84, .iastore, 85, [20], none), (85, .return_, 86, [], some [])]
def zc_X12_tellLaw : List zE := [(0, .aload_n 0, 1, [], none), (1, .iconst 5, 2, [], none), (2, .invokevirtual 285, 5, [171, 1, 0, 12, 724, 725, 726, 662], none), (5, .aload_n 0, 6, [], none), (6, .getfield 266, 9, [12, 38, 0, 714, 0], none), (9, .istore_n 2, 10, [], none), (10, .iconst 0, 11, [], none), (11, .istore_n 3, 12, [], none), (12, .aload_n 0, 13, [], some [0, 1, 2, 3]), (13, .getfield 227, 16, [12, 13, 0, 693, 0], none), (16, .ifCond .ne 113, 19, [129], none), (19, .aload_n 0, 20, [], none), (20, .bipush 30, 22, [], none), (22, .invokevirtual 245, 25, [167, 1, 1, 12, 701, 702, 703, 662], none), (25, .ifCond .eq 104, 28, [129], none), (28, .iload_n 3, 29, [], none), (29, .iconst 4, 30, [], none), (30, .if_icmp .ne 8, 33, [38], none), (33, .aload_n 0, 34, [], none), (34, .iconst 2, 35, [], none), (35, .invokevirtual 242, 38, [168, 1, 0, 12, 698, 699, 700, 662], none), (38, .aload_n 0, 39, [], some [0, 1, 2, 3]), (39, .getfield 227, 42, [12, 13, 0, 693, 0], none), (42, .ifCond .le 4, 45, [46], none), (45, .return_, 46, [], none), (46, .iinc 3 1, 49, [], some [0, 1, 2, 3]), (49, .aload_n 0, 50, [], none), (50, .invokevirtual 248, 53, [170, 0, 0, 12, 704, 705, 706, 662], none), (53, .aload_n 0, 54, [], none), (54, .getfield 91, 57, [12, 39, 2, 631, 0], none), (57, .aload_n 0, 58, [], none), (58, .getfield 266, 61, [12, 38, 0, 714, 0], none), (61, .iconst 1, 62, [], none), (62, .bastore, 63, [22], none), (63, .aload_n 0, 64, [], none), (64, .getfield 95, 67, [12, 40, 2, 632, 0], none), (67, .aload_n 0, 68, [], none), (68, .getfield 266, 71, [12, 38, 0, 714, 0], none), (71, .aload_n 0, 72, [], none), (72, .getfield 269, 75, [12, 44, 0, 715, 0], none), (75, .iastore, 76, [20], none), (76, .aload_n 0, 77, [], none), (77, .invokevirtual 317, 80, [188, 0, 0, 12, 754, 755, 756, 662], none), (80, .aload_n 0, 81, [], some [0, 1, 2, 3]), (81, .bipush 13, 83, [], none), (83, .invokevirtual 285, 86, [171, 1, 0, 12, 724, 725, 726, 662], none), (86, .aload_n 0, 87, [], none), (87, .getfield 98, 90, [12, 41, 2, 633, 0], none), (90, .aload_n 0, 91, [], none), (91, .getfield 266, 94, [12, 38, 0, 714, 0], none), (94, .aload_n 0, 95, [], none), (95, .getfield 269, 98, [12, 44, 0, 715, 0], none), (98, .iastore, 99, [20], none), (99, .aload_n 0, 100, [], none), (100, .getfield 227, 103, [12, 13, 0, 693, 0], none), (103, .ifCond .ne 7, 106, [110], none), (106, .aload_n 0, 107, [], none), (107, .invokevirtual 317, 110, [188, 0, 0, 12, 754, 755, 756, 662], none), (110, .aload_n 0, 111, [], some [0, 1, 2, 3]), (111, .bipush 31, 113, [], none), (113, .invokevirtual 285, 116, [171, 1, 0, 12, 724, 725, 726, 662], none), (116, .aload_n 0, 117, [], none), (117, .invokevirtual 320, 120, [185, 0, 0, 12, 757, 758, 759, 662], none), (120, .aload_n 0, 121, [], none), (121, .bipush 32, 123, [], none), (123, .invokevirtual 285, 126, [171, 1, 0, 12, 724, 725, 726, 662], none), (126, .goto (-114), 129, [12], none), (129, .aload_n 0, 130, [], some [0, 1, 2]), (130, .getfield 91, 133, [12, 39, 2, 631, 0], none), (133, .aload_n 0, 134, [], none), (134, .getfield 266, 137, [12, 38, 0, 714, 0], none), (137, .iconst 0, 138, [], none), (138, .bastore, 139, [22], none), (139, .aload_n 0, 140, [], none), (140, .invokevirtual 320, 143, [185, 0, 0, 12, 757, 758, 759, 662], none), (143, .aload_n 0, 144, [], none), (144, .iconst 4, 145, [], none), (145, .invokevirtual 285, 148, [171, 1, 0, 12, 724, 725, 726, 662], none), (148, .aload_n 0, 149, [], none), (149, .getfield 227, 152, [12, 13, 0, 693, 0], none), (152, .ifCond .le 4, 155, [156], none), (155, .return_, 156, [], none), (156, .aload_n 0, 157, [], some [0, 1, 2]), (157, .getfield 85, 160, [12, 36, 2, 628, 0], none), (160, .iconst 4, 161, [], none), (161, .aload_n 0, 162, [], none), (162, .getfield 260, 165, [12, 19, 0, 712, 0], none), (165, .imul, 166, [], none), (166, .iload_n 1, 167, [], none), (167, .iadd, 168, [], none), (168, .iload_n 2, 169, [], none), (169, .iastore, 170, [20], none), (170, .aload_n 0, 171, [], none), (171, .getfield 88, 174, [12, 37, 2, 629, 0], none), (174, .iconst 4, 175, [], none), (175, .aload_n 0, 176, [], none), (176, .getfield 260, 179, [12, 19, 0, 712, 0], none), (179, .imul, 180, [], none), (180, .iload_n 1, 181, [], none), (181, .iadd, 182, [], none), (182, .aload_n 0, 183, [], none), (183, .getfield 266, 186, [12, 38, 0, 714, 0], none), (186, .iastore, 187, [20], none), (187, .return_, 188, [], none)]
def zc_X12_term : List zE := [(0, .aload_n 0, 1, [], none), (1, .getfield 101, 4, [12, 42, 2, 634, 0], none), (4, .aload_n 0, 5, [], none), (5, .getfield 266, 8, [12, 38, 0, 714, 0], none), (8, .aload_n 0, 9, [], none), (9, .getfield 269, 12, [12, 44, 0, 715, 0], none), (12, .iastore, 13, [20], none), (13, .aload_n 0, 14, [], none), (14, .getfield 227, 17, [12, 13, 0, 693, 0], none), (17, .ifCond .ne 7, 20, [24], none), (20, .aload_n 0, 21, [], none), (21, .invokevirtual 317, 24, [188, 0, 0, 12, 754, 755, 756, 662], none), (24, .aload_n 0, 25, [], some [0]), (25, .getfield 104, 28, [12, 43, 2, 635, 0], none), (28, .aload_n 0, 29, [], none), (29, .getfield 266, 32, [12, 38, 0, 714, 0], none), (32, .aload_n 0, 33, [], none), (33, .getfield 269, 36, [12, 44, 0, 715, 0], none), (36, .iastore, 37, [20], none), (37, .aload_n 0, 38, [], none), (38, .dup, 39, [], none), (39, .getfield 266, 42, [12, 38, 0, 714, 0], none), (42, .iconst 1, 43, [], none), (43, .iadd, 44, [], none), (44, .putfield 266, 47, [12, 38, 0, 714, 0, 0], none), (47, .return_, 48, [], none)]
def zc_X12_emit : List zE := [(0, .aload_n 0, 1, [], none), (1, .getfield 107, 4, [12, 45, 2, 636, 0], none), (4, .aload_n 0, 5, [], none), (5, .getfield 269, 8, [12, 44, 0, 715, 0], none), (8, .iload_n 1, 9, [], none), (9, .iastore, 10, [20], none), (10, .aload_n 0, 11, [], none), (11, .getfield 110, 14, [12, 46, 2, 637, 0], none), (14, .aload_n 0, 15, [], none), (15, .getfield 269, 18, [12, 44, 0, 715, 0], none), (18, .iload_n 2, 19, [], none), (19, .iastore, 20, [20], none), (20, .aload_n 0, 21, [], none), (21, .dup, 22, [], none), (22, .getfield 269, 25, [12, 44, 0, 715, 0], none), (25, .iconst 1, 26, [], none), (26, .iadd, 27, [], none), (27, .putfield 269, 30, [12, 44, 0, 715, 0, 0], none), (30, .return_, 31, [], none)]
def zc_X12_comesOut : List zE := [(0, .aload_n 0, 1, [], some [0, 1]), (1, .getfield 323, 4, [12, 48, 0, 760, 0], none), (4, .ifCond .le 87, 7, [91], none), (7, .aload_n 0, 8, [], none), (8, .getfield 113, 11, [12, 47, 2, 638, 0], none), (11, .aload_n 0, 12, [], none), (12, .getfield 323, 15, [12, 48, 0, 760, 0], none), (15, .iconst 1, 16, [], none), (16, .isub, 17, [], none), (17, .iaload, 18, [20], none), (18, .istore_n 2, 19, [], none), (19, .iload_n 2, 20, [], none), (20, .bipush 6, 22, [], none), (22, .if_icmp .eq 19, 25, [41], none), (25, .iload_n 1, 26, [], none), (26, .ifCond .eq 16, 29, [42], none), (29, .iload_n 2, 30, [], none), (30, .bipush 8, 32, [], none), (32, .if_icmp .eq 9, 35, [41], none), (35, .iload_n 2, 36, [], none), (36, .bipush 9, 38, [], none), (38, .if_icmp .ne 4, 41, [42], none), (41, .return_, 42, [], some []), (42, .aload_n 0, 43, [], some [0, 1, 2]), (43, .dup, 44, [], none), (44, .getfield 323, 47, [12, 48, 0, 760, 0], none), (47, .iconst 1, 48, [], none), (48, .isub, 49, [], none), (49, .putfield 323, 52, [12, 48, 0, 760, 0, 0], none), (52, .aload_n 0, 53, [], none), (53, .iload_n 2, 54, [], none), (54, .bipush 8, 56, [], none), (56, .if_icmp .ne 7, 59, [63], none), (59, .iconst 2, 60, [], none), (60, .goto 24, 63, [84], none), (63, .iload_n 2, 64, [], some [0, 1, 2]), (64, .bipush 9, 66, [], none), (66, .if_icmp .ne 7, 69, [73], none), (69, .iconst 3, 70, [], none), (70, .goto 14, 73, [84], none), (73, .iload_n 2, 74, [], some [0, 1, 2]), (74, .bipush 10, 76, [], none), (76, .if_icmp .ne 7, 79, [83], none), (79, .iconst 4, 80, [], none), (80, .goto 4, 83, [84], none), (83, .iconst 5, 84, [], some [0, 1]), (84, .iconst 0, 85, [], some [0, 1]), (85, .invokevirtual 326, 88, [186, 2, 0, 12, 761, 762, 763, 662], none), (88, .goto (-88), 91, [0], none), (91, .return_, 92, [], some [])]
def zc_X12_expression : List zE := [(0, .aload_n 0, 1, [], none), (1, .iconst 0, 2, [], none), (2, .putfield 323, 5, [12, 48, 0, 760, 0, 0], none), (5, .aload_n 0, 6, [], none), (6, .getfield 254, 9, [12, 12, 0, 710, 0], none), (9, .istore_n 1, 10, [], none), (10, .iconst 1, 11, [], none), (11, .istore_n 2, 12, [], none), (12, .iload_n 2, 13, [], some [0, 1, 2]), (13, .ifCond .eq 259, 16, [272], none), (16, .aload_n 0, 17, [], none), (17, .getfield 227, 20, [12, 13, 0, 693, 0], none), (20, .ifCond .ne 252, 23, [272], none), (23, .aload_n 0, 24, [], some [0, 1]), (24, .bipush 6, 26, [], none), (26, .invokevirtual 245, 29, [167, 1, 1, 12, 701, 702, 703, 662], none), (29, .ifCond .eq 55, 32, [84], none), (32, .aload_n 0, 33, [], none), (33, .getfield 254, 36, [12, 12, 0, 710, 0], none), (36, .bipush 6, 38, [], none), (38, .if_icmp .ne 8, 41, [46], none), (41, .aload_n 0, 42, [], none), (42, .iconst 2, 43, [], none), (43, .invokevirtual 242, 46, [168, 1, 0, 12, 698, 699, 700, 662], none), (46, .aload_n 0, 47, [], some [0, 1]), (47, .dup, 48, [], none), (48, .getfield 254, 51, [12, 12, 0, 710, 0], none), (51, .iconst 1, 52, [], none), (52, .iadd, 53, [], none), (53, .putfield 254, 56, [12, 12, 0, 710, 0, 0], none), (56, .aload_n 0, 57, [], none), (57, .invokevirtual 248, 60, [170, 0, 0, 12, 704, 705, 706, 662], none), (60, .aload_n 0, 61, [], none), (61, .getfield 113, 64, [12, 47, 2, 638, 0], none), (64, .aload_n 0, 65, [], none), (65, .getfield 323, 68, [12, 48, 0, 760, 0], none), (68, .bipush 6, 70, [], none), (70, .iastore, 71, [20], none), (71, .aload_n 0, 72, [], none), (72, .dup, 73, [], none), (73, .getfield 323, 76, [12, 48, 0, 760, 0], none), (76, .iconst 1, 77, [], none), (77, .iadd, 78, [], none), (78, .putfield 323, 81, [12, 48, 0, 760, 0, 0], none), (81, .goto (-58), 84, [23], some [0, 1]), (84, .aload_n 0, 85, [], some [0, 1]), (85, .invokevirtual 329, 88, [189, 0, 0, 12, 764, 765, 766, 662], none), (88, .aload_n 0, 89, [], none), (89, .getfield 227, 92, [12, 13, 0, 693, 0], none), (92, .ifCond .le 4, 95, [96], none), (95, .return_, 96, [], none), (96, .aload_n 0, 97, [], some [0, 1]), (97, .bipush 7, 99, [], none), (99, .invokevirtual 245, 102, [167, 1, 1, 12, 701, 702, 703, 662], none), (102, .ifCond .eq 43, 105, [145], none), (105, .aload_n 0, 106, [], none), (106, .getfield 254, 109, [12, 12, 0, 710, 0], none), (109, .iload_n 1, 110, [], none), (110, .if_icmp .le 35, 113, [145], none), (113, .aload_n 0, 114, [], none), (114, .iconst 0, 115, [], none), (115, .invokevirtual 332, 118, [187, 1, 0, 12, 767, 768, 769, 662], none), (118, .aload_n 0, 119, [], none), (119, .dup, 120, [], none), (120, .getfield 323, 123, [12, 48, 0, 760, 0], none), (123, .iconst 1, 124, [], none), (124, .isub, 125, [], none), (125, .putfield 323, 128, [12, 48, 0, 760, 0, 0], none), (128, .aload_n 0, 129, [], none), (129, .dup, 130, [], none), (130, .getfield 254, 133, [12, 12, 0, 710, 0], none), (133, .iconst 1, 134, [], none), (134, .isub, 135, [], none), (135, .putfield 254, 138, [12, 12, 0, 710, 0, 0], none), (138, .aload_n 0, 139, [], some [0, 1]), (139, .invokevirtual 248, 142, [170, 0, 0, 12, 704, 705, 706, 662], none), (142, .goto (-46), 145, [96], none), (145, .aload_n 0, 146, [], some [0, 1]), (146, .bipush 8, 148, [], none), (148, .invokevirtual 245, 151, [167, 1, 1, 12, 701, 702, 703, 662], none), (151, .ifCond .ne 30, 154, [181], none), (154, .aload_n 0, 155, [], none), (155, .bipush 9, 157, [], none), (157, .invokevirtual 245, 160, [167, 1, 1, 12, 701, 702, 703, 662], none), (160, .ifCond .ne 21, 163, [181], none), (163, .aload_n 0, 164, [], none), (164, .bipush 10, 166, [], none), (166, .invokevirtual 245, 169, [167, 1, 1, 12, 701, 702, 703, 662], none), (169, .ifCond .ne 12, 172, [181], none), (172, .aload_n 0, 173, [], none), (173, .bipush 15, 175, [], none), (175, .invokevirtual 245, 178, [167, 1, 1, 12, 701, 702, 703, 662], none), (178, .ifCond .eq 7, 181, [185], none), (181, .iconst 1, 182, [], some [0, 1]), (182, .goto 4, 185, [186], none), (185, .iconst 0, 186, [], some [0, 1]), (186, .istore_n 2, 187, [], some [0, 1]), (187, .iload_n 2, 188, [], none), (188, .ifCond .ne 22, 191, [210], none), (191, .aload_n 0, 192, [], none), (192, .getfield 254, 195, [12, 12, 0, 710, 0], none), (195, .iload_n 1, 196, [], none), (196, .if_icmp .le 8, 199, [204], none), (199, .aload_n 0, 200, [], none), (200, .iconst 1, 201, [], none), (201, .invokevirtual 242, 204, [168, 1, 0, 12, 698, 699, 700, 662], none), (204, .aload_n 0, 205, [], some [0]), (205, .iconst 0, 206, [], none), (206, .invokevirtual 332, 209, [187, 1, 0, 12, 767, 768, 769, 662], none), (209, .return_, 210, [], none), (210, .aload_n 0, 211, [], some [0, 1, 2]), (211, .aload_n 0, 212, [], none), (212, .bipush 10, 214, [], none), (214, .invokevirtual 245, 217, [167, 1, 1, 12, 701, 702, 703, 662], none), (217, .ifCond .ne 12, 220, [229], none), (220, .aload_n 0, 221, [], none), (221, .bipush 15, 223, [], none), (223, .invokevirtual 245, 226, [167, 1, 1, 12, 701, 702, 703, 662], none), (226, .ifCond .eq 7, 229, [233], none), (229, .iconst 1, 230, [], some [0, 1, 2]), (230, .goto 4, 233, [234], none), (233, .iconst 0, 234, [], some [0, 1, 2]), (234, .invokevirtual 332, 237, [187, 1, 0, 12, 767, 768, 769, 662], some [0, 1, 2]), (237, .aload_n 0, 238, [], none), (238, .getfield 113, 241, [12, 47, 2, 638, 0], none), (241, .aload_n 0, 242, [], none), (242, .getfield 323, 245, [12, 48, 0, 760, 0], none), (245, .aload_n 0, 246, [], none), (246, .getfield 20, 249, [12, 5, 2, 607, 0], none), (249, .aload_n 0, 250, [], none), (250, .getfield 230, 253, [12, 11, 0, 694, 0], none), (253, .iaload, 254, [20], none), (254, .iastore, 255, [20], none), (255, .aload_n 0, 256, [], none), (256, .dup, 257, [], none), (257, .getfield 323, 260, [12, 48, 0, 760, 0], none), (260, .iconst 1, 261, [], none), (261, .iadd, 262, [], none), (262, .putfield 323, 265, [12, 48, 0, 760, 0, 0], none), (265, .aload_n 0, 266, [], none), (266, .invokevirtual 248, 269, [170, 0, 0, 12, 704, 705, 706, 662], none), (269, .goto (-257), 272, [12], some [0, 1, 2]), (272, .return_, 273, [], some [])]
def zc_X12_unit : List zE := [(0, .aload_n 0, 1, [], none), (1, .iconst 2, 2, [], none), (2, .invokevirtual 245, 5, [167, 1, 1, 12, 701, 702, 703, 662], none), (5, .ifCond .eq 24, 8, [29], none), (8, .aload_n 0, 9, [], none), (9, .iconst 0, 10, [], none), (10, .aload_n 0, 11, [], none), (11, .getfield 27, 14, [12, 7, 2, 609, 0], none), (14, .aload_n 0, 15, [], none), (15, .getfield 230, 18, [12, 11, 0, 694, 0], none), (18, .iaload, 19, [20], none), (19, .invokevirtual 326, 22, [186, 2, 0, 12, 761, 762, 763, 662], none), (22, .aload_n 0, 23, [], none), (23, .invokevirtual 248, 26, [170, 0, 0, 12, 704, 705, 706, 662], none), (26, .goto 67, 29, [93], none), (29, .aload_n 0, 30, [], some [0]), (30, .getfield 227, 33, [12, 13, 0, 693, 0], none), (33, .ifCond .ne 55, 36, [88], none), (36, .aload_n 0, 37, [], none), (37, .getfield 20, 40, [12, 5, 2, 607, 0], none), (40, .aload_n 0, 41, [], none), (41, .getfield 230, 44, [12, 11, 0, 694, 0], none), (44, .iaload, 45, [20], none), (45, .bipush 33, 47, [], none), (47, .if_icmp .lt 41, 50, [88], none), (50, .aload_n 0, 51, [], none), (51, .getfield 20, 54, [12, 5, 2, 607, 0], none), (54, .aload_n 0, 55, [], none), (55, .getfield 230, 58, [12, 11, 0, 694, 0], none), (58, .iaload, 59, [20], none), (59, .bipush 41, 61, [], none), (61, .if_icmp .gt 27, 64, [88], none), (64, .aload_n 0, 65, [], none), (65, .iconst 1, 66, [], none), (66, .aload_n 0, 67, [], none), (67, .getfield 20, 70, [12, 5, 2, 607, 0], none), (70, .aload_n 0, 71, [], none), (71, .getfield 230, 74, [12, 11, 0, 694, 0], none), (74, .iaload, 75, [20], none), (75, .bipush 33, 77, [], none), (77, .isub, 78, [], none), (78, .invokevirtual 326, 81, [186, 2, 0, 12, 761, 762, 763, 662], none), (81, .aload_n 0, 82, [], none), (82, .invokevirtual 248, 85, [170, 0, 0, 12, 704, 705, 706, 662], none), (85, .goto 8, 88, [93], none), (88, .aload_n 0, 89, [], some [0]), (89, .iconst 1, 90, [], none), (90, .invokevirtual 242, 93, [168, 1, 0, 12, 698, 699, 700, 662], none), (93, .return_, 94, [], some [])]
def zc_X12_termOf : List zE := [(0, .iconst 0, 1, [], none), (1, .istore_n 3, 2, [], none), (2, .iload_n 1, 3, [], none), (3, .istore 4, 5, [], none), (5, .iload 4, 7, [], some [0, 2, 3, 4]), (7, .iload_n 2, 8, [], none), (8, .if_icmp .ge 157, 11, [165], none), (11, .aload_n 0, 12, [], none), (12, .getfield 107, 15, [12, 45, 2, 636, 0], none), (15, .iload 4, 17, [], none), (17, .iaload, 18, [20], none), (18, .istore 5, 20, [], none), (20, .iload 5, 22, [], none), (22, .iconst 2, 23, [], none), (23, .if_icmp .ge 42, 26, [65], none), (26, .aload_n 0, 27, [], none), (27, .getfield 119, 30, [12, 50, 2, 640, 0], none), (30, .iload_n 3, 31, [], none), (31, .iload 5, 33, [], none), (33, .ifCond .ne 13, 36, [46], none), (36, .aload_n 0, 37, [], none), (37, .getfield 110, 40, [12, 46, 2, 637, 0], none), (40, .iload 4, 42, [], none), (42, .iaload, 43, [20], none), (43, .goto 15, 46, [58], none), (46, .aload_n 0, 47, [], some [0, 2, 3, 4]), (47, .getfield 116, 50, [12, 49, 2, 639, 0], none), (50, .aload_n 0, 51, [], none), (51, .getfield 110, 54, [12, 46, 2, 637, 0], none), (54, .iload 4, 56, [], none), (56, .iaload, 57, [20], none), (57, .iaload, 58, [20], none), (58, .iastore, 59, [20], some [0, 2, 3, 4]), (59, .iinc 3 1, 62, [], none), (62, .goto 97, 65, [159], none), (65, .iinc 3 (-1), 68, [], some [0, 2, 3, 4, 5]), (68, .aload_n 0, 69, [], none), (69, .getfield 119, 72, [12, 50, 2, 640, 0], none), (72, .iload_n 3, 73, [], none), (73, .iconst 1, 74, [], none), (74, .isub, 75, [], none), (75, .iaload, 76, [20], none), (76, .istore 6, 78, [], none), (78, .aload_n 0, 79, [], none), (79, .getfield 119, 82, [12, 50, 2, 640, 0], none), (82, .iload_n 3, 83, [], none), (83, .iaload, 84, [20], none), (84, .istore 7, 86, [], none), (86, .iload 5, 88, [], none), (88, .iconst 5, 89, [], none), (89, .if_icmp .ne 15, 92, [104], none), (92, .iload 7, 94, [], none), (94, .ifCond .ne 10, 97, [104], none), (97, .aload_n 0, 98, [], none), (98, .iconst 1, 99, [], none), (99, .putfield 336, 102, [12, 51, 3, 770, 0, 0], none), (102, .iconst 0, 103, [], none), (103, .ireturn, 104, [0], none), (104, .aload_n 0, 105, [], some [0, 2, 3, 4, 5, 6, 7]), (105, .getfield 119, 108, [12, 50, 2, 640, 0], none), (108, .iload_n 3, 109, [], none), (109, .iconst 1, 110, [], none), (110, .isub, 111, [], none), (111, .iload 5, 113, [], none), (113, .iconst 2, 114, [], none), (114, .if_icmp .ne 11, 117, [125], none), (117, .iload 6, 119, [], none), (119, .iload 7, 121, [], none), (121, .iadd, 122, [], none), (122, .goto 36, 125, [158], none), (125, .iload 5, 127, [], some [0, 2, 3, 4, 5, 6, 7]), (127, .iconst 3, 128, [], none), (128, .if_icmp .ne 11, 131, [139], none), (131, .iload 6, 133, [], none), (133, .iload 7, 135, [], none), (135, .isub, 136, [], none), (136, .goto 22, 139, [158], none), (139, .iload 5, 141, [], some [0, 2, 3, 4, 5, 6, 7]), (141, .iconst 4, 142, [], none), (142, .if_icmp .ne 11, 145, [153], none), (145, .iload 6, 147, [], none), (147, .iload 7, 149, [], none), (149, .imul, 150, [], none), (150, .goto 8, 153, [158], none), (153, .iload 6, 155, [], some [0, 2, 3, 4, 6, 7]), (155, .iload 7, 157, [], none), (157, .idiv, 158, [], none), (158, .iastore, 159, [20], some [0, 2, 3, 4]), (159, .iinc 4 1, 162, [], some [0, 2, 3, 4]), (162, .goto (-157), 165, [5], none), (165, .aload_n 0, 166, [], some [0]), (166, .getfield 119, 169, [12, 50, 2, 640, 0], none), (169, .iconst 0, 170, [], none), (170, .iaload, 171, [20], none), (171, .ireturn, 172, [0], none)]
def zc_X12_in : List zE := [(0, .iload_n 0, 1, [], none), (1, .iload_n 1, 2, [], none), (2, .if_icmp .lt 12, 5, [14], none), (5, .iload_n 0, 6, [], none), (6, .iload_n 2, 7, [], none), (7, .if_icmp .gt 7, 10, [14], none), (10, .iconst 1, 11, [], none), (11, .goto 4, 14, [15], none), (14, .iconst 0, 15, [], some []), (15, .ireturn, 16, [1], some [])]
def zc_X12_held : List zE := [(0, .iload_n 0, 1, [], none), (1, .iload_n 1, 2, [], none), (2, .if_icmp .ge 7, 5, [9], none), (5, .iload_n 1, 6, [], none), (6, .goto 13, 9, [19], none), (9, .iload_n 0, 10, [], some [0, 2]), (10, .iload_n 2, 11, [], none), (11, .if_icmp .le 7, 14, [18], none), (14, .iload_n 2, 15, [], none), (15, .goto 4, 18, [19], none), (18, .iload_n 0, 19, [], some [0]), (19, .ireturn, 20, [0], some [])]
def zc_X12_bits : List zE := [(0, .iconst 0, 1, [], none), (1, .istore_n 1, 2, [], none), (2, .iconst 0, 3, [], none), (3, .istore_n 2, 4, [], none), (4, .iload_n 2, 5, [], some [0, 1, 2]), (5, .bipush 7, 7, [], none), (7, .if_icmp .ge 17, 10, [24], none), (10, .iload_n 1, 11, [], none), (11, .iload_n 0, 12, [], none), (12, .iload_n 2, 13, [], none), (13, .ishr, 14, [], none), (14, .iconst 1, 15, [], none), (15, .iand, 16, [], none), (16, .iadd, 17, [], none), (17, .istore_n 1, 18, [], none), (18, .iinc 2 1, 21, [], none), (21, .goto (-17), 24, [4], none), (24, .iload_n 1, 25, [], some [1]), (25, .ireturn, 26, [0], none)]
def zc_X12_off : List zE := [(0, .iload_n 0, 1, [], none), (1, .iload_n 1, 2, [], none), (2, .if_icmp .ge 9, 5, [11], none), (5, .iload_n 1, 6, [], none), (6, .iload_n 0, 7, [], none), (7, .isub, 8, [], none), (8, .goto 6, 11, [14], none), (11, .iload_n 0, 12, [], some [0, 1]), (12, .iload_n 1, 13, [], none), (13, .isub, 14, [], none), (14, .ireturn, 15, [0], some [])]
def zc_X12_isLoad : List zE := [(0, .iload_n 1, 1, [], none), (1, .iconst 0, 2, [], none), (2, .aload_n 0, 3, [], none), (3, .getfield 43, 6, [12, 22, 2, 614, 0], none), (6, .aload_n 0, 7, [], none), (7, .getfield 257, 10, [12, 18, 0, 711, 0], none), (10, .iaload, 11, [20], none), (11, .iconst 1, 12, [], none), (12, .isub, 13, [], none), (13, .invokestatic 340, 16, [191, 3, 1, 0, 771, 772, 662], none), (16, .ireturn, 17, [1], none)]
def zc_X12_isSilk : List zE := [(0, .iload_n 1, 1, [], none), (1, .iconst 0, 2, [], none), (2, .aload_n 0, 3, [], none), (3, .getfield 55, 6, [12, 26, 2, 618, 0], none), (6, .aload_n 0, 7, [], none), (7, .getfield 257, 10, [12, 18, 0, 711, 0], none), (10, .iaload, 11, [20], none), (11, .iconst 1, 12, [], none), (12, .isub, 13, [], none), (13, .invokestatic 340, 16, [191, 3, 1, 0, 771, 772, 662], none), (16, .ireturn, 17, [1], none)]
def zc_X12_isHook : List zE := [(0, .iload_n 1, 1, [], none), (1, .iconst 0, 2, [], none), (2, .aload_n 0, 3, [], none), (3, .getfield 64, 6, [12, 29, 2, 621, 0], none), (6, .aload_n 0, 7, [], none), (7, .getfield 257, 10, [12, 18, 0, 711, 0], none), (10, .iaload, 11, [20], none), (11, .iconst 1, 12, [], none), (12, .isub, 13, [], none), (13, .invokestatic 340, 16, [191, 3, 1, 0, 771, 772, 662], none), (16, .ireturn, 17, [1], none)]
def zc_X12_begins : List zE := [(0, .iconst 0, 1, [], none), (1, .istore_n 1, 2, [], none), (2, .iload_n 1, 3, [], some [0, 1]), (3, .bipush 58, 5, [], none), (5, .if_icmp .ge 16, 8, [21], none), (8, .aload_n 0, 9, [], none), (9, .getfield 125, 12, [12, 53, 2, 642, 0], none), (12, .iload_n 1, 13, [], none), (13, .iconst 0, 14, [], none), (14, .iastore, 15, [20], none), (15, .iinc 1 1, 18, [], none), (18, .goto (-16), 21, [2], none), (21, .bipush 21, 23, [], some [0]), (23, .istore_n 1, 24, [], none), (24, .iload_n 1, 25, [], some [0, 1]), (25, .bipush 40, 27, [], none), (27, .if_icmp .ge 17, 30, [44], none), (30, .aload_n 0, 31, [], none), (31, .getfield 125, 34, [12, 53, 2, 642, 0], none), (34, .iload_n 1, 35, [], none), (35, .bipush (-2), 37, [], none), (37, .iastore, 38, [20], none), (38, .iinc 1 1, 41, [], none), (41, .goto (-17), 44, [24], none), (44, .iconst 0, 45, [], some [0]), (45, .istore_n 1, 46, [], none), (46, .iload_n 1, 47, [], some [0, 1]), (47, .aload_n 0, 48, [], none), (48, .getfield 43, 51, [12, 22, 2, 614, 0], none), (51, .aload_n 0, 52, [], none), (52, .getfield 257, 55, [12, 18, 0, 711, 0], none), (55, .iaload, 56, [20], none), (56, .if_icmp .ge 29, 59, [85], none), (59, .aload_n 0, 60, [], none), (60, .getfield 125, 63, [12, 53, 2, 642, 0], none), (63, .iload_n 1, 64, [], none), (64, .aload_n 0, 65, [], none), (65, .getfield 46, 68, [12, 23, 2, 615, 0], none), (68, .bipush 7, 70, [], none), (70, .aload_n 0, 71, [], none), (71, .getfield 257, 74, [12, 18, 0, 711, 0], none), (74, .imul, 75, [], none), (75, .iload_n 1, 76, [], none), (76, .iadd, 77, [], none), (77, .iaload, 78, [20], none), (78, .iastore, 79, [20], none), (79, .iinc 1 1, 82, [], none), (82, .goto (-36), 85, [46], none), (85, .iconst 0, 86, [], some [0]), (86, .istore_n 1, 87, [], none), (87, .iload_n 1, 88, [], some [0, 1]), (88, .aload_n 0, 89, [], none), (89, .getfield 55, 92, [12, 26, 2, 618, 0], none), (92, .aload_n 0, 93, [], none), (93, .getfield 257, 96, [12, 18, 0, 711, 0], none), (96, .iaload, 97, [20], none), (97, .if_icmp .ge 31, 100, [128], none), (100, .aload_n 0, 101, [], none), (101, .getfield 125, 104, [12, 53, 2, 642, 0], none), (104, .bipush 40, 106, [], none), (106, .iload_n 1, 107, [], none), (107, .iadd, 108, [], none), (108, .aload_n 0, 109, [], none), (109, .getfield 61, 112, [12, 28, 2, 620, 0], none), (112, .iconst 5, 113, [], none), (113, .aload_n 0, 114, [], none), (114, .getfield 257, 117, [12, 18, 0, 711, 0], none), (117, .imul, 118, [], none), (118, .iload_n 1, 119, [], none), (119, .iadd, 120, [], none), (120, .iaload, 121, [20], none), (121, .iastore, 122, [20], none), (122, .iinc 1 1, 125, [], none), (125, .goto (-38), 128, [87], none), (128, .iconst 0, 129, [], some [0]), (129, .istore_n 1, 130, [], none), (130, .iload_n 1, 131, [], some [0, 1]), (131, .aload_n 0, 132, [], none), (132, .getfield 64, 135, [12, 29, 2, 621, 0], none), (135, .aload_n 0, 136, [], none), (136, .getfield 257, 139, [12, 18, 0, 711, 0], none), (139, .iaload, 140, [20], none), (140, .if_icmp .ge 31, 143, [171], none), (143, .aload_n 0, 144, [], none), (144, .getfield 125, 147, [12, 53, 2, 642, 0], none), (147, .bipush 50, 149, [], none), (149, .iload_n 1, 150, [], none), (150, .iadd, 151, [], none), (151, .aload_n 0, 152, [], none), (152, .getfield 67, 155, [12, 30, 2, 622, 0], none), (155, .iconst 5, 156, [], none), (156, .aload_n 0, 157, [], none), (157, .getfield 257, 160, [12, 18, 0, 711, 0], none), (160, .imul, 161, [], none), (161, .iload_n 1, 162, [], none), (162, .iadd, 163, [], none), (163, .iaload, 164, [20], none), (164, .iastore, 165, [20], none), (165, .iinc 1 1, 168, [], none), (168, .goto (-38), 171, [130], none), (171, .aload_n 0, 172, [], some [0]), (172, .aload_n 0, 173, [], none), (173, .getfield 82, 176, [12, 35, 2, 627, 0], none), (176, .aload_n 0, 177, [], none), (177, .getfield 257, 180, [12, 18, 0, 711, 0], none), (180, .iaload, 181, [20], none), (181, .putfield 344, 184, [12, 54, 0, 773, 0, 0], none), (184, .return_, 185, [], none)]
def zc_X12_keepsRow : List zE := [(0, .iconst 0, 1, [], none), (1, .istore_n 1, 2, [], none), (2, .iload_n 1, 3, [], some [0, 1]), (3, .bipush 58, 5, [], none), (5, .if_icmp .ge 21, 8, [26], none), (8, .aload_n 0, 9, [], none), (9, .getfield 122, 12, [12, 52, 2, 641, 0], none), (12, .iload_n 1, 13, [], none), (13, .aload_n 0, 14, [], none), (14, .getfield 125, 17, [12, 53, 2, 642, 0], none), (17, .iload_n 1, 18, [], none), (18, .iaload, 19, [20], none), (19, .iastore, 20, [20], none), (20, .iinc 1 1, 23, [], none), (23, .goto (-21), 26, [2], none), (26, .return_, 27, [], some [])]
def zc_X12_copies : List zE := [(0, .iconst 0, 1, [], none), (1, .istore_n 1, 2, [], none), (2, .iload_n 1, 3, [], some [0, 1]), (3, .bipush 58, 5, [], none), (5, .if_icmp .ge 21, 8, [26], none), (8, .aload_n 0, 9, [], none), (9, .getfield 125, 12, [12, 53, 2, 642, 0], none), (12, .iload_n 1, 13, [], none), (13, .aload_n 0, 14, [], none), (14, .getfield 122, 17, [12, 52, 2, 641, 0], none), (17, .iload_n 1, 18, [], none), (18, .iaload, 19, [20], none), (19, .iastore, 20, [20], none), (20, .iinc 1 1, 23, [], none), (23, .goto (-21), 26, [2], none), (26, .aload_n 0, 27, [], some [0]), (27, .aload_n 0, 28, [], none), (28, .getfield 82, 31, [12, 35, 2, 627, 0], none), (31, .aload_n 0, 32, [], none), (32, .getfield 257, 35, [12, 18, 0, 711, 0], none), (35, .iaload, 36, [20], none), (36, .putfield 344, 39, [12, 54, 0, 773, 0, 0], none), (39, .return_, 40, [], none)]
def zc_X12_mixed : List zE := [(0, .iload_n 0, 1, [], none), (1, .iload_n 1, 2, [], none), (2, .ixor, 3, [], none), (3, .ldc_w 347, 6, [0, 1103515245, 774], none), (6, .imul, 7, [], none), (7, .sipush 12345, 10, [], none), (10, .iadd, 11, [], none), (11, .istore_n 2, 12, [], none), (12, .iload_n 2, 13, [], none), (13, .iload_n 2, 14, [], none), (14, .bipush 15, 16, [], none), (16, .iushr, 17, [], none), (17, .ixor, 18, [], none), (18, .ireturn, 19, [0], none)]
def zc_X12_isGust : List zE := [(0, .aload_n 0, 1, [], none), (1, .getfield 344, 4, [12, 54, 0, 773, 0], none), (4, .bipush 113, 6, [], none), (6, .invokestatic 348, 9, [201, 2, 1, 0, 775, 776, 662], none), (9, .iconst 4, 10, [], none), (10, .aload_n 0, 11, [], none), (11, .getfield 125, 14, [12, 53, 2, 642, 0], none), (14, .bipush 55, 16, [], none), (16, .iaload, 17, [20], none), (17, .imul, 18, [], none), (18, .invokestatic 348, 21, [201, 2, 1, 0, 775, 776, 662], none), (21, .iconst 1, 22, [], none), (22, .iushr, 23, [], none), (23, .bipush 100, 25, [], none), (25, .irem, 26, [], none), (26, .aload_n 0, 27, [], none), (27, .getfield 79, 30, [12, 34, 2, 626, 0], none), (30, .aload_n 0, 31, [], none), (31, .getfield 257, 34, [12, 18, 0, 711, 0], none), (34, .iaload, 35, [20], none), (35, .if_icmp .ge 7, 38, [42], none), (38, .iconst 1, 39, [], none), (39, .goto 4, 42, [43], none), (42, .iconst 0, 43, [], some []), (43, .ireturn, 44, [1], some [])]
def zc_X12_loadsSo : List zE := [(0, .iconst 0, 1, [], none), (1, .istore_n 2, 2, [], none), (2, .iconst 0, 3, [], none), (3, .istore_n 3, 4, [], none), (4, .iload_n 3, 5, [], some [0, 1, 2, 3]), (5, .aload_n 0, 6, [], none), (6, .getfield 43, 9, [12, 22, 2, 614, 0], none), (9, .aload_n 0, 10, [], none), (10, .getfield 257, 13, [12, 18, 0, 711, 0], none), (13, .iaload, 14, [20], none), (14, .if_icmp .ge 28, 17, [42], none), (17, .aload_n 0, 18, [], none), (18, .getfield 125, 21, [12, 53, 2, 642, 0], none), (21, .bipush 7, 23, [], none), (23, .iload_n 3, 24, [], none), (24, .iadd, 25, [], none), (25, .iaload, 26, [20], none), (26, .iload_n 1, 27, [], none), (27, .if_icmp .ne 9, 30, [36], none), (30, .iload_n 2, 31, [], none), (31, .iconst 1, 32, [], none), (32, .iload_n 3, 33, [], none), (33, .ishl, 34, [], none), (34, .ior, 35, [], none), (35, .istore_n 2, 36, [], none), (36, .iinc 3 1, 39, [], some [0, 1, 2, 3]), (39, .goto (-35), 42, [4], none), (42, .iload_n 2, 43, [], some [2]), (43, .ireturn, 44, [0], none)]
def zc_X12_upNow : List zE := [(0, .aload_n 0, 1, [], none), (1, .iconst 1, 2, [], none), (2, .invokevirtual 351, 5, [203, 1, 1, 12, 777, 778, 779, 662], none), (5, .invokestatic 354, 8, [193, 1, 1, 0, 780, 781, 662], none), (8, .ireturn, 9, [0], none)]
def zc_X12_looks : List zE := [(0, .iconst 0, 1, [], none), (1, .istore_n 3, 2, [], none), (2, .iload_n 3, 3, [], some [0, 1, 2, 3]), (3, .bipush 9, 5, [], none), (5, .if_icmp .ge 16, 8, [21], none), (8, .aload_n 0, 9, [], none), (9, .getfield 116, 12, [12, 49, 2, 639, 0], none), (12, .iload_n 3, 13, [], none), (13, .iconst 0, 14, [], none), (14, .iastore, 15, [20], none), (15, .iinc 3 1, 18, [], none), (18, .goto (-16), 21, [2], none), (21, .aload_n 0, 22, [], some [0, 1, 2]), (22, .getfield 116, 25, [12, 49, 2, 639, 0], none), (25, .iconst 0, 26, [], none), (26, .iload_n 1, 27, [], none), (27, .bipush 24, 29, [], none), (29, .irem, 30, [], none), (30, .iastore, 31, [20], none), (31, .aload_n 0, 32, [], none), (32, .getfield 116, 35, [12, 49, 2, 639, 0], none), (35, .iconst 1, 36, [], none), (36, .iload_n 1, 37, [], none), (37, .bipush 24, 39, [], none), (39, .idiv, 40, [], none), (40, .iastore, 41, [20], none), (41, .aload_n 0, 42, [], none), (42, .getfield 116, 45, [12, 49, 2, 639, 0], none), (45, .bipush 7, 47, [], none), (47, .iload_n 2, 48, [], none), (48, .iastore, 49, [20], none), (49, .aload_n 0, 50, [], none), (50, .getfield 116, 53, [12, 49, 2, 639, 0], none), (53, .bipush 8, 55, [], none), (55, .aload_n 0, 56, [], none), (56, .iconst 2, 57, [], none), (57, .invokevirtual 351, 60, [203, 1, 1, 12, 777, 778, 779, 662], none), (60, .invokestatic 354, 63, [193, 1, 1, 0, 780, 781, 662], none), (63, .iastore, 64, [20], none), (64, .return_, 65, [], some [])]
def zc_X12_lawTells : List zE := [(0, .iconst 4, 1, [], none), (1, .aload_n 0, 2, [], none), (2, .getfield 257, 5, [12, 18, 0, 711, 0], none), (5, .imul, 6, [], none), (6, .iload_n 1, 7, [], none), (7, .iadd, 8, [], none), (8, .istore_n 3, 9, [], none), (9, .aload_n 0, 10, [], none), (10, .getfield 85, 13, [12, 36, 2, 628, 0], none), (13, .iload_n 3, 14, [], none), (14, .iaload, 15, [20], none), (15, .aload_n 0, 16, [], none), (16, .getfield 88, 19, [12, 37, 2, 629, 0], none), (19, .iload_n 3, 20, [], none), (20, .iaload, 21, [20], none), (21, .if_icmp .ne 5, 24, [26], none), (24, .iload_n 2, 25, [], none), (25, .ireturn, 26, [0], none), (26, .aload_n 0, 27, [], some [0, 3]), (27, .iconst 0, 28, [], none), (28, .putfield 336, 31, [12, 51, 3, 770, 0, 0], none), (31, .aload_n 0, 32, [], none), (32, .getfield 85, 35, [12, 36, 2, 628, 0], none), (35, .iload_n 3, 36, [], none), (36, .iaload, 37, [20], none), (37, .istore 4, 39, [], none), (39, .iload 4, 41, [], some [0, 3, 4]), (41, .aload_n 0, 42, [], none), (42, .getfield 88, 45, [12, 37, 2, 629, 0], none), (45, .iload_n 3, 46, [], none), (46, .iaload, 47, [20], none), (47, .if_icmp .ge 112, 50, [159], none), (50, .aload_n 0, 51, [], none), (51, .getfield 91, 54, [12, 39, 2, 631, 0], none), (54, .iload 4, 56, [], none), (56, .baload, 57, [22], none), (57, .ifCond .eq 62, 60, [119], none), (60, .aload_n 0, 61, [], none), (61, .aload_n 0, 62, [], none), (62, .getfield 95, 65, [12, 40, 2, 632, 0], none), (65, .iload 4, 67, [], none), (67, .iaload, 68, [20], none), (68, .aload_n 0, 69, [], none), (69, .getfield 98, 72, [12, 41, 2, 633, 0], none), (72, .iload 4, 74, [], none), (74, .iaload, 75, [20], none), (75, .invokevirtual 357, 78, [190, 2, 1, 12, 782, 783, 784, 662], none), (78, .istore 5, 80, [], none), (80, .aload_n 0, 81, [], none), (81, .aload_n 0, 82, [], none), (82, .getfield 98, 85, [12, 41, 2, 633, 0], none), (85, .iload 4, 87, [], none), (87, .iaload, 88, [20], none), (88, .aload_n 0, 89, [], none), (89, .getfield 101, 92, [12, 42, 2, 634, 0], none), (92, .iload 4, 94, [], none), (94, .iaload, 95, [20], none), (95, .invokevirtual 357, 98, [190, 2, 1, 12, 782, 783, 784, 662], none), (98, .istore 6, 100, [], none), (100, .aload_n 0, 101, [], none), (101, .getfield 336, 104, [12, 51, 0, 770, 0], none), (104, .ifCond .eq 5, 107, [109], none), (107, .iconst 0, 108, [], none), (108, .ireturn, 109, [0], none), (109, .iload 5, 111, [], some [0, 3, 4, 5, 6]), (111, .iload 6, 113, [], none), (113, .if_icmp .lt 6, 116, [119], none), (116, .goto 37, 119, [153], none), (119, .aload_n 0, 120, [], some [0, 4]), (120, .aload_n 0, 121, [], none), (121, .getfield 101, 124, [12, 42, 2, 634, 0], none), (124, .iload 4, 126, [], none), (126, .iaload, 127, [20], none), (127, .aload_n 0, 128, [], none), (128, .getfield 104, 131, [12, 43, 2, 635, 0], none), (131, .iload 4, 133, [], none), (133, .iaload, 134, [20], none), (134, .invokevirtual 357, 137, [190, 2, 1, 12, 782, 783, 784, 662], none), (137, .istore 5, 139, [], none), (139, .aload_n 0, 140, [], none), (140, .getfield 336, 143, [12, 51, 0, 770, 0], none), (143, .ifCond .eq 7, 146, [150], none), (146, .iconst 0, 147, [], none), (147, .goto 5, 150, [152], none), (150, .iload 5, 152, [], some [5]), (152, .ireturn, 153, [0], some []), (153, .iinc 4 1, 156, [], some [0, 3, 4]), (156, .goto (-117), 159, [39], none), (159, .iconst 0, 160, [], some []), (160, .ireturn, 161, [0], none)]
def zc_X12_liftBy : List zE := [(0, .aload_n 0, 1, [], none), (1, .iload_n 1, 2, [], none), (2, .iload_n 2, 3, [], none), (3, .invokevirtual 360, 6, [205, 2, 0, 12, 785, 786, 787, 662], none), (6, .aload_n 0, 7, [], none), (7, .getfield 116, 10, [12, 49, 2, 639, 0], none), (10, .iconst 2, 11, [], none), (11, .iload_n 3, 12, [], none), (12, .iastore, 13, [20], none), (13, .aload_n 0, 14, [], none), (14, .getfield 116, 17, [12, 49, 2, 639, 0], none), (17, .iconst 3, 18, [], none), (18, .iload 4, 20, [], none), (20, .iastore, 21, [20], none), (21, .aload_n 0, 22, [], none), (22, .getfield 116, 25, [12, 49, 2, 639, 0], none), (25, .iconst 4, 26, [], none), (26, .iload 5, 28, [], none), (28, .iastore, 29, [20], none), (29, .aload_n 0, 30, [], some [0, 3, 4, 6]), (30, .getfield 116, 33, [12, 49, 2, 639, 0], none), (33, .iconst 5, 34, [], none), (34, .iload 6, 36, [], none), (36, .iastore, 37, [20], none), (37, .aload_n 0, 38, [], none), (38, .iconst 0, 39, [], none), (39, .iload_n 3, 40, [], none), (40, .iload 4, 42, [], none), (42, .isub, 43, [], none), (43, .invokevirtual 363, 46, [206, 2, 1, 12, 788, 789, 790, 662], none), (46, .bipush (-9), 48, [], none), (48, .bipush 9, 50, [], none), (50, .invokestatic 366, 53, [192, 3, 1, 0, 791, 792, 662], none), (53, .ireturn, 54, [0], none)]
def zc_X12_windBy : List zE := [(0, .aload_n 0, 1, [], none), (1, .iload_n 1, 2, [], none), (2, .iload_n 2, 3, [], none), (3, .invokevirtual 360, 6, [205, 2, 0, 12, 785, 786, 787, 662], none), (6, .aload_n 0, 7, [], none), (7, .getfield 116, 10, [12, 49, 2, 639, 0], none), (10, .iconst 4, 11, [], none), (11, .iload_n 3, 12, [], none), (12, .iastore, 13, [20], none), (13, .aload_n 0, 14, [], none), (14, .getfield 116, 17, [12, 49, 2, 639, 0], none), (17, .iconst 5, 18, [], none), (18, .iload 4, 20, [], none), (20, .iastore, 21, [20], none), (21, .aload_n 0, 22, [], none), (22, .iconst 1, 23, [], none), (23, .iconst 0, 24, [], none), (24, .invokevirtual 363, 27, [206, 2, 1, 12, 788, 789, 790, 662], none), (27, .bipush (-3), 29, [], none), (29, .iconst 3, 30, [], none), (30, .invokestatic 366, 33, [192, 3, 1, 0, 791, 792, 662], none), (33, .ireturn, 34, [0], none)]
def zc_X12_tiesBy : List zE := [(0, .aload_n 0, 1, [], none), (1, .iload_n 1, 2, [], none), (2, .iload_n 2, 3, [], none), (3, .invokevirtual 360, 6, [205, 2, 0, 12, 785, 786, 787, 662], none), (6, .aload_n 0, 7, [], none), (7, .getfield 116, 10, [12, 49, 2, 639, 0], none), (10, .iconst 2, 11, [], none), (11, .iload_n 3, 12, [], none), (12, .iastore, 13, [20], none), (13, .aload_n 0, 14, [], none), (14, .getfield 116, 17, [12, 49, 2, 639, 0], none), (17, .iconst 3, 18, [], none), (18, .iload 4, 20, [], none), (20, .iastore, 21, [20], none), (21, .aload_n 0, 22, [], none), (22, .iconst 2, 23, [], none), (23, .iload 4, 25, [], none), (25, .invokevirtual 363, 28, [206, 2, 1, 12, 788, 789, 790, 662], none), (28, .iconst 0, 29, [], none), (29, .bipush 99, 31, [], none), (31, .invokestatic 366, 34, [192, 3, 1, 0, 791, 792, 662], none), (34, .ireturn, 35, [0], none)]
def zc_X12_paysBy : List zE := [(0, .aload_n 0, 1, [], none), (1, .iload_n 1, 2, [], none), (2, .iload_n 2, 3, [], none), (3, .invokevirtual 360, 6, [205, 2, 0, 12, 785, 786, 787, 662], none), (6, .aload_n 0, 7, [], none), (7, .getfield 116, 10, [12, 49, 2, 639, 0], none), (10, .iconst 3, 11, [], none), (11, .aload_n 0, 12, [], none), (12, .getfield 49, 15, [12, 24, 2, 616, 0], none), (15, .bipush 7, 17, [], none), (17, .aload_n 0, 18, [], none), (18, .getfield 257, 21, [12, 18, 0, 711, 0], none), (21, .imul, 22, [], none), (22, .iload_n 3, 23, [], none), (23, .iadd, 24, [], none), (24, .iaload, 25, [20], none), (25, .iastore, 26, [20], none), (26, .aload_n 0, 27, [], none), (27, .getfield 116, 30, [12, 49, 2, 639, 0], none), (30, .bipush 6, 32, [], none), (32, .aload_n 0, 33, [], none), (33, .getfield 52, 36, [12, 25, 2, 617, 0], none), (36, .bipush 7, 38, [], none), (38, .aload_n 0, 39, [], none), (39, .getfield 257, 42, [12, 18, 0, 711, 0], none), (42, .imul, 43, [], none), (43, .iload_n 3, 44, [], none), (44, .iadd, 45, [], none), (45, .iaload, 46, [20], none), (46, .iastore, 47, [20], none), (47, .aload_n 0, 48, [], none), (48, .iconst 3, 49, [], none), (49, .aload_n 0, 50, [], none), (50, .getfield 116, 53, [12, 49, 2, 639, 0], none), (53, .bipush 6, 55, [], none), (55, .iaload, 56, [20], none), (56, .invokevirtual 363, 59, [206, 2, 1, 12, 788, 789, 790, 662], none), (59, .iconst 0, 60, [], none), (60, .bipush 99, 62, [], none), (62, .invokestatic 366, 65, [192, 3, 1, 0, 791, 792, 662], none), (65, .ireturn, 66, [0], none)]
def zc_X12_hookAt : List zE := [(0, .bipush (-2), 2, [], none), (2, .istore_n 2, 3, [], none), (3, .iconst 0, 4, [], none), (4, .istore_n 3, 5, [], none), (5, .iload_n 3, 6, [], some [0, 1, 2, 3]), (6, .aload_n 0, 7, [], none), (7, .getfield 64, 10, [12, 29, 2, 621, 0], none), (10, .aload_n 0, 11, [], none), (11, .getfield 257, 14, [12, 18, 0, 711, 0], none), (14, .iaload, 15, [20], none), (15, .if_icmp .ge 91, 18, [106], none), (18, .aload_n 0, 19, [], none), (19, .getfield 125, 22, [12, 53, 2, 642, 0], none), (22, .bipush 50, 24, [], none), (24, .iload_n 3, 25, [], none), (25, .iadd, 26, [], none), (26, .iaload, 27, [20], none), (27, .iload_n 1, 28, [], none), (28, .invokestatic 369, 31, [194, 2, 1, 0, 793, 794, 662], none), (31, .istore 4, 33, [], none), (33, .iload 4, 35, [], none), (35, .aload_n 0, 36, [], none), (36, .getfield 70, 39, [12, 31, 2, 623, 0], none), (39, .iconst 5, 40, [], none), (40, .aload_n 0, 41, [], none), (41, .getfield 257, 44, [12, 18, 0, 711, 0], none), (44, .imul, 45, [], none), (45, .iload_n 3, 46, [], none), (46, .iadd, 47, [], none), (47, .iaload, 48, [20], none), (48, .if_icmp .gt 52, 51, [100], none), (51, .aload_n 0, 52, [], none), (52, .getfield 128, 55, [12, 55, 2, 643, 0], none), (55, .iload_n 3, 56, [], none), (56, .iaload, 57, [20], none), (57, .aload_n 0, 58, [], none), (58, .getfield 73, 61, [12, 32, 2, 624, 0], none), (61, .iconst 5, 62, [], none), (62, .aload_n 0, 63, [], none), (63, .getfield 257, 66, [12, 18, 0, 711, 0], none), (66, .imul, 67, [], none), (67, .iload_n 3, 68, [], none), (68, .iadd, 69, [], none), (69, .iaload, 70, [20], none), (70, .if_icmp .lt 6, 73, [76], none), (73, .goto 27, 76, [100], none), (76, .iload_n 2, 77, [], some [0, 1, 2, 3, 4]), (77, .ifCond .lt 21, 80, [98], none), (80, .iload 4, 82, [], none), (82, .aload_n 0, 83, [], none), (83, .getfield 125, 86, [12, 53, 2, 642, 0], none), (86, .bipush 50, 88, [], none), (88, .iload_n 2, 89, [], none), (89, .iadd, 90, [], none), (90, .iaload, 91, [20], none), (91, .iload_n 1, 92, [], none), (92, .invokestatic 369, 95, [194, 2, 1, 0, 793, 794, 662], none), (95, .if_icmp .ge 5, 98, [100], none), (98, .iload_n 3, 99, [], some [0, 1, 3]), (99, .istore_n 2, 100, [], none), (100, .iinc 3 1, 103, [], some [0, 1, 2, 3]), (103, .goto (-98), 106, [5], none), (106, .iload_n 2, 107, [], some [2]), (107, .ireturn, 108, [0], none)]
def zc_X12_handsFree : List zE := [(0, .iconst 0, 1, [], none), (1, .istore_n 1, 2, [], none), (2, .iload_n 1, 3, [], some [0, 1]), (3, .iconst 5, 4, [], none), (4, .if_icmp .ge 16, 7, [20], none), (7, .aload_n 0, 8, [], none), (8, .getfield 128, 11, [12, 55, 2, 643, 0], none), (11, .iload_n 1, 12, [], none), (12, .iconst 0, 13, [], none), (13, .iastore, 14, [20], none), (14, .iinc 1 1, 17, [], none), (17, .goto (-15), 20, [2], none), (20, .return_, 21, [], some [])]
def zc_X12_isDown : List zE := [(0, .aload_n 0, 1, [], none), (1, .getfield 125, 4, [12, 53, 2, 642, 0], none), (4, .bipush 35, 6, [], none), (6, .aload_n 0, 7, [], none), (7, .getfield 125, 10, [12, 53, 2, 642, 0], none), (10, .bipush 21, 12, [], none), (12, .iload_n 1, 13, [], none), (13, .iadd, 14, [], none), (14, .iaload, 15, [20], none), (15, .iadd, 16, [], none), (16, .bipush (-2), 18, [], none), (18, .iastore, 19, [20], none), (19, .aload_n 0, 20, [], none), (20, .getfield 125, 23, [12, 53, 2, 642, 0], none), (23, .bipush 21, 25, [], none), (25, .iload_n 1, 26, [], none), (26, .iadd, 27, [], none), (27, .bipush (-2), 29, [], none), (29, .iastore, 30, [20], none), (30, .aload_n 0, 31, [], none), (31, .getfield 125, 34, [12, 53, 2, 642, 0], none), (34, .bipush 14, 36, [], none), (36, .iload_n 1, 37, [], none), (37, .iadd, 38, [], none), (38, .iconst 0, 39, [], none), (39, .iastore, 40, [20], none), (40, .aload_n 0, 41, [], none), (41, .getfield 125, 44, [12, 53, 2, 642, 0], none), (44, .bipush 7, 46, [], none), (46, .iload_n 1, 47, [], none), (47, .iadd, 48, [], none), (48, .iload_n 2, 49, [], none), (49, .iastore, 50, [20], none), (50, .return_, 51, [], some [])]
def zc_X12_comesUp : List zE := [(0, .aload_n 0, 1, [], none), (1, .aload_n 0, 2, [], none), (2, .getfield 125, 5, [12, 53, 2, 642, 0], none), (5, .iload_n 1, 6, [], none), (6, .iaload, 7, [20], none), (7, .invokevirtual 372, 10, [211, 1, 1, 12, 795, 796, 797, 662], none), (10, .istore_n 2, 11, [], none), (11, .aload_n 0, 12, [], none), (12, .iload_n 1, 13, [], none), (13, .iload_n 2, 14, [], none), (14, .ifCond .ge 7, 17, [21], none), (17, .iconst 3, 18, [], none), (18, .goto 4, 21, [22], none), (21, .iconst 2, 22, [], some [0, 1, 2]), (22, .invokevirtual 375, 25, [213, 2, 0, 12, 798, 799, 800, 662], some [0, 1, 2]), (25, .iload_n 2, 26, [], none), (26, .ifCond .ge 4, 29, [30], none), (29, .return_, 30, [], none), (30, .aload_n 0, 31, [], some [0, 1, 2]), (31, .getfield 128, 34, [12, 55, 2, 643, 0], none), (34, .iload_n 2, 35, [], none), (35, .dup2, 36, [], none), (36, .iaload, 37, [20], none), (37, .iconst 1, 38, [], none), (38, .iadd, 39, [], none), (39, .iastore, 40, [20], none), (40, .aload_n 0, 41, [], none), (41, .getfield 125, 44, [12, 53, 2, 642, 0], none), (44, .bipush 28, 46, [], none), (46, .iload_n 1, 47, [], none), (47, .iadd, 48, [], none), (48, .iload_n 2, 49, [], none), (49, .iastore, 50, [20], none), (50, .aload_n 0, 51, [], none), (51, .getfield 125, 54, [12, 53, 2, 642, 0], none), (54, .bipush 56, 56, [], none), (56, .dup2, 57, [], none), (57, .iaload, 58, [20], none), (58, .aload_n 0, 59, [], none), (59, .getfield 137, 62, [12, 58, 2, 646, 0], none), (62, .iload_n 1, 63, [], none), (63, .iaload, 64, [20], none), (64, .iadd, 65, [], none), (65, .iastore, 66, [20], none), (66, .return_, 67, [], none)]
def zc_X12_looksOn : List zE := [(0, .aload_n 0, 1, [], none), (1, .getfield 125, 4, [12, 53, 2, 642, 0], none), (4, .bipush 21, 6, [], none), (6, .iload_n 1, 7, [], none), (7, .iadd, 8, [], none), (8, .iaload, 9, [20], none), (9, .istore 4, 11, [], none), (11, .aload_n 0, 12, [], none), (12, .aload_n 0, 13, [], none), (13, .getfield 125, 16, [12, 53, 2, 642, 0], none), (16, .bipush 55, 18, [], none), (18, .iaload, 19, [20], none), (19, .iload_n 2, 20, [], none), (20, .aload_n 0, 21, [], none), (21, .getfield 125, 24, [12, 53, 2, 642, 0], none), (24, .bipush 14, 26, [], none), (26, .iload_n 1, 27, [], none), (27, .iadd, 28, [], none), (28, .iaload, 29, [20], none), (29, .aload_n 0, 30, [], none), (30, .getfield 125, 33, [12, 53, 2, 642, 0], none), (33, .iload_n 1, 34, [], none), (34, .iaload, 35, [20], none), (35, .invokevirtual 378, 38, [208, 4, 1, 12, 801, 802, 803, 662], none), (38, .istore 5, 40, [], none), (40, .iload_n 3, 41, [], none), (41, .ifCond .ne 7, 44, [48], none), (44, .iconst 0, 45, [], none), (45, .goto 22, 48, [67], none), (48, .iload 5, 50, [], some [0, 1, 2, 4, 5]), (50, .ifCond .le 7, 53, [57], none), (53, .iconst 1, 54, [], none), (54, .goto 13, 57, [67], none), (57, .iload 5, 59, [], some [0, 1, 2, 4, 5]), (59, .ifCond .ge 7, 62, [66], none), (62, .iconst (-1), 63, [], none), (63, .goto 4, 66, [67], none), (66, .iconst 0, 67, [], some [0, 1, 2, 4, 5]), (67, .istore 6, 69, [], some [0, 1, 2, 4, 5]), (69, .aload_n 0, 70, [], none), (70, .getfield 131, 73, [12, 56, 2, 644, 0], none), (73, .iload_n 1, 74, [], none), (74, .aload_n 0, 75, [], none), (75, .getfield 125, 78, [12, 53, 2, 642, 0], none), (78, .bipush 14, 80, [], none), (80, .iload_n 1, 81, [], none), (81, .iadd, 82, [], none), (82, .iaload, 83, [20], none), (83, .aload_n 0, 84, [], none), (84, .aload_n 0, 85, [], none), (85, .getfield 125, 88, [12, 53, 2, 642, 0], none), (88, .bipush 55, 90, [], none), (90, .iaload, 91, [20], none), (91, .iload_n 2, 92, [], none), (92, .aload_n 0, 93, [], none), (93, .getfield 58, 96, [12, 27, 2, 619, 0], none), (96, .iconst 5, 97, [], none), (97, .aload_n 0, 98, [], none), (98, .getfield 257, 101, [12, 18, 0, 711, 0], none), (101, .imul, 102, [], none), (102, .iload 4, 104, [], none), (104, .iadd, 105, [], none), (105, .iaload, 106, [20], none), (106, .aload_n 0, 107, [], none), (107, .getfield 49, 110, [12, 24, 2, 616, 0], none), (110, .bipush 7, 112, [], none), (112, .aload_n 0, 113, [], none), (113, .getfield 257, 116, [12, 18, 0, 711, 0], none), (116, .imul, 117, [], none), (117, .iload_n 1, 118, [], none), (118, .iadd, 119, [], none), (119, .iaload, 120, [20], none), (120, .aload_n 0, 121, [], none), (121, .getfield 125, 124, [12, 53, 2, 642, 0], none), (124, .bipush 14, 126, [], none), (126, .iload_n 1, 127, [], none), (127, .iadd, 128, [], none), (128, .iaload, 129, [20], none), (129, .aload_n 0, 130, [], none), (130, .getfield 125, 133, [12, 53, 2, 642, 0], none), (133, .iload_n 1, 134, [], none), (134, .iaload, 135, [20], none), (135, .invokevirtual 382, 138, [207, 6, 1, 12, 804, 805, 806, 662], none), (138, .iadd, 139, [], none), (139, .iastore, 140, [20], none), (140, .aload_n 0, 141, [], none), (141, .getfield 134, 144, [12, 57, 2, 645, 0], none), (144, .iload_n 1, 145, [], none), (145, .aload_n 0, 146, [], none), (146, .getfield 125, 149, [12, 53, 2, 642, 0], none), (149, .iload_n 1, 150, [], none), (150, .iaload, 151, [20], none), (151, .aload_n 0, 152, [], none), (152, .getfield 125, 155, [12, 53, 2, 642, 0], none), (155, .bipush 40, 157, [], none), (157, .iload 4, 159, [], none), (159, .iadd, 160, [], none), (160, .iaload, 161, [20], none), (161, .iadd, 162, [], none), (162, .iload 5, 164, [], none), (164, .iadd, 165, [], none), (165, .iload 6, 167, [], none), (167, .iadd, 168, [], none), (168, .iconst 0, 169, [], none), (169, .bipush 19, 171, [], none), (171, .invokestatic 366, 174, [192, 3, 1, 0, 791, 792, 662], none), (174, .iastore, 175, [20], none), (175, .aload_n 0, 176, [], some [0, 1, 2]), (176, .getfield 137, 179, [12, 58, 2, 646, 0], none), (179, .iload_n 1, 180, [], none), (180, .aload_n 0, 181, [], none), (181, .aload_n 0, 182, [], none), (182, .getfield 125, 185, [12, 53, 2, 642, 0], none), (185, .bipush 55, 187, [], none), (187, .iaload, 188, [20], none), (188, .iload_n 2, 189, [], none), (189, .iload_n 1, 190, [], none), (190, .invokevirtual 386, 193, [210, 3, 1, 12, 807, 808, 809, 662], none), (193, .iastore, 194, [20], none), (194, .return_, 195, [], none)]
def zc_X12_hourGoes : List zE := [(0, .aload_n 0, 1, [], none), (1, .iconst 1, 2, [], none), (2, .invokevirtual 351, 5, [203, 1, 1, 12, 777, 778, 779, 662], none), (5, .istore_n 1, 6, [], none), (6, .iload_n 1, 7, [], none), (7, .invokestatic 354, 10, [193, 1, 1, 0, 780, 781, 662], none), (10, .istore_n 2, 11, [], none), (11, .aload_n 0, 12, [], none), (12, .invokevirtual 389, 15, [202, 0, 1, 12, 810, 811, 812, 662], none), (15, .istore_n 3, 16, [], none), (16, .aload_n 0, 17, [], none), (17, .invokevirtual 393, 20, [212, 0, 0, 12, 813, 814, 815, 662], none), (20, .iconst 0, 21, [], some [0, 1, 2, 3]), (21, .istore 4, 23, [], none), (23, .iload 4, 25, [], some [0, 1, 2, 3, 4]), (25, .aload_n 0, 26, [], none), (26, .getfield 43, 29, [12, 22, 2, 614, 0], none), (29, .aload_n 0, 30, [], none), (30, .getfield 257, 33, [12, 18, 0, 711, 0], none), (33, .iaload, 34, [20], none), (34, .if_icmp .ge 27, 37, [61], none), (37, .iload_n 1, 38, [], none), (38, .iload 4, 40, [], none), (40, .ishr, 41, [], none), (41, .iconst 1, 42, [], none), (42, .iand, 43, [], none), (43, .iconst 1, 44, [], none), (44, .if_icmp .ne 11, 47, [55], none), (47, .aload_n 0, 48, [], none), (48, .iload 4, 50, [], none), (50, .iload_n 2, 51, [], none), (51, .iload_n 3, 52, [], none), (52, .invokevirtual 396, 55, [215, 3, 0, 12, 816, 817, 818, 662], none), (55, .iinc 4 1, 58, [], some [0, 1, 2, 3, 4]), (58, .goto (-35), 61, [23], none), (61, .iconst 0, 62, [], some [0, 1]), (62, .istore 4, 64, [], none), (64, .iload 4, 66, [], some [0, 1, 4]), (66, .aload_n 0, 67, [], none), (67, .getfield 43, 70, [12, 22, 2, 614, 0], none), (70, .aload_n 0, 71, [], none), (71, .getfield 257, 74, [12, 18, 0, 711, 0], none), (74, .iaload, 75, [20], none), (75, .if_icmp .ge 97, 78, [172], none), (78, .iload_n 1, 79, [], none), (79, .iload 4, 81, [], none), (81, .ishr, 82, [], none), (82, .iconst 1, 83, [], none), (83, .iand, 84, [], none), (84, .ifCond .ne 6, 87, [90], none), (87, .goto 79, 90, [166], none), (90, .aload_n 0, 91, [], some [0, 1, 4]), (91, .getfield 125, 94, [12, 53, 2, 642, 0], none), (94, .iload 4, 96, [], none), (96, .aload_n 0, 97, [], none), (97, .getfield 134, 100, [12, 57, 2, 645, 0], none), (100, .iload 4, 102, [], none), (102, .iaload, 103, [20], none), (103, .iastore, 104, [20], none), (104, .aload_n 0, 105, [], none), (105, .getfield 125, 108, [12, 53, 2, 642, 0], none), (108, .bipush 14, 110, [], none), (110, .iload 4, 112, [], none), (112, .iadd, 113, [], none), (113, .aload_n 0, 114, [], none), (114, .getfield 131, 117, [12, 56, 2, 644, 0], none), (117, .iload 4, 119, [], none), (119, .iaload, 120, [20], none), (120, .iastore, 121, [20], none), (121, .aload_n 0, 122, [], none), (122, .getfield 131, 125, [12, 56, 2, 644, 0], none), (125, .iload 4, 127, [], none), (127, .iaload, 128, [20], none), (128, .aload_n 0, 129, [], none), (129, .getfield 76, 132, [12, 33, 2, 625, 0], none), (132, .aload_n 0, 133, [], none), (133, .getfield 257, 136, [12, 18, 0, 711, 0], none), (136, .iaload, 137, [20], none), (137, .if_icmp .lt 12, 140, [149], none), (140, .aload_n 0, 141, [], none), (141, .iload 4, 143, [], none), (143, .invokevirtual 400, 146, [214, 1, 0, 12, 819, 820, 821, 662], none), (146, .goto 20, 149, [166], none), (149, .aload_n 0, 150, [], some [0, 1, 4]), (150, .getfield 131, 153, [12, 56, 2, 644, 0], none), (153, .iload 4, 155, [], none), (155, .iaload, 156, [20], none), (156, .ifCond .gt 10, 159, [166], none), (159, .aload_n 0, 160, [], none), (160, .iload 4, 162, [], none), (162, .iconst 0, 163, [], none), (163, .invokevirtual 375, 166, [213, 2, 0, 12, 798, 799, 800, 662], none), (166, .iinc 4 1, 169, [], some [0, 1, 4]), (169, .goto (-105), 172, [64], none), (172, .aload_n 0, 173, [], some [0]), (173, .getfield 125, 176, [12, 53, 2, 642, 0], none), (176, .bipush 55, 178, [], none), (178, .dup2, 179, [], none), (179, .iaload, 180, [20], none), (180, .iconst 1, 181, [], none), (181, .iadd, 182, [], none), (182, .iastore, 183, [20], none), (183, .return_, 184, [], none)]
def zc_X12_goes : List zE := [(0, .iconst 0, 1, [], none), (1, .istore_n 2, 2, [], none), (2, .iload_n 2, 3, [], some [0, 1, 2]), (3, .iload_n 1, 4, [], none), (4, .if_icmp .ge 13, 7, [17], none), (7, .aload_n 0, 8, [], none), (8, .invokevirtual 403, 11, [216, 0, 0, 12, 822, 823, 824, 662], none), (11, .iinc 2 1, 14, [], none), (14, .goto (-12), 17, [2], none), (17, .return_, 18, [], some [])]
def zc_X12_load : List zE := [(0, .aload_n 0, 1, [], none), (1, .iload_n 1, 2, [], none), (2, .invokevirtual 406, 5, [195, 1, 1, 12, 825, 826, 827, 662], none), (5, .ifCond .ne 5, 8, [10], none), (8, .iconst (-1), 9, [], none), (9, .ireturn, 10, [0], none), (10, .iload_n 2, 11, [], some [0, 1, 2]), (11, .tableswitch 92 0 6 #[41, 48, 63, 78, 78, 78, 78], 52, [103, 52, 59, 74, 89, 89, 89, 89], none), (52, .aload_n 0, 53, [], some [0, 1]), (53, .getfield 122, 56, [12, 52, 2, 641, 0], none), (56, .iload_n 1, 57, [], none), (57, .iaload, 58, [20], none), (58, .ireturn, 59, [0], none), (59, .aload_n 0, 60, [], some [0, 1]), (60, .getfield 49, 63, [12, 24, 2, 616, 0], none), (63, .bipush 7, 65, [], none), (65, .aload_n 0, 66, [], none), (66, .getfield 257, 69, [12, 18, 0, 711, 0], none), (69, .imul, 70, [], none), (70, .iload_n 1, 71, [], none), (71, .iadd, 72, [], none), (72, .iaload, 73, [20], none), (73, .ireturn, 74, [0], none), (74, .aload_n 0, 75, [], some [0, 1]), (75, .getfield 52, 78, [12, 25, 2, 617, 0], none), (78, .bipush 7, 80, [], none), (80, .aload_n 0, 81, [], none), (81, .getfield 257, 84, [12, 18, 0, 711, 0], none), (84, .imul, 85, [], none), (85, .iload_n 1, 86, [], none), (86, .iadd, 87, [], none), (87, .iaload, 88, [20], none), (88, .ireturn, 89, [0], none), (89, .aload_n 0, 90, [], some [0, 1, 2]), (90, .getfield 122, 93, [12, 52, 2, 641, 0], none), (93, .bipush 7, 95, [], none), (95, .iload_n 2, 96, [], none), (96, .iconst 2, 97, [], none), (97, .isub, 98, [], none), (98, .imul, 99, [], none), (99, .iload_n 1, 100, [], none), (100, .iadd, 101, [], none), (101, .iaload, 102, [20], none), (102, .ireturn, 103, [0], none), (103, .iconst (-1), 104, [], some []), (104, .ireturn, 105, [0], none)]
def zc_X12_silk : List zE := [(0, .aload_n 0, 1, [], none), (1, .iload_n 1, 2, [], none), (2, .invokevirtual 409, 5, [196, 1, 1, 12, 828, 829, 830, 662], none), (5, .ifCond .ne 5, 8, [10], none), (8, .iconst (-1), 9, [], none), (9, .ireturn, 10, [0], none), (10, .iload_n 2, 11, [], some [0, 1, 2]), (11, .tableswitch 59 0 2 #[25, 39, 49], 36, [70, 36, 50, 60], none), (36, .aload_n 0, 37, [], some [0, 1]), (37, .getfield 58, 40, [12, 27, 2, 619, 0], none), (40, .iconst 5, 41, [], none), (41, .aload_n 0, 42, [], none), (42, .getfield 257, 45, [12, 18, 0, 711, 0], none), (45, .imul, 46, [], none), (46, .iload_n 1, 47, [], none), (47, .iadd, 48, [], none), (48, .iaload, 49, [20], none), (49, .ireturn, 50, [0], none), (50, .aload_n 0, 51, [], some [0, 1]), (51, .getfield 122, 54, [12, 52, 2, 641, 0], none), (54, .bipush 35, 56, [], none), (56, .iload_n 1, 57, [], none), (57, .iadd, 58, [], none), (58, .iaload, 59, [20], none), (59, .ireturn, 60, [0], none), (60, .aload_n 0, 61, [], some [0, 1]), (61, .getfield 122, 64, [12, 52, 2, 641, 0], none), (64, .bipush 45, 66, [], none), (66, .iload_n 1, 67, [], none), (67, .iadd, 68, [], none), (68, .iaload, 69, [20], none), (69, .ireturn, 70, [0], none), (70, .iconst (-1), 71, [], some []), (71, .ireturn, 72, [0], none)]
def zc_X12_pull : List zE := [(0, .aload_n 0, 1, [], none), (1, .iload_n 1, 2, [], none), (2, .invokevirtual 409, 5, [196, 1, 1, 12, 828, 829, 830, 662], none), (5, .ifCond .eq 15, 8, [20], none), (8, .aload_n 0, 9, [], none), (9, .getfield 122, 12, [12, 52, 2, 641, 0], none), (12, .bipush 40, 14, [], none), (14, .iload_n 1, 15, [], none), (15, .iadd, 16, [], none), (16, .iaload, 17, [20], none), (17, .goto 5, 20, [22], none), (20, .bipush (-100), 22, [], some []), (22, .ireturn, 23, [0], some [])]
def zc_X12_hook : List zE := [(0, .aload_n 0, 1, [], none), (1, .iload_n 1, 2, [], none), (2, .invokevirtual 412, 5, [197, 1, 1, 12, 831, 832, 833, 662], none), (5, .ifCond .ne 5, 8, [10], none), (8, .iconst (-1), 9, [], none), (9, .ireturn, 10, [0], none), (10, .iload_n 2, 11, [], some [0, 1, 2]), (11, .tableswitch 115 0 3 #[29, 39, 53, 67], 40, [126, 40, 50, 64, 78], none), (40, .aload_n 0, 41, [], some [0, 1]), (41, .getfield 122, 44, [12, 52, 2, 641, 0], none), (44, .bipush 50, 46, [], none), (46, .iload_n 1, 47, [], none), (47, .iadd, 48, [], none), (48, .iaload, 49, [20], none), (49, .ireturn, 50, [0], none), (50, .aload_n 0, 51, [], some [0, 1]), (51, .getfield 70, 54, [12, 31, 2, 623, 0], none), (54, .iconst 5, 55, [], none), (55, .aload_n 0, 56, [], none), (56, .getfield 257, 59, [12, 18, 0, 711, 0], none), (59, .imul, 60, [], none), (60, .iload_n 1, 61, [], none), (61, .iadd, 62, [], none), (62, .iaload, 63, [20], none), (63, .ireturn, 64, [0], none), (64, .aload_n 0, 65, [], some [0, 1]), (65, .getfield 73, 68, [12, 32, 2, 624, 0], none), (68, .iconst 5, 69, [], none), (69, .aload_n 0, 70, [], none), (70, .getfield 257, 73, [12, 18, 0, 711, 0], none), (73, .imul, 74, [], none), (74, .iload_n 1, 75, [], none), (75, .iadd, 76, [], none), (76, .iaload, 77, [20], none), (77, .ireturn, 78, [0], none), (78, .iconst 0, 79, [], some [0, 1]), (79, .istore_n 3, 80, [], none), (80, .iconst 0, 81, [], none), (81, .istore 4, 83, [], none), (83, .iload 4, 85, [], some [0, 1, 3, 4]), (85, .aload_n 0, 86, [], none), (86, .getfield 43, 89, [12, 22, 2, 614, 0], none), (89, .aload_n 0, 90, [], none), (90, .getfield 257, 93, [12, 18, 0, 711, 0], none), (93, .iaload, 94, [20], none), (94, .if_icmp .ge 30, 97, [124], none), (97, .aload_n 0, 98, [], none), (98, .getfield 122, 101, [12, 52, 2, 641, 0], none), (101, .bipush 28, 103, [], none), (103, .iload 4, 105, [], none), (105, .iadd, 106, [], none), (106, .iaload, 107, [20], none), (107, .iload_n 1, 108, [], none), (108, .if_icmp .ne 10, 111, [118], none), (111, .iload_n 3, 112, [], none), (112, .iconst 1, 113, [], none), (113, .iload 4, 115, [], none), (115, .ishl, 116, [], none), (116, .ior, 117, [], none), (117, .istore_n 3, 118, [], none), (118, .iinc 4 1, 121, [], some [0, 1, 3, 4]), (121, .goto (-38), 124, [83], none), (124, .iload_n 3, 125, [], some [3]), (125, .ireturn, 126, [0], none), (126, .iconst (-1), 127, [], some []), (127, .ireturn, 128, [0], none)]
def zc_X12_tells : List zE := [(0, .aload_n 0, 1, [], none), (1, .iload_n 1, 2, [], none), (2, .invokevirtual 406, 5, [195, 1, 1, 12, 825, 826, 827, 662], none), (5, .ifCond .eq 26, 8, [31], none), (8, .iload_n 3, 9, [], none), (9, .iconst 0, 10, [], none), (10, .iconst 3, 11, [], none), (11, .invokestatic 340, 14, [191, 3, 1, 0, 771, 772, 662], none), (14, .ifCond .eq 17, 17, [31], none), (17, .iload_n 3, 18, [], none), (18, .iconst 2, 19, [], none), (19, .irem, 20, [], none), (20, .ifCond .ne 14, 23, [34], none), (23, .aload_n 0, 24, [], none), (24, .iload_n 2, 25, [], none), (25, .invokevirtual 409, 28, [196, 1, 1, 12, 828, 829, 830, 662], none), (28, .ifCond .ne 6, 31, [34], none), (31, .bipush (-100), 33, [], some []), (33, .ireturn, 34, [0], none), (34, .aload_n 0, 35, [], some [0, 1, 2, 3]), (35, .invokevirtual 415, 38, [200, 0, 0, 12, 834, 835, 836, 662], none), (38, .aload_n 0, 39, [], none), (39, .getfield 49, 42, [12, 24, 2, 616, 0], none), (42, .bipush 7, 44, [], none), (44, .aload_n 0, 45, [], none), (45, .getfield 257, 48, [12, 18, 0, 711, 0], none), (48, .imul, 49, [], none), (49, .iload_n 1, 50, [], none), (50, .iadd, 51, [], none), (51, .iaload, 52, [20], none), (52, .istore 4, 54, [], none), (54, .iload_n 3, 55, [], none), (55, .tableswitch 117 0 2 #[25, 63, 86], 80, [172, 80, 118, 141], none), (80, .aload_n 0, 81, [], some [0, 1, 2, 4]), (81, .aload_n 0, 82, [], none), (82, .getfield 125, 85, [12, 53, 2, 642, 0], none), (85, .bipush 55, 87, [], none), (87, .iaload, 88, [20], none), (88, .aload_n 0, 89, [], none), (89, .invokevirtual 418, 92, [204, 0, 1, 12, 837, 838, 839, 662], none), (92, .aload_n 0, 93, [], none), (93, .getfield 58, 96, [12, 27, 2, 619, 0], none), (96, .iconst 5, 97, [], none), (97, .aload_n 0, 98, [], none), (98, .getfield 257, 101, [12, 18, 0, 711, 0], none), (101, .imul, 102, [], none), (102, .iload_n 2, 103, [], none), (103, .iadd, 104, [], none), (104, .iaload, 105, [20], none), (105, .iload 4, 107, [], none), (107, .iconst 0, 108, [], none), (108, .aload_n 0, 109, [], none), (109, .getfield 125, 112, [12, 53, 2, 642, 0], none), (112, .iload_n 1, 113, [], none), (113, .iaload, 114, [20], none), (114, .invokevirtual 382, 117, [207, 6, 1, 12, 804, 805, 806, 662], none), (117, .ireturn, 118, [0], none), (118, .aload_n 0, 119, [], some [0, 1]), (119, .aload_n 0, 120, [], none), (120, .getfield 125, 123, [12, 53, 2, 642, 0], none), (123, .bipush 55, 125, [], none), (125, .iaload, 126, [20], none), (126, .aload_n 0, 127, [], none), (127, .invokevirtual 418, 130, [204, 0, 1, 12, 837, 838, 839, 662], none), (130, .iconst 0, 131, [], none), (131, .aload_n 0, 132, [], none), (132, .getfield 125, 135, [12, 53, 2, 642, 0], none), (135, .iload_n 1, 136, [], none), (136, .iaload, 137, [20], none), (137, .invokevirtual 378, 140, [208, 4, 1, 12, 801, 802, 803, 662], none), (140, .ireturn, 141, [0], none), (141, .aload_n 0, 142, [], some [0, 2, 4]), (142, .aload_n 0, 143, [], none), (143, .getfield 125, 146, [12, 53, 2, 642, 0], none), (146, .bipush 55, 148, [], none), (148, .iaload, 149, [20], none), (149, .aload_n 0, 150, [], none), (150, .invokevirtual 418, 153, [204, 0, 1, 12, 837, 838, 839, 662], none), (153, .aload_n 0, 154, [], none), (154, .getfield 58, 157, [12, 27, 2, 619, 0], none), (157, .iconst 5, 158, [], none), (158, .aload_n 0, 159, [], none), (159, .getfield 257, 162, [12, 18, 0, 711, 0], none), (162, .imul, 163, [], none), (163, .iload_n 2, 164, [], none), (164, .iadd, 165, [], none), (165, .iaload, 166, [20], none), (166, .iload 4, 168, [], none), (168, .invokevirtual 421, 171, [209, 4, 1, 12, 840, 841, 842, 662], none), (171, .ireturn, 172, [0], none), (172, .aload_n 0, 173, [], some [0, 1]), (173, .aload_n 0, 174, [], none), (174, .getfield 125, 177, [12, 53, 2, 642, 0], none), (177, .bipush 55, 179, [], none), (179, .iaload, 180, [20], none), (180, .aload_n 0, 181, [], none), (181, .invokevirtual 418, 184, [204, 0, 1, 12, 837, 838, 839, 662], none), (184, .iload_n 1, 185, [], none), (185, .invokevirtual 386, 188, [210, 3, 1, 12, 807, 808, 809, 662], none), (188, .ireturn, 189, [0], none)]
def zc_X12_records : List zE := [(0, .aload_n 0, 1, [], none), (1, .getfield 275, 4, [12, 59, 0, 719, 0], none), (4, .bipush 40, 6, [], none), (6, .if_icmp .ne 43, 9, [49], none), (9, .iconst 0, 10, [], none), (10, .istore_n 1, 11, [], none), (11, .iload_n 1, 12, [], some [0, 1]), (12, .sipush 2262, 15, [], none), (15, .if_icmp .ge 24, 18, [39], none), (18, .aload_n 0, 19, [], none), (19, .getfield 140, 22, [12, 60, 2, 647, 0], none), (22, .iload_n 1, 23, [], none), (23, .aload_n 0, 24, [], none), (24, .getfield 140, 27, [12, 60, 2, 647, 0], none), (27, .iload_n 1, 28, [], none), (28, .bipush 58, 30, [], none), (30, .iadd, 31, [], none), (31, .iaload, 32, [20], none), (32, .iastore, 33, [20], none), (33, .iinc 1 1, 36, [], none), (36, .goto (-25), 39, [11], none), (39, .aload_n 0, 40, [], some [0]), (40, .dup, 41, [], none), (41, .getfield 275, 44, [12, 59, 0, 719, 0], none), (44, .iconst 1, 45, [], none), (45, .isub, 46, [], none), (46, .putfield 275, 49, [12, 59, 0, 719, 0, 0], none), (49, .iconst 0, 50, [], some [0]), (50, .istore_n 1, 51, [], none), (51, .iload_n 1, 52, [], some [0, 1]), (52, .bipush 58, 54, [], none), (54, .if_icmp .ge 29, 57, [83], none), (57, .aload_n 0, 58, [], none), (58, .getfield 140, 61, [12, 60, 2, 647, 0], none), (61, .bipush 58, 63, [], none), (63, .aload_n 0, 64, [], none), (64, .getfield 275, 67, [12, 59, 0, 719, 0], none), (67, .imul, 68, [], none), (68, .iload_n 1, 69, [], none), (69, .iadd, 70, [], none), (70, .aload_n 0, 71, [], none), (71, .getfield 122, 74, [12, 52, 2, 641, 0], none), (74, .iload_n 1, 75, [], none), (75, .iaload, 76, [20], none), (76, .iastore, 77, [20], none), (77, .iinc 1 1, 80, [], none), (80, .goto (-29), 83, [51], none), (83, .aload_n 0, 84, [], some [0]), (84, .dup, 85, [], none), (85, .getfield 275, 88, [12, 59, 0, 719, 0], none), (88, .iconst 1, 89, [], none), (89, .iadd, 90, [], none), (90, .putfield 275, 93, [12, 59, 0, 719, 0, 0], none), (93, .aload_n 0, 94, [], none), (94, .invokevirtual 187, 97, [199, 0, 0, 12, 668, 669, 670, 662], none), (97, .return_, 98, [], none)]
def zc_X12_areAtFoot : List zE := [(0, .aload_n 0, 1, [], none), (1, .getfield 122, 4, [12, 52, 2, 641, 0], none), (4, .bipush 7, 6, [], none), (6, .iload_n 1, 7, [], none), (7, .iadd, 8, [], none), (8, .iaload, 9, [20], none), (9, .ifCond .ne 19, 12, [28], none), (12, .aload_n 0, 13, [], none), (13, .getfield 122, 16, [12, 52, 2, 641, 0], none), (16, .bipush 35, 18, [], none), (18, .iload_n 2, 19, [], none), (19, .iadd, 20, [], none), (20, .iaload, 21, [20], none), (21, .ifCond .ge 7, 24, [28], none), (24, .iconst 1, 25, [], none), (25, .goto 4, 28, [29], none), (28, .iconst 0, 29, [], some []), (29, .ireturn, 30, [1], some [])]
def zc_X12_areBoth : List zE := [(0, .aload_n 0, 1, [], none), (1, .iload_n 1, 2, [], none), (2, .invokevirtual 406, 5, [195, 1, 1, 12, 825, 826, 827, 662], none), (5, .ifCond .eq 15, 8, [20], none), (8, .aload_n 0, 9, [], none), (9, .iload_n 2, 10, [], none), (10, .invokevirtual 409, 13, [196, 1, 1, 12, 828, 829, 830, 662], none), (13, .ifCond .eq 7, 16, [20], none), (16, .iconst 1, 17, [], none), (17, .goto 4, 20, [21], none), (20, .iconst 0, 21, [], some []), (21, .ireturn, 22, [1], some [])]
def zc_X12_tie : List zE := [(0, .aload_n 0, 1, [], none), (1, .iload_n 1, 2, [], none), (2, .iload_n 2, 3, [], none), (3, .invokevirtual 424, 6, [225, 2, 1, 12, 843, 844, 845, 662], none), (6, .ifCond .ne 5, 9, [11], none), (9, .iconst (-1), 10, [], none), (10, .ireturn, 11, [0], none), (11, .aload_n 0, 12, [], some [0, 1, 2]), (12, .iload_n 1, 13, [], none), (13, .iload_n 2, 14, [], none), (14, .invokevirtual 428, 17, [224, 2, 1, 12, 846, 847, 848, 662], none), (17, .ifCond .ne 6, 20, [23], none), (20, .bipush (-2), 22, [], none), (22, .ireturn, 23, [0], none), (23, .aload_n 0, 24, [], some [0, 1, 2]), (24, .invokevirtual 415, 27, [200, 0, 0, 12, 834, 835, 836, 662], none), (27, .aload_n 0, 28, [], none), (28, .aload_n 0, 29, [], none), (29, .getfield 125, 32, [12, 53, 2, 642, 0], none), (32, .bipush 55, 34, [], none), (34, .iaload, 35, [20], none), (35, .aload_n 0, 36, [], none), (36, .invokevirtual 418, 39, [204, 0, 1, 12, 837, 838, 839, 662], none), (39, .aload_n 0, 40, [], none), (40, .getfield 58, 43, [12, 27, 2, 619, 0], none), (43, .iconst 5, 44, [], none), (44, .aload_n 0, 45, [], none), (45, .getfield 257, 48, [12, 18, 0, 711, 0], none), (48, .imul, 49, [], none), (49, .iload_n 2, 50, [], none), (50, .iadd, 51, [], none), (51, .iaload, 52, [20], none), (52, .aload_n 0, 53, [], none), (53, .getfield 49, 56, [12, 24, 2, 616, 0], none), (56, .bipush 7, 58, [], none), (58, .aload_n 0, 59, [], none), (59, .getfield 257, 62, [12, 18, 0, 711, 0], none), (62, .imul, 63, [], none), (63, .iload_n 1, 64, [], none), (64, .iadd, 65, [], none), (65, .iaload, 66, [20], none), (66, .invokevirtual 421, 69, [209, 4, 1, 12, 840, 841, 842, 662], none), (69, .istore_n 3, 70, [], none), (70, .aload_n 0, 71, [], none), (71, .getfield 125, 74, [12, 53, 2, 642, 0], none), (74, .bipush 57, 76, [], none), (76, .dup2, 77, [], none), (77, .iaload, 78, [20], none), (78, .iload_n 3, 79, [], none), (79, .iadd, 80, [], none), (80, .iastore, 81, [20], none), (81, .aload_n 0, 82, [], some [0, 1, 2, 3]), (82, .getfield 125, 85, [12, 53, 2, 642, 0], none), (85, .bipush 7, 87, [], none), (87, .iload_n 1, 88, [], none), (88, .iadd, 89, [], none), (89, .iconst 1, 90, [], none), (90, .iastore, 91, [20], none), (91, .aload_n 0, 92, [], none), (92, .getfield 125, 95, [12, 53, 2, 642, 0], none), (95, .bipush 14, 97, [], none), (97, .iload_n 1, 98, [], none), (98, .iadd, 99, [], none), (99, .iconst 0, 100, [], none), (100, .iastore, 101, [20], none), (101, .aload_n 0, 102, [], none), (102, .getfield 125, 105, [12, 53, 2, 642, 0], none), (105, .bipush 21, 107, [], none), (107, .iload_n 1, 108, [], none), (108, .iadd, 109, [], none), (109, .iload_n 2, 110, [], none), (110, .iastore, 111, [20], none), (111, .aload_n 0, 112, [], none), (112, .getfield 125, 115, [12, 53, 2, 642, 0], none), (115, .bipush 35, 117, [], none), (117, .iload_n 2, 118, [], none), (118, .iadd, 119, [], none), (119, .iload_n 1, 120, [], none), (120, .iastore, 121, [20], none), (121, .aload_n 0, 122, [], some [0, 2, 3]), (122, .getfield 125, 125, [12, 53, 2, 642, 0], none), (125, .bipush 45, 127, [], none), (127, .iload_n 2, 128, [], none), (128, .iadd, 129, [], none), (129, .dup2, 130, [], none), (130, .iaload, 131, [20], none), (131, .iconst 1, 132, [], none), (132, .iadd, 133, [], none), (133, .iastore, 134, [20], none), (134, .aload_n 0, 135, [], none), (135, .invokevirtual 431, 138, [223, 0, 0, 12, 849, 850, 851, 662], none), (138, .iload_n 3, 139, [], none), (139, .ireturn, 140, [0], none)]
def zc_X12_move : List zE := [(0, .aload_n 0, 1, [], none), (1, .iload_n 1, 2, [], none), (2, .invokevirtual 412, 5, [197, 1, 1, 12, 831, 832, 833, 662], none), (5, .ifCond .eq 26, 8, [31], none), (8, .iload_n 2, 9, [], none), (9, .iconst 0, 10, [], none), (10, .bipush 19, 12, [], none), (12, .invokestatic 340, 15, [191, 3, 1, 0, 771, 772, 662], none), (15, .ifCond .eq 16, 18, [31], none), (18, .aload_n 0, 19, [], none), (19, .getfield 122, 22, [12, 52, 2, 641, 0], none), (22, .bipush 50, 24, [], none), (24, .iload_n 1, 25, [], none), (25, .iadd, 26, [], none), (26, .iaload, 27, [20], none), (27, .iload_n 2, 28, [], none), (28, .if_icmp .ne 5, 31, [33], none), (31, .iconst 0, 32, [], some []), (32, .ireturn, 33, [1], none), (33, .aload_n 0, 34, [], some [0, 1, 2]), (34, .invokevirtual 415, 37, [200, 0, 0, 12, 834, 835, 836, 662], none), (37, .aload_n 0, 38, [], none), (38, .getfield 125, 41, [12, 53, 2, 642, 0], none), (41, .bipush 50, 43, [], none), (43, .iload_n 1, 44, [], none), (44, .iadd, 45, [], none), (45, .iload_n 2, 46, [], none), (46, .iastore, 47, [20], none), (47, .aload_n 0, 48, [], none), (48, .invokevirtual 431, 51, [223, 0, 0, 12, 849, 850, 851, 662], none), (51, .iconst 1, 52, [], none), (52, .ireturn, 53, [1], none)]
def zc_X12_patch : List zE := [(0, .aload_n 0, 1, [], none), (1, .iload_n 1, 2, [], none), (2, .invokevirtual 409, 5, [196, 1, 1, 12, 828, 829, 830, 662], none), (5, .ifCond .eq 37, 8, [42], none), (8, .aload_n 0, 9, [], none), (9, .getfield 122, 12, [12, 52, 2, 641, 0], none), (12, .bipush 35, 14, [], none), (14, .iload_n 1, 15, [], none), (15, .iadd, 16, [], none), (16, .iaload, 17, [20], none), (17, .ifCond .ge 25, 20, [42], none), (20, .aload_n 0, 21, [], none), (21, .getfield 122, 24, [12, 52, 2, 641, 0], none), (24, .bipush 40, 26, [], none), (26, .iload_n 1, 27, [], none), (27, .iadd, 28, [], none), (28, .iaload, 29, [20], none), (29, .iload_n 2, 30, [], none), (30, .ifCond .eq 7, 33, [37], none), (33, .iconst 3, 34, [], none), (34, .goto 5, 37, [39], none), (37, .bipush (-3), 39, [], some [0, 1, 2]), (39, .if_icmp .ne 5, 42, [44], some [0, 1, 2]), (42, .iconst 0, 43, [], some []), (43, .ireturn, 44, [1], none), (44, .aload_n 0, 45, [], some [0, 1, 2]), (45, .invokevirtual 415, 48, [200, 0, 0, 12, 834, 835, 836, 662], none), (48, .aload_n 0, 49, [], none), (49, .getfield 125, 52, [12, 53, 2, 642, 0], none), (52, .bipush 40, 54, [], none), (54, .iload_n 1, 55, [], none), (55, .iadd, 56, [], none), (56, .dup2, 57, [], none), (57, .iaload, 58, [20], none), (58, .iload_n 2, 59, [], none), (59, .ifCond .eq 7, 62, [66], none), (62, .iconst 1, 63, [], none), (63, .goto 4, 66, [67], none), (66, .iconst (-1), 67, [], some [0]), (67, .iadd, 68, [], some [0]), (68, .iastore, 69, [20], none), (69, .aload_n 0, 70, [], none), (70, .invokevirtual 431, 73, [223, 0, 0, 12, 849, 850, 851, 662], none), (73, .iconst 1, 74, [], none), (74, .ireturn, 75, [1], none)]
def zc_X12_hours : List zE := [(0, .iload_n 1, 1, [], none), (1, .iconst 0, 2, [], none), (2, .bipush 72, 4, [], none), (4, .invokestatic 340, 7, [191, 3, 1, 0, 771, 772, 662], none), (7, .ifCond .ne 5, 10, [12], none), (10, .iconst (-1), 11, [], none), (11, .ireturn, 12, [0], none), (12, .iload_n 1, 13, [], some [0, 1]), (13, .ifCond .ne 11, 16, [24], none), (16, .aload_n 0, 17, [], none), (17, .getfield 122, 20, [12, 52, 2, 641, 0], none), (20, .bipush 55, 22, [], none), (22, .iaload, 23, [20], none), (23, .ireturn, 24, [0], none), (24, .aload_n 0, 25, [], some [0, 1]), (25, .invokevirtual 415, 28, [200, 0, 0, 12, 834, 835, 836, 662], none), (28, .aload_n 0, 29, [], none), (29, .iload_n 1, 30, [], none), (30, .invokevirtual 434, 33, [217, 1, 0, 12, 852, 853, 854, 662], none), (33, .aload_n 0, 34, [], none), (34, .invokevirtual 431, 37, [223, 0, 0, 12, 849, 850, 851, 662], none), (37, .aload_n 0, 38, [], none), (38, .getfield 122, 41, [12, 52, 2, 641, 0], none), (41, .bipush 55, 43, [], none), (43, .iaload, 44, [20], none), (44, .ireturn, 45, [0], none)]
def zc_X12_undo : List zE := [(0, .aload_n 0, 1, [], none), (1, .getfield 275, 4, [12, 59, 0, 719, 0], none), (4, .ifCond .ne 5, 7, [9], none), (7, .iconst 0, 8, [], none), (8, .ireturn, 9, [1], none), (9, .aload_n 0, 10, [], some [0]), (10, .dup, 11, [], none), (11, .getfield 275, 14, [12, 59, 0, 719, 0], none), (14, .iconst 1, 15, [], none), (15, .isub, 16, [], none), (16, .putfield 275, 19, [12, 59, 0, 719, 0, 0], none), (19, .iconst 0, 20, [], none), (20, .istore_n 1, 21, [], none), (21, .iload_n 1, 22, [], some [0, 1]), (22, .bipush 58, 24, [], none), (24, .if_icmp .ge 29, 27, [53], none), (27, .aload_n 0, 28, [], none), (28, .getfield 122, 31, [12, 52, 2, 641, 0], none), (31, .iload_n 1, 32, [], none), (32, .aload_n 0, 33, [], none), (33, .getfield 140, 36, [12, 60, 2, 647, 0], none), (36, .bipush 58, 38, [], none), (38, .aload_n 0, 39, [], none), (39, .getfield 275, 42, [12, 59, 0, 719, 0], none), (42, .imul, 43, [], none), (43, .iload_n 1, 44, [], none), (44, .iadd, 45, [], none), (45, .iaload, 46, [20], none), (46, .iastore, 47, [20], none), (47, .iinc 1 1, 50, [], none), (50, .goto (-29), 53, [21], none), (53, .iconst 1, 54, [], some []), (54, .ireturn, 55, [1], none)]
def zc_X12_beginsFlight : List zE := [(0, .aload_n 0, 1, [], none), (1, .iconst 0, 2, [], none), (2, .putfield 437, 5, [12, 61, 0, 855, 0, 0], none), (5, .aload_n 0, 6, [], none), (6, .iconst 0, 7, [], none), (7, .putfield 440, 10, [12, 62, 0, 856, 0, 0], none), (10, .aload_n 0, 11, [], none), (11, .bipush (-2), 13, [], none), (13, .putfield 443, 16, [12, 63, 0, 857, 0, 0], none), (16, .aload_n 0, 17, [], none), (17, .iload_n 1, 18, [], none), (18, .putfield 446, 21, [12, 64, 0, 858, 0, 0], none), (21, .aload_n 0, 22, [], some [0]), (22, .iconst 0, 23, [], none), (23, .putfield 449, 26, [12, 65, 0, 859, 0, 0], none), (26, .aload_n 0, 27, [], none), (27, .iconst 0, 28, [], none), (28, .putfield 452, 31, [12, 66, 0, 860, 0, 0], none), (31, .aload_n 0, 32, [], none), (32, .invokevirtual 393, 35, [212, 0, 0, 12, 813, 814, 815, 662], none), (35, .return_, 36, [], none)]
def zc_X12_flies : List zE := [(0, .aload_n 0, 1, [], none), (1, .iload_n 1, 2, [], none), (2, .iconst 1, 3, [], none), (3, .aload_n 0, 4, [], none), (4, .getfield 449, 7, [12, 65, 0, 859, 0], none), (7, .aload_n 0, 8, [], none), (8, .getfield 446, 11, [12, 64, 0, 858, 0], none), (11, .invokevirtual 378, 14, [208, 4, 1, 12, 801, 802, 803, 662], none), (14, .istore 6, 16, [], none), (16, .aload_n 0, 17, [], none), (17, .iload_n 1, 18, [], none), (18, .iconst 1, 19, [], none), (19, .iload_n 3, 20, [], none), (20, .iload 4, 22, [], none), (22, .aload_n 0, 23, [], none), (23, .getfield 449, 26, [12, 65, 0, 859, 0], none), (26, .aload_n 0, 27, [], none), (27, .getfield 446, 30, [12, 64, 0, 858, 0], none), (30, .invokevirtual 382, 33, [207, 6, 1, 12, 804, 805, 806, 662], none), (33, .istore 7, 35, [], none), (35, .iload_n 2, 36, [], none), (36, .iconst (-1), 37, [], none), (37, .if_icmp .ne 7, 40, [44], none), (40, .iconst 0, 41, [], none), (41, .goto 10, 44, [51], none), (44, .aload_n 0, 45, [], some [0, 1, 2, 5, 6, 7]), (45, .iload_n 1, 46, [], none), (46, .iconst 1, 47, [], none), (47, .iload_n 2, 48, [], none), (48, .invokevirtual 386, 51, [210, 3, 1, 12, 807, 808, 809, 662], none), (51, .istore 8, 53, [], some [0, 5, 6, 7]), (53, .aload_n 0, 54, [], none), (54, .aload_n 0, 55, [], none), (55, .getfield 446, 58, [12, 64, 0, 858, 0], none), (58, .iload 5, 60, [], none), (60, .iadd, 61, [], none), (61, .iload 6, 63, [], none), (63, .iadd, 64, [], none), (64, .iconst 0, 65, [], none), (65, .bipush 19, 67, [], none), (67, .invokestatic 366, 70, [192, 3, 1, 0, 791, 792, 662], none), (70, .putfield 446, 73, [12, 64, 0, 858, 0, 0], none), (73, .aload_n 0, 74, [], none), (74, .dup, 75, [], none), (75, .getfield 449, 78, [12, 65, 0, 859, 0], none), (78, .iload 7, 80, [], none), (80, .iadd, 81, [], none), (81, .putfield 449, 84, [12, 65, 0, 859, 0, 0], none), (84, .aload_n 0, 85, [], none), (85, .getfield 449, 88, [12, 65, 0, 859, 0], none), (88, .aload_n 0, 89, [], none), (89, .getfield 76, 92, [12, 33, 2, 625, 0], none), (92, .aload_n 0, 93, [], none), (93, .getfield 257, 96, [12, 18, 0, 711, 0], none), (96, .iaload, 97, [20], none), (97, .if_icmp .lt 51, 100, [148], none), (100, .aload_n 0, 101, [], none), (101, .aload_n 0, 102, [], none), (102, .aload_n 0, 103, [], none), (103, .getfield 446, 106, [12, 64, 0, 858, 0], none), (106, .invokevirtual 372, 109, [211, 1, 1, 12, 795, 796, 797, 662], none), (109, .putfield 443, 112, [12, 63, 0, 857, 0, 0], none), (112, .aload_n 0, 113, [], some [0, 8]), (113, .aload_n 0, 114, [], none), (114, .getfield 443, 117, [12, 63, 0, 857, 0], none), (117, .ifCond .ge 7, 120, [124], none), (120, .iconst 2, 121, [], none), (121, .goto 4, 124, [125], none), (124, .iconst 1, 125, [], some [0, 8]), (125, .putfield 440, 128, [12, 62, 0, 856, 0, 0], some [0, 8]), (128, .aload_n 0, 129, [], none), (129, .aload_n 0, 130, [], none), (130, .getfield 443, 133, [12, 63, 0, 857, 0], none), (133, .ifCond .ge 7, 136, [140], none), (136, .iconst 0, 137, [], none), (137, .goto 5, 140, [142], none), (140, .iload 8, 142, [], some [8]), (142, .putfield 452, 145, [12, 66, 0, 860, 0, 0], some []), (145, .goto 15, 148, [160], none), (148, .aload_n 0, 149, [], some [0]), (149, .getfield 449, 152, [12, 65, 0, 859, 0], none), (152, .ifCond .gt 8, 155, [160], none), (155, .aload_n 0, 156, [], none), (156, .iconst 3, 157, [], none), (157, .putfield 440, 160, [12, 62, 0, 856, 0, 0], none), (160, .return_, 161, [], some [])]
def zc_X12_fliesOn : List zE := [(0, .aload_n 0, 1, [], none), (1, .iload 6, 3, [], none), (3, .invokevirtual 455, 6, [231, 1, 0, 12, 861, 862, 863, 662], none), (6, .iconst 1, 7, [], none), (7, .istore 7, 9, [], none), (9, .iload 7, 11, [], some [0, 1, 2, 3, 4, 5, 7]), (11, .bipush 48, 13, [], none), (13, .if_icmp .gt 42, 16, [55], none), (16, .aload_n 0, 17, [], none), (17, .iload_n 1, 18, [], none), (18, .iload 7, 20, [], none), (20, .iadd, 21, [], none), (21, .iconst 1, 22, [], none), (22, .isub, 23, [], none), (23, .iload_n 2, 24, [], none), (24, .iload_n 3, 25, [], none), (25, .iload 4, 27, [], none), (27, .iload 5, 29, [], none), (29, .invokevirtual 458, 32, [232, 5, 0, 12, 864, 865, 866, 662], none), (32, .aload_n 0, 33, [], none), (33, .getfield 440, 36, [12, 62, 0, 856, 0], none), (36, .ifCond .ne 6, 39, [42], none), (39, .goto 10, 42, [49], none), (42, .aload_n 0, 43, [], some [0, 7]), (43, .iload 7, 45, [], none), (45, .putfield 437, 48, [12, 61, 0, 855, 0, 0], none), (48, .return_, 49, [], none), (49, .iinc 7 1, 52, [], some [0, 1, 2, 3, 4, 5, 7]), (52, .goto (-43), 55, [9], none), (55, .return_, 56, [], some [])]
def zc_X12_fliesFrom : List zE := [(0, .aload_n 0, 1, [], none), (1, .aload_n 0, 2, [], none), (2, .getfield 125, 5, [12, 53, 2, 642, 0], none), (5, .bipush 55, 7, [], none), (7, .iaload, 8, [20], none), (8, .iload_n 3, 9, [], none), (9, .iadd, 10, [], none), (10, .iload_n 1, 11, [], none), (11, .aload_n 0, 12, [], none), (12, .getfield 58, 15, [12, 27, 2, 619, 0], none), (15, .iconst 5, 16, [], none), (16, .aload_n 0, 17, [], none), (17, .getfield 257, 20, [12, 18, 0, 711, 0], none), (20, .imul, 21, [], none), (21, .iload_n 2, 22, [], none), (22, .iadd, 23, [], none), (23, .iaload, 24, [20], none), (24, .aload_n 0, 25, [], none), (25, .getfield 49, 28, [12, 24, 2, 616, 0], none), (28, .bipush 7, 30, [], none), (30, .aload_n 0, 31, [], none), (31, .getfield 257, 34, [12, 18, 0, 711, 0], none), (34, .imul, 35, [], none), (35, .iload_n 1, 36, [], none), (36, .iadd, 37, [], none), (37, .iaload, 38, [20], none), (38, .iload 4, 40, [], none), (40, .aload_n 0, 41, [], none), (41, .getfield 125, 44, [12, 53, 2, 642, 0], none), (44, .iload_n 1, 45, [], none), (45, .iaload, 46, [20], none), (46, .invokevirtual 462, 49, [233, 6, 0, 12, 867, 868, 869, 662], none), (49, .return_, 50, [], none)]
def zc_X12_flight : List zE := [(0, .aload_n 0, 1, [], none), (1, .iload_n 1, 2, [], none), (2, .iload_n 2, 3, [], none), (3, .invokevirtual 424, 6, [225, 2, 1, 12, 843, 844, 845, 662], none), (6, .ifCond .eq 23, 9, [29], none), (9, .iload_n 3, 10, [], none), (10, .iconst 0, 11, [], none), (11, .bipush 24, 13, [], none), (13, .invokestatic 340, 16, [191, 3, 1, 0, 771, 772, 662], none), (16, .ifCond .eq 13, 19, [29], none), (19, .iload 4, 21, [], none), (21, .iconst 0, 22, [], none), (22, .iconst 3, 23, [], none), (23, .invokestatic 340, 26, [191, 3, 1, 0, 771, 772, 662], none), (26, .ifCond .ne 5, 29, [31], none), (29, .iconst (-1), 30, [], some []), (30, .ireturn, 31, [0], none), (31, .aload_n 0, 32, [], some [0, 1, 2, 3, 4]), (32, .iload_n 1, 33, [], none), (33, .iload_n 2, 34, [], none), (34, .invokevirtual 428, 37, [224, 2, 1, 12, 846, 847, 848, 662], none), (37, .ifCond .ne 6, 40, [43], none), (40, .bipush (-2), 42, [], none), (42, .ireturn, 43, [0], none), (43, .aload_n 0, 44, [], some [0, 1, 2, 3, 4]), (44, .invokevirtual 415, 47, [200, 0, 0, 12, 834, 835, 836, 662], none), (47, .aload_n 0, 48, [], none), (48, .iload_n 1, 49, [], none), (49, .iload_n 2, 50, [], none), (50, .iload_n 3, 51, [], none), (51, .aload_n 0, 52, [], none), (52, .getfield 125, 55, [12, 53, 2, 642, 0], none), (55, .bipush 40, 57, [], none), (57, .iload_n 2, 58, [], none), (58, .iadd, 59, [], none), (59, .iaload, 60, [20], none), (60, .invokevirtual 466, 63, [234, 4, 0, 12, 870, 871, 872, 662], none), (63, .iload 4, 65, [], none), (65, .ifCond .ne 10, 68, [75], none), (68, .aload_n 0, 69, [], none), (69, .getfield 437, 72, [12, 61, 0, 855, 0], none), (72, .goto 33, 75, [105], none), (75, .iload 4, 77, [], some [0, 4]), (77, .iconst 1, 78, [], none), (78, .if_icmp .ne 10, 81, [88], none), (81, .aload_n 0, 82, [], none), (82, .getfield 440, 85, [12, 62, 0, 856, 0], none), (85, .goto 20, 88, [105], none), (88, .iload 4, 90, [], some [0, 4]), (90, .iconst 2, 91, [], none), (91, .if_icmp .ne 10, 94, [101], none), (94, .aload_n 0, 95, [], none), (95, .getfield 443, 98, [12, 63, 0, 857, 0], none), (98, .goto 7, 101, [105], none), (101, .aload_n 0, 102, [], some [0]), (102, .getfield 446, 105, [12, 64, 0, 858, 0], none), (105, .ireturn, 106, [0], some [])]
def zc_X12_soon : List zE := [(0, .aload_n 0, 1, [], none), (1, .iload_n 1, 2, [], none), (2, .iload_n 2, 3, [], none), (3, .invokevirtual 424, 6, [225, 2, 1, 12, 843, 844, 845, 662], none), (6, .ifCond .eq 20, 9, [26], none), (9, .aload_n 0, 10, [], none), (10, .iload_n 3, 11, [], none), (11, .invokevirtual 412, 14, [197, 1, 1, 12, 831, 832, 833, 662], none), (14, .ifCond .eq 12, 17, [26], none), (17, .aload_n 0, 18, [], none), (18, .iload_n 1, 19, [], none), (19, .iload_n 2, 20, [], none), (20, .invokevirtual 428, 23, [224, 2, 1, 12, 846, 847, 848, 662], none), (23, .ifCond .ne 5, 26, [28], none), (26, .iconst (-1), 27, [], some []), (27, .ireturn, 28, [0], none), (28, .aload_n 0, 29, [], some [0, 1, 2, 3]), (29, .invokevirtual 415, 32, [200, 0, 0, 12, 834, 835, 836, 662], none), (32, .iconst 0, 33, [], none), (33, .istore 4, 35, [], none), (35, .iload 4, 37, [], some [0, 1, 2, 3, 4]), (37, .bipush 24, 39, [], none), (39, .if_icmp .gt 37, 42, [76], none), (42, .aload_n 0, 43, [], none), (43, .iload_n 1, 44, [], none), (44, .iload_n 2, 45, [], none), (45, .iload 4, 47, [], none), (47, .aload_n 0, 48, [], none), (48, .getfield 125, 51, [12, 53, 2, 642, 0], none), (51, .bipush 40, 53, [], none), (53, .iload_n 2, 54, [], none), (54, .iadd, 55, [], none), (55, .iaload, 56, [20], none), (56, .invokevirtual 466, 59, [234, 4, 0, 12, 870, 871, 872, 662], none), (59, .aload_n 0, 60, [], none), (60, .getfield 443, 63, [12, 63, 0, 857, 0], none), (63, .iload_n 3, 64, [], none), (64, .if_icmp .ne 6, 67, [70], none), (67, .iload 4, 69, [], none), (69, .ireturn, 70, [0], none), (70, .iinc 4 1, 73, [], some [0, 1, 2, 3, 4]), (73, .goto (-38), 76, [35], none), (76, .bipush (-2), 78, [], some []), (78, .ireturn, 79, [0], none)]
def zc_X12_patches : List zE := [(0, .aload_n 0, 1, [], none), (1, .iload_n 1, 2, [], none), (2, .iload_n 2, 3, [], none), (3, .invokevirtual 424, 6, [225, 2, 1, 12, 843, 844, 845, 662], none), (6, .ifCond .eq 20, 9, [26], none), (9, .aload_n 0, 10, [], none), (10, .iload_n 3, 11, [], none), (11, .invokevirtual 412, 14, [197, 1, 1, 12, 831, 832, 833, 662], none), (14, .ifCond .eq 12, 17, [26], none), (17, .aload_n 0, 18, [], none), (18, .iload_n 1, 19, [], none), (19, .iload_n 2, 20, [], none), (20, .invokevirtual 428, 23, [224, 2, 1, 12, 846, 847, 848, 662], none), (23, .ifCond .ne 7, 26, [30], none), (26, .sipush (-1000), 29, [], some []), (29, .ireturn, 30, [0], none), (30, .aload_n 0, 31, [], some [0, 1, 2, 3]), (31, .invokevirtual 415, 34, [200, 0, 0, 12, 834, 835, 836, 662], none), (34, .bipush (-100), 36, [], none), (36, .istore 4, 38, [], none), (38, .bipush (-3), 40, [], none), (40, .istore 5, 42, [], none), (42, .iload 5, 44, [], some [0, 1, 2, 3, 4, 5]), (44, .iconst 3, 45, [], none), (45, .if_icmp .gt 71, 48, [116], none), (48, .aload_n 0, 49, [], none), (49, .iload_n 1, 50, [], none), (50, .iload_n 2, 51, [], none), (51, .iconst 0, 52, [], none), (52, .iload 5, 54, [], none), (54, .invokevirtual 466, 57, [234, 4, 0, 12, 870, 871, 872, 662], none), (57, .aload_n 0, 58, [], none), (58, .getfield 443, 61, [12, 63, 0, 857, 0], none), (61, .iload_n 3, 62, [], none), (62, .if_icmp .eq 6, 65, [68], none), (65, .goto 45, 68, [110], none), (68, .iload 4, 70, [], some [0, 1, 2, 3, 4, 5]), (70, .bipush (-100), 72, [], none), (72, .if_icmp .eq 34, 75, [106], none), (75, .iload 5, 77, [], none), (77, .aload_n 0, 78, [], none), (78, .getfield 125, 81, [12, 53, 2, 642, 0], none), (81, .bipush 40, 83, [], none), (83, .iload_n 2, 84, [], none), (84, .iadd, 85, [], none), (85, .iaload, 86, [20], none), (86, .invokestatic 369, 89, [194, 2, 1, 0, 793, 794, 662], none), (89, .iload 4, 91, [], none), (91, .aload_n 0, 92, [], none), (92, .getfield 125, 95, [12, 53, 2, 642, 0], none), (95, .bipush 40, 97, [], none), (97, .iload_n 2, 98, [], none), (98, .iadd, 99, [], none), (99, .iaload, 100, [20], none), (100, .invokestatic 369, 103, [194, 2, 1, 0, 793, 794, 662], none), (103, .if_icmp .ge 7, 106, [110], none), (106, .iload 5, 108, [], some [0, 1, 2, 3, 5]), (108, .istore 4, 110, [], none), (110, .iinc 5 1, 113, [], some [0, 1, 2, 3, 4, 5]), (113, .goto (-71), 116, [42], none), (116, .iload 4, 118, [], some [4]), (118, .ireturn, 119, [0], none)]
def zc_X12_near : List zE := [(0, .iload_n 1, 1, [], none), (1, .iconst 0, 2, [], none), (2, .bipush 19, 4, [], none), (4, .invokestatic 340, 7, [191, 3, 1, 0, 771, 772, 662], none), (7, .ifCond .ne 5, 10, [12], none), (10, .iconst (-1), 11, [], none), (11, .ireturn, 12, [0], none), (12, .aload_n 0, 13, [], some [0, 1]), (13, .invokevirtual 415, 16, [200, 0, 0, 12, 834, 835, 836, 662], none), (16, .aload_n 0, 17, [], none), (17, .invokevirtual 393, 20, [212, 0, 0, 12, 813, 814, 815, 662], none), (20, .aload_n 0, 21, [], none), (21, .iload_n 1, 22, [], none), (22, .invokevirtual 372, 25, [211, 1, 1, 12, 795, 796, 797, 662], none), (25, .ireturn, 26, [0], none)]
def zc_X12_lifts : List zE := [(0, .aload_n 0, 1, [], none), (1, .iload_n 1, 2, [], none), (2, .invokevirtual 409, 5, [196, 1, 1, 12, 828, 829, 830, 662], none), (5, .ifCond .eq 25, 8, [30], none), (8, .iload_n 2, 9, [], none), (9, .iconst 0, 10, [], none), (10, .bipush 19, 12, [], none), (12, .invokestatic 340, 15, [191, 3, 1, 0, 771, 772, 662], none), (15, .ifCond .eq 15, 18, [30], none), (18, .aload_n 0, 19, [], none), (19, .getfield 122, 22, [12, 52, 2, 641, 0], none), (22, .bipush 35, 24, [], none), (24, .iload_n 1, 25, [], none), (25, .iadd, 26, [], none), (26, .iaload, 27, [20], none), (27, .ifCond .lt 5, 30, [32], none), (30, .iconst (-1), 31, [], some []), (31, .ireturn, 32, [0], none), (32, .aload_n 0, 33, [], some [0, 1, 2]), (33, .invokevirtual 415, 36, [200, 0, 0, 12, 834, 835, 836, 662], none), (36, .bipush 9, 38, [], none), (38, .istore_n 3, 39, [], none), (39, .iload_n 3, 40, [], some [0, 1, 2, 3]), (40, .iconst 1, 41, [], none), (41, .if_icmp .lt 63, 44, [104], none), (44, .aload_n 0, 45, [], none), (45, .aload_n 0, 46, [], none), (46, .getfield 125, 49, [12, 53, 2, 642, 0], none), (49, .bipush 55, 51, [], none), (51, .iaload, 52, [20], none), (52, .iconst (-1), 53, [], none), (53, .aload_n 0, 54, [], none), (54, .getfield 58, 57, [12, 27, 2, 619, 0], none), (57, .iconst 5, 58, [], none), (58, .aload_n 0, 59, [], none), (59, .getfield 257, 62, [12, 18, 0, 711, 0], none), (62, .imul, 63, [], none), (63, .iload_n 1, 64, [], none), (64, .iadd, 65, [], none), (65, .iaload, 66, [20], none), (66, .iload_n 3, 67, [], none), (67, .aload_n 0, 68, [], none), (68, .getfield 125, 71, [12, 53, 2, 642, 0], none), (71, .bipush 40, 73, [], none), (73, .iload_n 1, 74, [], none), (74, .iadd, 75, [], none), (75, .iaload, 76, [20], none), (76, .iload_n 2, 77, [], none), (77, .invokevirtual 462, 80, [233, 6, 0, 12, 867, 868, 869, 662], none), (80, .aload_n 0, 81, [], none), (81, .getfield 440, 84, [12, 62, 0, 856, 0], none), (84, .iconst 1, 85, [], none), (85, .if_icmp .eq 11, 88, [96], none), (88, .aload_n 0, 89, [], none), (89, .getfield 440, 92, [12, 62, 0, 856, 0], none), (92, .iconst 2, 93, [], none), (93, .if_icmp .ne 5, 96, [98], none), (96, .iload_n 3, 97, [], some [3]), (97, .ireturn, 98, [0], none), (98, .iinc 3 (-1), 101, [], some [0, 1, 2, 3]), (101, .goto (-62), 104, [39], none), (104, .bipush (-2), 106, [], some []), (106, .ireturn, 107, [0], none)]
def zc_X12_sixes : List zE := [(0, .iconst 1, 1, [], none), (1, .istore_n 1, 2, [], none), (2, .iconst 0, 3, [], none), (3, .istore_n 2, 4, [], none), (4, .iload_n 2, 5, [], some [0, 1, 2]), (5, .iload_n 0, 6, [], none), (6, .if_icmp .ge 14, 9, [20], none), (9, .iload_n 1, 10, [], none), (10, .bipush 6, 12, [], none), (12, .imul, 13, [], none), (13, .istore_n 1, 14, [], none), (14, .iinc 2 1, 17, [], none), (17, .goto (-13), 20, [4], none), (20, .iload_n 1, 21, [], some [1]), (21, .ireturn, 22, [0], none)]
def zc_X12_fillsBrings : List zE := [(0, .aload_n 0, 1, [], none), (1, .invokevirtual 415, 4, [200, 0, 0, 12, 834, 835, 836, 662], none), (4, .aload_n 0, 5, [], none), (5, .iconst 0, 6, [], none), (6, .putfield 470, 9, [12, 68, 0, 873, 0, 0], none), (9, .iconst 0, 10, [], none), (10, .istore_n 1, 11, [], none), (11, .iload_n 1, 12, [], some [0, 1]), (12, .aload_n 0, 13, [], none), (13, .getfield 43, 16, [12, 22, 2, 614, 0], none), (16, .aload_n 0, 17, [], none), (17, .getfield 257, 20, [12, 18, 0, 711, 0], none), (20, .iaload, 21, [20], none), (21, .if_icmp .ge 224, 24, [245], none), (24, .aload_n 0, 25, [], none), (25, .getfield 125, 28, [12, 53, 2, 642, 0], none), (28, .bipush 7, 30, [], none), (30, .iload_n 1, 31, [], none), (31, .iadd, 32, [], none), (32, .iaload, 33, [20], none), (33, .ifCond .eq 6, 36, [39], none), (36, .goto 203, 39, [239], none), (39, .iconst 0, 40, [], some [0, 1]), (40, .istore_n 2, 41, [], none), (41, .iload_n 2, 42, [], some [0, 1, 2]), (42, .bipush 6, 44, [], none), (44, .if_icmp .ge 175, 47, [219], none), (47, .aload_n 0, 48, [], none), (48, .getfield 149, 51, [12, 70, 2, 650, 0], none), (51, .bipush 6, 53, [], none), (53, .aload_n 0, 54, [], none), (54, .getfield 470, 57, [12, 68, 0, 873, 0], none), (57, .imul, 58, [], none), (58, .iload_n 2, 59, [], none), (59, .iadd, 60, [], none), (60, .iload_n 2, 61, [], none), (61, .iconst 5, 62, [], none), (62, .if_icmp .ne 7, 65, [69], none), (65, .iconst 1, 66, [], none), (66, .goto 4, 69, [70], none), (69, .iconst 0, 70, [], some [0, 1, 2]), (70, .bastore, 71, [22], some [0, 1, 2]), (71, .aload_n 0, 72, [], none), (72, .getfield 146, 75, [12, 69, 2, 649, 0], none), (75, .bipush 6, 77, [], none), (77, .aload_n 0, 78, [], none), (78, .getfield 470, 81, [12, 68, 0, 873, 0], none), (81, .imul, 82, [], none), (82, .iload_n 2, 83, [], none), (83, .iadd, 84, [], none), (84, .iconst 0, 85, [], none), (85, .iastore, 86, [20], none), (86, .aload_n 0, 87, [], none), (87, .iload_n 2, 88, [], none), (88, .invokevirtual 409, 91, [196, 1, 1, 12, 828, 829, 830, 662], none), (91, .ifCond .eq 122, 94, [213], none), (94, .aload_n 0, 95, [], none), (95, .getfield 125, 98, [12, 53, 2, 642, 0], none), (98, .bipush 35, 100, [], none), (100, .iload_n 2, 101, [], none), (101, .iadd, 102, [], none), (102, .iaload, 103, [20], none), (103, .ifCond .lt 6, 106, [109], none), (106, .goto 107, 109, [213], none), (109, .aload_n 0, 110, [], some [0, 1, 2]), (110, .iload_n 1, 111, [], none), (111, .iload_n 2, 112, [], none), (112, .iconst 0, 113, [], none), (113, .aload_n 0, 114, [], none), (114, .getfield 125, 117, [12, 53, 2, 642, 0], none), (117, .bipush 40, 119, [], none), (119, .iload_n 2, 120, [], none), (120, .iadd, 121, [], none), (121, .iaload, 122, [20], none), (122, .invokevirtual 466, 125, [234, 4, 0, 12, 870, 871, 872, 662], none), (125, .aload_n 0, 126, [], none), (126, .getfield 149, 129, [12, 70, 2, 650, 0], none), (129, .bipush 6, 131, [], none), (131, .aload_n 0, 132, [], none), (132, .getfield 470, 135, [12, 68, 0, 873, 0], none), (135, .imul, 136, [], none), (136, .iload_n 2, 137, [], none), (137, .iadd, 138, [], none), (138, .aload_n 0, 139, [], none), (139, .getfield 440, 142, [12, 62, 0, 856, 0], none), (142, .iconst 1, 143, [], none), (143, .if_icmp .ne 7, 146, [150], none), (146, .iconst 1, 147, [], none), (147, .goto 4, 150, [151], none), (150, .iconst 0, 151, [], some [0, 1, 2]), (151, .bastore, 152, [22], some [0, 1, 2]), (152, .aload_n 0, 153, [], none), (153, .getfield 146, 156, [12, 69, 2, 649, 0], none), (156, .bipush 6, 158, [], none), (158, .aload_n 0, 159, [], none), (159, .getfield 470, 162, [12, 68, 0, 873, 0], none), (162, .imul, 163, [], none), (163, .iload_n 2, 164, [], none), (164, .iadd, 165, [], none), (165, .aload_n 0, 166, [], none), (166, .getfield 452, 169, [12, 66, 0, 860, 0], none), (169, .aload_n 0, 170, [], none), (170, .aload_n 0, 171, [], none), (171, .getfield 125, 174, [12, 53, 2, 642, 0], none), (174, .bipush 55, 176, [], none), (176, .iaload, 177, [20], none), (177, .aload_n 0, 178, [], none), (178, .invokevirtual 418, 181, [204, 0, 1, 12, 837, 838, 839, 662], none), (181, .aload_n 0, 182, [], none), (182, .getfield 58, 185, [12, 27, 2, 619, 0], none), (185, .iconst 5, 186, [], none), (186, .aload_n 0, 187, [], none), (187, .getfield 257, 190, [12, 18, 0, 711, 0], none), (190, .imul, 191, [], none), (191, .iload_n 2, 192, [], none), (192, .iadd, 193, [], none), (193, .iaload, 194, [20], none), (194, .aload_n 0, 195, [], none), (195, .getfield 49, 198, [12, 24, 2, 616, 0], none), (198, .bipush 7, 200, [], none), (200, .aload_n 0, 201, [], none), (201, .getfield 257, 204, [12, 18, 0, 711, 0], none), (204, .imul, 205, [], none), (205, .iload_n 1, 206, [], none), (206, .iadd, 207, [], none), (207, .iaload, 208, [20], none), (208, .invokevirtual 421, 211, [209, 4, 1, 12, 840, 841, 842, 662], none), (211, .isub, 212, [], none), (212, .iastore, 213, [20], none), (213, .iinc 2 1, 216, [], some [0, 1, 2]), (216, .goto (-175), 219, [41], none), (219, .aload_n 0, 220, [], some [0, 1]), (220, .getfield 143, 223, [12, 67, 2, 648, 0], none), (223, .aload_n 0, 224, [], none), (224, .getfield 470, 227, [12, 68, 0, 873, 0], none), (227, .iload_n 1, 228, [], none), (228, .iastore, 229, [20], none), (229, .aload_n 0, 230, [], none), (230, .dup, 231, [], none), (231, .getfield 470, 234, [12, 68, 0, 873, 0], none), (234, .iconst 1, 235, [], none), (235, .iadd, 236, [], none), (236, .putfield 470, 239, [12, 68, 0, 873, 0, 0], none), (239, .iinc 1 1, 242, [], some [0, 1]), (242, .goto (-231), 245, [11], none), (245, .return_, 246, [], some [])]
def zc_X12_isWay : List zE := [(0, .iconst 0, 1, [], none), (1, .istore_n 2, 2, [], none), (2, .iconst 0, 3, [], none), (3, .istore_n 3, 4, [], none), (4, .iload_n 3, 5, [], some [0, 1, 2, 3]), (5, .aload_n 0, 6, [], none), (6, .getfield 470, 9, [12, 68, 0, 873, 0], none), (9, .if_icmp .ge 67, 12, [76], none), (12, .iload_n 1, 13, [], none), (13, .aload_n 0, 14, [], none), (14, .getfield 470, 17, [12, 68, 0, 873, 0], none), (17, .iconst 1, 18, [], none), (18, .isub, 19, [], none), (19, .iload_n 3, 20, [], none), (20, .isub, 21, [], none), (21, .invokestatic 473, 24, [240, 1, 1, 0, 874, 875, 662], none), (24, .idiv, 25, [], none), (25, .bipush 6, 27, [], none), (27, .irem, 28, [], none), (28, .istore 4, 30, [], none), (30, .aload_n 0, 31, [], none), (31, .getfield 149, 34, [12, 70, 2, 650, 0], none), (34, .bipush 6, 36, [], none), (36, .iload_n 3, 37, [], none), (37, .imul, 38, [], none), (38, .iload 4, 40, [], none), (40, .iadd, 41, [], none), (41, .baload, 42, [22], none), (42, .ifCond .eq 19, 45, [61], none), (45, .iload 4, 47, [], none), (47, .iconst 5, 48, [], none), (48, .if_icmp .ge 15, 51, [63], none), (51, .iload_n 2, 52, [], none), (52, .iload 4, 54, [], none), (54, .ishr, 55, [], none), (55, .iconst 1, 56, [], none), (56, .iand, 57, [], none), (57, .iconst 1, 58, [], none), (58, .if_icmp .ne 5, 61, [63], none), (61, .iconst 0, 62, [], some []), (62, .ireturn, 63, [1], none), (63, .iload_n 2, 64, [], some [0, 1, 2, 3, 4]), (64, .iconst 1, 65, [], none), (65, .iload 4, 67, [], none), (67, .ishl, 68, [], none), (68, .ior, 69, [], none), (69, .istore_n 2, 70, [], none), (70, .iinc 3 1, 73, [], none), (73, .goto (-69), 76, [4], none), (76, .iconst 1, 77, [], some []), (77, .ireturn, 78, [1], none)]
def zc_X12_bringsAll : List zE := [(0, .iconst 0, 1, [], none), (1, .istore_n 2, 2, [], none), (2, .iconst 0, 3, [], none), (3, .istore_n 3, 4, [], none), (4, .iload_n 3, 5, [], some [0, 1, 2, 3]), (5, .aload_n 0, 6, [], none), (6, .getfield 470, 9, [12, 68, 0, 873, 0], none), (9, .if_icmp .ge 38, 12, [47], none), (12, .iload_n 2, 13, [], none), (13, .aload_n 0, 14, [], none), (14, .getfield 146, 17, [12, 69, 2, 649, 0], none), (17, .bipush 6, 19, [], none), (19, .iload_n 3, 20, [], none), (20, .imul, 21, [], none), (21, .iload_n 1, 22, [], none), (22, .aload_n 0, 23, [], none), (23, .getfield 470, 26, [12, 68, 0, 873, 0], none), (26, .iconst 1, 27, [], none), (27, .isub, 28, [], none), (28, .iload_n 3, 29, [], none), (29, .isub, 30, [], none), (30, .invokestatic 473, 33, [240, 1, 1, 0, 874, 875, 662], none), (33, .idiv, 34, [], none), (34, .bipush 6, 36, [], none), (36, .irem, 37, [], none), (37, .iadd, 38, [], none), (38, .iaload, 39, [20], none), (39, .iadd, 40, [], none), (40, .istore_n 2, 41, [], none), (41, .iinc 3 1, 44, [], none), (44, .goto (-40), 47, [4], none), (47, .iload_n 2, 48, [], some [2]), (48, .ireturn, 49, [0], none)]
def zc_X12_fill : List zE := [(0, .iload_n 1, 1, [], none), (1, .iconst (-1), 2, [], none), (2, .if_icmp .eq 15, 5, [17], none), (5, .aload_n 0, 6, [], none), (6, .iload_n 1, 7, [], none), (7, .invokevirtual 406, 10, [195, 1, 1, 12, 825, 826, 827, 662], none), (10, .ifCond .ne 7, 13, [17], none), (13, .ldc_w 476, 16, [0, 4294867296, 876], none), (16, .ireturn, 17, [0], none), (17, .aload_n 0, 18, [], some [0, 1]), (18, .invokevirtual 477, 21, [241, 0, 0, 12, 877, 878, 879, 662], none), (21, .aload_n 0, 22, [], none), (22, .iconst (-1), 23, [], none), (23, .putfield 480, 26, [12, 72, 0, 880, 0, 0], none), (26, .iconst 0, 27, [], none), (27, .istore_n 2, 28, [], none), (28, .iload_n 2, 29, [], some [0, 1, 2]), (29, .aload_n 0, 30, [], none), (30, .getfield 470, 33, [12, 68, 0, 873, 0], none), (33, .invokestatic 473, 36, [240, 1, 1, 0, 874, 875, 662], none), (36, .if_icmp .ge 54, 39, [90], none), (39, .aload_n 0, 40, [], none), (40, .iload_n 2, 41, [], none), (41, .invokevirtual 483, 44, [242, 1, 1, 12, 881, 882, 883, 662], none), (44, .ifCond .ne 6, 47, [50], none), (47, .goto 37, 50, [84], none), (50, .aload_n 0, 51, [], some [0, 1, 2]), (51, .iload_n 2, 52, [], none), (52, .invokevirtual 486, 55, [243, 1, 1, 12, 884, 885, 886, 662], none), (55, .istore_n 3, 56, [], none), (56, .aload_n 0, 57, [], none), (57, .getfield 480, 60, [12, 72, 0, 880, 0], none), (60, .ifCond .lt 14, 63, [74], none), (63, .iload_n 3, 64, [], none), (64, .aload_n 0, 65, [], none), (65, .getfield 489, 68, [12, 71, 0, 887, 0], none), (68, .if_icmp .gt 6, 71, [74], none), (71, .goto 13, 74, [84], none), (74, .aload_n 0, 75, [], some [0, 1, 2, 3]), (75, .iload_n 2, 76, [], none), (76, .putfield 480, 79, [12, 72, 0, 880, 0, 0], none), (79, .aload_n 0, 80, [], none), (80, .iload_n 3, 81, [], none), (81, .putfield 489, 84, [12, 71, 0, 887, 0, 0], none), (84, .iinc 2 1, 87, [], some [0, 1, 2]), (87, .goto (-59), 90, [28], none), (90, .iload_n 1, 91, [], some [0, 1]), (91, .iconst (-1), 92, [], none), (92, .if_icmp .ne 8, 95, [100], none), (95, .aload_n 0, 96, [], none), (96, .getfield 489, 99, [12, 71, 0, 887, 0], none), (99, .ireturn, 100, [0], none), (100, .iconst 0, 101, [], some [0, 1]), (101, .istore_n 2, 102, [], none), (102, .iload_n 2, 103, [], some [0, 1, 2]), (103, .aload_n 0, 104, [], none), (104, .getfield 470, 107, [12, 68, 0, 873, 0], none), (107, .if_icmp .ge 51, 110, [158], none), (110, .aload_n 0, 111, [], none), (111, .getfield 480, 114, [12, 72, 0, 880, 0], none), (114, .aload_n 0, 115, [], none), (115, .getfield 470, 118, [12, 68, 0, 873, 0], none), (118, .iconst 1, 119, [], none), (119, .isub, 120, [], none), (120, .iload_n 2, 121, [], none), (121, .isub, 122, [], none), (122, .invokestatic 473, 125, [240, 1, 1, 0, 874, 875, 662], none), (125, .idiv, 126, [], none), (126, .bipush 6, 128, [], none), (128, .irem, 129, [], none), (129, .istore_n 3, 130, [], none), (130, .aload_n 0, 131, [], none), (131, .getfield 143, 134, [12, 67, 2, 648, 0], none), (134, .iload_n 2, 135, [], none), (135, .iaload, 136, [20], none), (136, .iload_n 1, 137, [], none), (137, .if_icmp .ne 15, 140, [152], none), (140, .iload_n 3, 141, [], none), (141, .iconst 5, 142, [], none), (142, .if_icmp .ne 8, 145, [150], none), (145, .bipush (-2), 147, [], none), (147, .goto 4, 150, [151], none), (150, .iload_n 3, 151, [], some [3]), (151, .ireturn, 152, [0], some []), (152, .iinc 2 1, 155, [], some [0, 1, 2]), (155, .goto (-53), 158, [102], none), (158, .bipush (-2), 160, [], some []), (160, .ireturn, 161, [0], none)]
def zc_X12_hooksFor : List zE := [(0, .iconst 0, 1, [], none), (1, .istore_n 2, 2, [], none), (2, .iconst 0, 3, [], none), (3, .istore_n 3, 4, [], none), (4, .iload_n 3, 5, [], some [0, 1, 2, 3]), (5, .aload_n 0, 6, [], none), (6, .getfield 55, 9, [12, 26, 2, 618, 0], none), (9, .aload_n 0, 10, [], none), (10, .getfield 257, 13, [12, 18, 0, 711, 0], none), (13, .iaload, 14, [20], none), (14, .if_icmp .ge 112, 17, [126], none), (17, .aload_n 0, 18, [], none), (18, .getfield 125, 21, [12, 53, 2, 642, 0], none), (21, .bipush 35, 23, [], none), (23, .iload_n 3, 24, [], none), (24, .iadd, 25, [], none), (25, .iaload, 26, [20], none), (26, .ifCond .lt 6, 29, [32], none), (29, .goto 91, 32, [120], none), (32, .aload_n 0, 33, [], some [0, 1, 2, 3]), (33, .iload_n 1, 34, [], none), (34, .iload_n 3, 35, [], none), (35, .iconst 0, 36, [], none), (36, .aload_n 0, 37, [], none), (37, .getfield 125, 40, [12, 53, 2, 642, 0], none), (40, .bipush 40, 42, [], none), (42, .iload_n 3, 43, [], none), (43, .iadd, 44, [], none), (44, .iaload, 45, [20], none), (45, .invokevirtual 466, 48, [234, 4, 0, 12, 870, 871, 872, 662], none), (48, .iconst 0, 49, [], none), (49, .istore 4, 51, [], none), (51, .iload 4, 53, [], some [0, 1, 2, 3, 4]), (53, .aload_n 0, 54, [], none), (54, .getfield 64, 57, [12, 29, 2, 621, 0], none), (57, .aload_n 0, 58, [], none), (58, .getfield 257, 61, [12, 18, 0, 711, 0], none), (61, .iaload, 62, [20], none), (62, .if_icmp .ge 58, 65, [120], none), (65, .aload_n 0, 66, [], none), (66, .getfield 440, 69, [12, 62, 0, 856, 0], none), (69, .iconst 1, 70, [], none), (70, .if_icmp .ne 50, 73, [120], none), (73, .aload_n 0, 74, [], none), (74, .getfield 125, 77, [12, 53, 2, 642, 0], none), (77, .bipush 50, 79, [], none), (79, .iload 4, 81, [], none), (81, .iadd, 82, [], none), (82, .iaload, 83, [20], none), (83, .aload_n 0, 84, [], none), (84, .getfield 446, 87, [12, 64, 0, 858, 0], none), (87, .invokestatic 369, 90, [194, 2, 1, 0, 793, 794, 662], none), (90, .aload_n 0, 91, [], none), (91, .getfield 70, 94, [12, 31, 2, 623, 0], none), (94, .iconst 5, 95, [], none), (95, .aload_n 0, 96, [], none), (96, .getfield 257, 99, [12, 18, 0, 711, 0], none), (99, .imul, 100, [], none), (100, .iload 4, 102, [], none), (102, .iadd, 103, [], none), (103, .iaload, 104, [20], none), (104, .if_icmp .gt 10, 107, [114], none), (107, .iload_n 2, 108, [], none), (108, .iconst 1, 109, [], none), (109, .iload 4, 111, [], none), (111, .ishl, 112, [], none), (112, .ior, 113, [], none), (113, .istore_n 2, 114, [], none), (114, .iinc 4 1, 117, [], some [0, 1, 2, 3, 4]), (117, .goto (-66), 120, [51], none), (120, .iinc 3 1, 123, [], some [0, 1, 2, 3]), (123, .goto (-119), 126, [4], none), (126, .iload_n 2, 127, [], some [2]), (127, .ireturn, 128, [0], none)]
def zc_X12_fewest : List zE := [(0, .aload_n 0, 1, [], none), (1, .invokevirtual 415, 4, [200, 0, 0, 12, 834, 835, 836, 662], none), (4, .iconst 0, 5, [], none), (5, .istore_n 1, 6, [], none), (6, .iload_n 1, 7, [], some [0, 1]), (7, .aload_n 0, 8, [], none), (8, .getfield 43, 11, [12, 22, 2, 614, 0], none), (11, .aload_n 0, 12, [], none), (12, .getfield 257, 15, [12, 18, 0, 711, 0], none), (15, .iaload, 16, [20], none), (16, .if_icmp .ge 36, 19, [52], none), (19, .aload_n 0, 20, [], none), (20, .getfield 152, 23, [12, 73, 2, 651, 0], none), (23, .iload_n 1, 24, [], none), (24, .aload_n 0, 25, [], none), (25, .getfield 125, 28, [12, 53, 2, 642, 0], none), (28, .bipush 7, 30, [], none), (30, .iload_n 1, 31, [], none), (31, .iadd, 32, [], none), (32, .iaload, 33, [20], none), (33, .ifCond .ne 11, 36, [44], none), (36, .aload_n 0, 37, [], none), (37, .iload_n 1, 38, [], none), (38, .invokevirtual 492, 41, [245, 1, 1, 12, 888, 889, 890, 662], none), (41, .goto 4, 44, [45], none), (44, .iconst 0, 45, [], some [0, 1]), (45, .iastore, 46, [20], some [0, 1]), (46, .iinc 1 1, 49, [], none), (49, .goto (-43), 52, [6], none), (52, .iconst 1, 53, [], some [0]), (53, .aload_n 0, 54, [], none), (54, .getfield 64, 57, [12, 29, 2, 621, 0], none), (57, .aload_n 0, 58, [], none), (58, .getfield 257, 61, [12, 18, 0, 711, 0], none), (61, .iaload, 62, [20], none), (62, .ishl, 63, [], none), (63, .iconst 1, 64, [], none), (64, .isub, 65, [], none), (65, .istore_n 1, 66, [], none), (66, .iload_n 1, 67, [], none), (67, .istore_n 2, 68, [], none), (68, .iload_n 2, 69, [], some [0, 1, 2]), (69, .ifCond .lt 79, 72, [148], none), (72, .iload_n 2, 73, [], none), (73, .invokestatic 354, 76, [193, 1, 1, 0, 780, 781, 662], none), (76, .iload_n 1, 77, [], none), (77, .invokestatic 354, 80, [193, 1, 1, 0, 780, 781, 662], none), (80, .if_icmp .gt 7, 83, [87], none), (83, .iconst 1, 84, [], none), (84, .goto 4, 87, [88], none), (87, .iconst 0, 88, [], some [0, 1, 2]), (88, .istore_n 3, 89, [], some [0, 1, 2]), (89, .iconst 0, 90, [], none), (90, .istore 4, 92, [], none), (92, .iload 4, 94, [], some [0, 1, 2, 3, 4]), (94, .aload_n 0, 95, [], none), (95, .getfield 43, 98, [12, 22, 2, 614, 0], none), (98, .aload_n 0, 99, [], none), (99, .getfield 257, 102, [12, 18, 0, 711, 0], none), (102, .iaload, 103, [20], none), (103, .if_icmp .ge 33, 106, [136], none), (106, .aload_n 0, 107, [], none), (107, .getfield 152, 110, [12, 73, 2, 651, 0], none), (110, .iload 4, 112, [], none), (112, .iaload, 113, [20], none), (113, .ifCond .eq 17, 116, [130], none), (116, .aload_n 0, 117, [], none), (117, .getfield 152, 120, [12, 73, 2, 651, 0], none), (120, .iload 4, 122, [], none), (122, .iaload, 123, [20], none), (123, .iload_n 2, 124, [], none), (124, .iand, 125, [], none), (125, .ifCond .ne 5, 128, [130], none), (128, .iconst 0, 129, [], none), (129, .istore_n 3, 130, [], none), (130, .iinc 4 1, 133, [], some [0, 1, 2, 3, 4]), (133, .goto (-41), 136, [92], none), (136, .iload_n 3, 137, [], some [0, 1, 2, 3]), (137, .ifCond .eq 5, 140, [142], none), (140, .iload_n 2, 141, [], none), (141, .istore_n 1, 142, [], none), (142, .iinc 2 (-1), 145, [], some [0, 1, 2]), (145, .goto (-77), 148, [68], none), (148, .iload_n 1, 149, [], some [1]), (149, .ireturn, 150, [0], none)]
def zc_X12_waits : List zE := [(0, .aload_n 0, 1, [], none), (1, .iload_n 1, 2, [], none), (2, .iload_n 2, 3, [], none), (3, .invokevirtual 424, 6, [225, 2, 1, 12, 843, 844, 845, 662], none), (6, .ifCond .eq 21, 9, [27], none), (9, .iload_n 3, 10, [], none), (10, .iconst 0, 11, [], none), (11, .iconst 1, 12, [], none), (12, .invokestatic 340, 15, [191, 3, 1, 0, 771, 772, 662], none), (15, .ifCond .eq 12, 18, [27], none), (18, .aload_n 0, 19, [], none), (19, .iload_n 1, 20, [], none), (20, .iload_n 2, 21, [], none), (21, .invokevirtual 428, 24, [224, 2, 1, 12, 846, 847, 848, 662], none), (24, .ifCond .ne 7, 27, [31], none), (27, .ldc_w 476, 30, [0, 4294867296, 876], some []), (30, .ireturn, 31, [0], none), (31, .aload_n 0, 32, [], some [0, 1, 2, 3]), (32, .invokevirtual 415, 35, [200, 0, 0, 12, 834, 835, 836, 662], none), (35, .iconst (-1), 36, [], none), (36, .istore 4, 38, [], none), (38, .iconst 0, 39, [], none), (39, .istore 5, 41, [], none), (41, .iconst 0, 42, [], none), (42, .istore 6, 44, [], none), (44, .iload 6, 46, [], some [0, 1, 2, 3, 4, 5, 6]), (46, .bipush 24, 48, [], none), (48, .if_icmp .gt 101, 51, [149], none), (51, .aload_n 0, 52, [], none), (52, .iload_n 1, 53, [], none), (53, .iload_n 2, 54, [], none), (54, .iload 6, 56, [], none), (56, .aload_n 0, 57, [], none), (57, .getfield 125, 60, [12, 53, 2, 642, 0], none), (60, .bipush 40, 62, [], none), (62, .iload_n 2, 63, [], none), (63, .iadd, 64, [], none), (64, .iaload, 65, [20], none), (65, .invokevirtual 466, 68, [234, 4, 0, 12, 870, 871, 872, 662], none), (68, .aload_n 0, 69, [], none), (69, .getfield 452, 72, [12, 66, 0, 860, 0], none), (72, .aload_n 0, 73, [], none), (73, .aload_n 0, 74, [], none), (74, .getfield 125, 77, [12, 53, 2, 642, 0], none), (77, .bipush 55, 79, [], none), (79, .iaload, 80, [20], none), (80, .iload 6, 82, [], none), (82, .iadd, 83, [], none), (83, .iconst 0, 84, [], none), (84, .aload_n 0, 85, [], none), (85, .getfield 58, 88, [12, 27, 2, 619, 0], none), (88, .iconst 5, 89, [], none), (89, .aload_n 0, 90, [], none), (90, .getfield 257, 93, [12, 18, 0, 711, 0], none), (93, .imul, 94, [], none), (94, .iload_n 2, 95, [], none), (95, .iadd, 96, [], none), (96, .iaload, 97, [20], none), (97, .aload_n 0, 98, [], none), (98, .getfield 49, 101, [12, 24, 2, 616, 0], none), (101, .bipush 7, 103, [], none), (103, .aload_n 0, 104, [], none), (104, .getfield 257, 107, [12, 18, 0, 711, 0], none), (107, .imul, 108, [], none), (108, .iload_n 1, 109, [], none), (109, .iadd, 110, [], none), (110, .iaload, 111, [20], none), (111, .invokevirtual 421, 114, [209, 4, 1, 12, 840, 841, 842, 662], none), (114, .isub, 115, [], none), (115, .iload 6, 117, [], none), (117, .isub, 118, [], none), (118, .istore 7, 120, [], none), (120, .iload 4, 122, [], none), (122, .ifCond .lt 13, 125, [135], none), (125, .iload 7, 127, [], none), (127, .iload 5, 129, [], none), (129, .if_icmp .gt 6, 132, [135], none), (132, .goto 11, 135, [143], none), (135, .iload 6, 137, [], some [0, 1, 2, 3, 6, 7]), (137, .istore 4, 139, [], none), (139, .iload 7, 141, [], none), (141, .istore 5, 143, [], none), (143, .iinc 6 1, 146, [], some [0, 1, 2, 3, 4, 5, 6]), (146, .goto (-102), 149, [44], none), (149, .iload_n 3, 150, [], some [3, 4, 5]), (150, .ifCond .ne 8, 153, [158], none), (153, .iload 4, 155, [], none), (155, .goto 5, 158, [160], none), (158, .iload 5, 160, [], some [5]), (160, .ireturn, 161, [0], some [])]
def zc_X12_isLong : List zE := [(0, .iload_n 0, 1, [], none), (1, .iconst 0, 2, [], none), (2, .bipush 72, 4, [], none), (4, .invokestatic 340, 7, [191, 3, 1, 0, 771, 772, 662], none), (7, .ireturn, 8, [1], none)]
def zc_X12_then : List zE := [(0, .aload_n 0, 1, [], none), (1, .iload_n 1, 2, [], none), (2, .invokevirtual 406, 5, [195, 1, 1, 12, 825, 826, 827, 662], none), (5, .ifCond .eq 19, 8, [24], none), (8, .iload_n 2, 9, [], none), (9, .invokestatic 495, 12, [248, 1, 1, 0, 891, 892, 662], none), (12, .ifCond .eq 12, 15, [24], none), (15, .iload_n 3, 16, [], none), (16, .iconst 0, 17, [], none), (17, .iconst 2, 18, [], none), (18, .invokestatic 340, 21, [191, 3, 1, 0, 771, 772, 662], none), (21, .ifCond .ne 5, 24, [26], none), (24, .iconst (-1), 25, [], some []), (25, .ireturn, 26, [0], none), (26, .aload_n 0, 27, [], some [0, 1, 2, 3]), (27, .invokevirtual 415, 30, [200, 0, 0, 12, 834, 835, 836, 662], none), (30, .aload_n 0, 31, [], none), (31, .iload_n 2, 32, [], none), (32, .invokevirtual 434, 35, [217, 1, 0, 12, 852, 853, 854, 662], none), (35, .iload_n 3, 36, [], none), (36, .ifCond .ne 15, 39, [51], none), (39, .aload_n 0, 40, [], none), (40, .getfield 125, 43, [12, 53, 2, 642, 0], none), (43, .bipush 7, 45, [], none), (45, .iload_n 1, 46, [], none), (46, .iadd, 47, [], none), (47, .iaload, 48, [20], none), (48, .goto 26, 51, [74], none), (51, .iload_n 3, 52, [], some [0, 1, 3]), (52, .iconst 1, 53, [], none), (53, .if_icmp .ne 12, 56, [65], none), (56, .aload_n 0, 57, [], none), (57, .getfield 125, 60, [12, 53, 2, 642, 0], none), (60, .iload_n 1, 61, [], none), (61, .iaload, 62, [20], none), (62, .goto 12, 65, [74], none), (65, .aload_n 0, 66, [], some [0, 1]), (66, .getfield 125, 69, [12, 53, 2, 642, 0], none), (69, .bipush 14, 71, [], none), (71, .iload_n 1, 72, [], none), (72, .iadd, 73, [], none), (73, .iaload, 74, [20], none), (74, .ireturn, 75, [0], some [])]
def zc_X12_earns : List zE := [(0, .iload_n 1, 1, [], none), (1, .invokestatic 495, 4, [248, 1, 1, 0, 891, 892, 662], none), (4, .ifCond .ne 5, 7, [9], none), (7, .iconst (-1), 8, [], none), (8, .ireturn, 9, [0], none), (9, .aload_n 0, 10, [], some [0, 1]), (10, .invokevirtual 415, 13, [200, 0, 0, 12, 834, 835, 836, 662], none), (13, .aload_n 0, 14, [], none), (14, .iload_n 1, 15, [], none), (15, .invokevirtual 434, 18, [217, 1, 0, 12, 852, 853, 854, 662], none), (18, .aload_n 0, 19, [], none), (19, .getfield 125, 22, [12, 53, 2, 642, 0], none), (22, .bipush 56, 24, [], none), (24, .iaload, 25, [20], none), (25, .aload_n 0, 26, [], none), (26, .getfield 122, 29, [12, 52, 2, 641, 0], none), (29, .bipush 56, 31, [], none), (31, .iaload, 32, [20], none), (32, .isub, 33, [], none), (33, .ireturn, 34, [0], none)]
def zc_X12_year : List zE := [(0, .aload_n 0, 1, [], none), (1, .iload_n 1, 2, [], none), (2, .invokevirtual 406, 5, [195, 1, 1, 12, 825, 826, 827, 662], none), (5, .ifCond .eq 20, 8, [25], none), (8, .iload_n 2, 9, [], none), (9, .invokestatic 495, 12, [248, 1, 1, 0, 891, 892, 662], none), (12, .ifCond .eq 13, 15, [25], none), (15, .iload_n 3, 16, [], none), (16, .iconst 1, 17, [], none), (17, .bipush 20, 19, [], none), (19, .invokestatic 340, 22, [191, 3, 1, 0, 771, 772, 662], none), (22, .ifCond .ne 5, 25, [27], none), (25, .iconst (-1), 26, [], some []), (26, .ireturn, 27, [0], none), (27, .iconst 0, 28, [], some [0, 1, 2, 3]), (28, .istore 4, 30, [], none), (30, .iconst 0, 31, [], none), (31, .istore 5, 33, [], none), (33, .iload 5, 35, [], some [0, 1, 2, 3, 4, 5]), (35, .iload_n 3, 36, [], none), (36, .if_icmp .ge 45, 39, [81], none), (39, .aload_n 0, 40, [], none), (40, .invokevirtual 415, 43, [200, 0, 0, 12, 834, 835, 836, 662], none), (43, .aload_n 0, 44, [], none), (44, .dup, 45, [], none), (45, .getfield 344, 48, [12, 54, 0, 773, 0], none), (48, .iload 5, 50, [], none), (50, .iadd, 51, [], none), (51, .putfield 344, 54, [12, 54, 0, 773, 0, 0], none), (54, .aload_n 0, 55, [], none), (55, .iload_n 2, 56, [], none), (56, .invokevirtual 434, 59, [217, 1, 0, 12, 852, 853, 854, 662], none), (59, .aload_n 0, 60, [], none), (60, .getfield 125, 63, [12, 53, 2, 642, 0], none), (63, .bipush 7, 65, [], none), (65, .iload_n 1, 66, [], none), (66, .iadd, 67, [], none), (67, .iaload, 68, [20], none), (68, .iconst 2, 69, [], none), (69, .if_icmp .ne 6, 72, [75], none), (72, .iinc 4 1, 75, [], none), (75, .iinc 5 1, 78, [], some [0, 1, 2, 3, 4, 5]), (78, .goto (-45), 81, [33], none), (81, .iload 4, 83, [], some [4]), (83, .ireturn, 84, [0], none)]
def zc_X12_isDigit9 : List zE := [(0, .iload_n 0, 1, [], none), (1, .iconst 1, 2, [], none), (2, .bipush 9, 4, [], none), (4, .invokestatic 340, 7, [191, 3, 1, 0, 771, 772, 662], none), (7, .ireturn, 8, [1], none)]
def zc_X12_tell : List zE := [(0, .aload_n 0, 1, [], none), (1, .getfield 278, 4, [12, 74, 0, 720, 0], none), (4, .bipush 20, 6, [], none), (6, .if_icmp .eq 46, 9, [52], none), (9, .iload_n 1, 10, [], none), (10, .invokestatic 498, 13, [252, 1, 1, 0, 893, 894, 662], none), (13, .ifCond .eq 39, 16, [52], none), (16, .iload_n 2, 17, [], none), (17, .invokestatic 498, 20, [252, 1, 1, 0, 893, 894, 662], none), (20, .ifCond .eq 32, 23, [52], none), (23, .iload 4, 25, [], none), (25, .invokestatic 498, 28, [252, 1, 1, 0, 893, 894, 662], none), (28, .ifCond .eq 24, 31, [52], none), (31, .iload_n 3, 32, [], none), (32, .iconst 0, 33, [], none), (33, .bipush 19, 35, [], none), (35, .invokestatic 340, 38, [191, 3, 1, 0, 771, 772, 662], none), (38, .ifCond .eq 14, 41, [52], none), (41, .iload 5, 43, [], some [0, 1, 2, 3, 4, 5]), (43, .iconst 0, 44, [], none), (44, .bipush 19, 46, [], none), (46, .invokestatic 340, 49, [191, 3, 1, 0, 771, 772, 662], none), (49, .ifCond .ne 5, 52, [54], none), (52, .iconst (-1), 53, [], some []), (53, .ireturn, 54, [0], none), (54, .aload_n 0, 55, [], some [0, 1, 2, 3, 4, 5]), (55, .getfield 155, 58, [12, 75, 2, 652, 0], none), (58, .aload_n 0, 59, [], none), (59, .getfield 278, 62, [12, 74, 0, 720, 0], none), (62, .iload_n 1, 63, [], none), (63, .iastore, 64, [20], none), (64, .aload_n 0, 65, [], none), (65, .getfield 158, 68, [12, 76, 2, 653, 0], none), (68, .aload_n 0, 69, [], none), (69, .getfield 278, 72, [12, 74, 0, 720, 0], none), (72, .iload_n 2, 73, [], none), (73, .iastore, 74, [20], none), (74, .aload_n 0, 75, [], none), (75, .getfield 161, 78, [12, 77, 2, 654, 0], none), (78, .aload_n 0, 79, [], none), (79, .getfield 278, 82, [12, 74, 0, 720, 0], none), (82, .iload_n 3, 83, [], none), (83, .iastore, 84, [20], none), (84, .aload_n 0, 85, [], none), (85, .getfield 164, 88, [12, 78, 2, 655, 0], none), (88, .aload_n 0, 89, [], none), (89, .getfield 278, 92, [12, 74, 0, 720, 0], none), (92, .iload 4, 94, [], none), (94, .iastore, 95, [20], none), (95, .aload_n 0, 96, [], some [0, 5]), (96, .getfield 167, 99, [12, 79, 2, 656, 0], none), (99, .aload_n 0, 100, [], none), (100, .getfield 278, 103, [12, 74, 0, 720, 0], none), (103, .iload 5, 105, [], none), (105, .iastore, 106, [20], none), (106, .aload_n 0, 107, [], none), (107, .dup, 108, [], none), (108, .getfield 278, 111, [12, 74, 0, 720, 0], none), (111, .iconst 1, 112, [], none), (112, .iadd, 113, [], none), (113, .putfield 278, 116, [12, 74, 0, 720, 0, 0], none), (116, .aload_n 0, 117, [], none), (117, .getfield 278, 120, [12, 74, 0, 720, 0], none), (120, .iconst 1, 121, [], none), (121, .isub, 122, [], none), (122, .ireturn, 123, [0], none)]
def zc_X12_forget : List zE := [(0, .aload_n 0, 1, [], none), (1, .getfield 278, 4, [12, 74, 0, 720, 0], none), (4, .istore_n 1, 5, [], none), (5, .aload_n 0, 6, [], none), (6, .iconst 0, 7, [], none), (7, .putfield 278, 10, [12, 74, 0, 720, 0, 0], none), (10, .iload_n 1, 11, [], none), (11, .ireturn, 12, [0], none)]
def zc_X12_isSo : List zE := [(0, .aload_n 0, 1, [], none), (1, .aload_n 0, 2, [], none), (2, .getfield 161, 5, [12, 77, 2, 654, 0], none), (5, .iload_n 1, 6, [], none), (6, .iaload, 7, [20], none), (7, .invokevirtual 455, 10, [231, 1, 0, 12, 861, 862, 863, 662], none), (10, .iconst 0, 11, [], none), (11, .istore_n 3, 12, [], none), (12, .iload_n 3, 13, [], some [0, 1, 2, 3]), (13, .aload_n 0, 14, [], none), (14, .getfield 164, 17, [12, 78, 2, 655, 0], none), (17, .iload_n 1, 18, [], none), (18, .iaload, 19, [20], none), (19, .if_icmp .ge 45, 22, [64], none), (22, .aload_n 0, 23, [], none), (23, .aload_n 0, 24, [], none), (24, .getfield 125, 27, [12, 53, 2, 642, 0], none), (27, .bipush 55, 29, [], none), (29, .iaload, 30, [20], none), (30, .iload_n 3, 31, [], none), (31, .iadd, 32, [], none), (32, .iconst (-1), 33, [], none), (33, .aload_n 0, 34, [], none), (34, .getfield 155, 37, [12, 75, 2, 652, 0], none), (37, .iload_n 1, 38, [], none), (38, .iaload, 39, [20], none), (39, .aload_n 0, 40, [], none), (40, .getfield 158, 43, [12, 76, 2, 653, 0], none), (43, .iload_n 1, 44, [], none), (44, .iaload, 45, [20], none), (45, .iload_n 2, 46, [], none), (46, .invokevirtual 458, 49, [232, 5, 0, 12, 864, 865, 866, 662], none), (49, .aload_n 0, 50, [], none), (50, .getfield 440, 53, [12, 62, 0, 856, 0], none), (53, .ifCond .le 5, 56, [58], none), (56, .iconst 0, 57, [], none), (57, .ireturn, 58, [1], none), (58, .iinc 3 1, 61, [], some [0, 1, 2, 3]), (61, .goto (-49), 64, [12], none), (64, .aload_n 0, 65, [], some [0, 1]), (65, .getfield 446, 68, [12, 64, 0, 858, 0], none), (68, .aload_n 0, 69, [], none), (69, .getfield 167, 72, [12, 79, 2, 656, 0], none), (72, .iload_n 1, 73, [], none), (73, .iaload, 74, [20], none), (74, .if_icmp .ne 7, 77, [81], none), (77, .iconst 1, 78, [], none), (78, .goto 4, 81, [82], none), (81, .iconst 0, 82, [], some []), (82, .ireturn, 83, [1], some [])]
def zc_X12_pullBits : List zE := [(0, .aload_n 0, 1, [], none), (1, .invokevirtual 415, 4, [200, 0, 0, 12, 834, 835, 836, 662], none), (4, .iconst 0, 5, [], none), (5, .istore_n 2, 6, [], none), (6, .bipush (-3), 8, [], none), (8, .istore_n 3, 9, [], none), (9, .iload_n 3, 10, [], some [0, 1, 2, 3]), (10, .iconst 3, 11, [], none), (11, .if_icmp .gt 54, 14, [65], none), (14, .iconst 1, 15, [], none), (15, .istore 4, 17, [], none), (17, .iconst 0, 18, [], none), (18, .istore 5, 20, [], none), (20, .iload 5, 22, [], some [0, 1, 2, 3, 4, 5]), (22, .iload_n 1, 23, [], none), (23, .if_icmp .ge 23, 26, [46], none), (26, .iload 4, 28, [], none), (28, .ifCond .eq 18, 31, [46], none), (31, .aload_n 0, 32, [], none), (32, .iload 5, 34, [], none), (34, .iload_n 3, 35, [], none), (35, .invokevirtual 501, 38, [255, 2, 1, 12, 895, 896, 897, 662], none), (38, .istore 4, 40, [], none), (40, .iinc 5 1, 43, [], none), (43, .goto (-23), 46, [20], none), (46, .iload 4, 48, [], some [0, 1, 2, 3, 4]), (48, .ifCond .eq 11, 51, [59], none), (51, .iload_n 2, 52, [], none), (52, .iconst 1, 53, [], none), (53, .iload_n 3, 54, [], none), (54, .iconst 3, 55, [], none), (55, .iadd, 56, [], none), (56, .ishl, 57, [], none), (57, .ior, 58, [], none), (58, .istore_n 2, 59, [], none), (59, .iinc 3 1, 62, [], some [0, 1, 2, 3]), (62, .goto (-53), 65, [9], none), (65, .iload_n 2, 66, [], some [2]), (66, .ireturn, 67, [0], none)]
def zc_X12_pulls : List zE := [(0, .iload_n 1, 1, [], none), (1, .iconst 0, 2, [], none), (2, .aload_n 0, 3, [], none), (3, .getfield 278, 6, [12, 74, 0, 720, 0], none), (6, .invokestatic 340, 9, [191, 3, 1, 0, 771, 772, 662], none), (9, .ifCond .eq 12, 12, [21], none), (12, .iload_n 2, 13, [], none), (13, .iconst 0, 14, [], none), (14, .iconst 1, 15, [], none), (15, .invokestatic 340, 18, [191, 3, 1, 0, 771, 772, 662], none), (18, .ifCond .ne 5, 21, [23], none), (21, .iconst (-1), 22, [], some []), (22, .ireturn, 23, [0], none), (23, .aload_n 0, 24, [], some [0, 1, 2]), (24, .iload_n 1, 25, [], none), (25, .invokevirtual 504, 28, [256, 1, 1, 12, 898, 899, 900, 662], none), (28, .istore_n 3, 29, [], none), (29, .iload_n 2, 30, [], none), (30, .ifCond .ne 10, 33, [40], none), (33, .iload_n 3, 34, [], none), (34, .invokestatic 354, 37, [193, 1, 1, 0, 780, 781, 662], none), (37, .goto 4, 40, [41], none), (40, .iload_n 3, 41, [], some [3]), (41, .ireturn, 42, [0], some [])]
def zc_X12_sure : List zE := [(0, .iload_n 1, 1, [], none), (1, .iconst 0, 2, [], none), (2, .aload_n 0, 3, [], none), (3, .getfield 278, 6, [12, 74, 0, 720, 0], none), (6, .invokestatic 340, 9, [191, 3, 1, 0, 771, 772, 662], none), (9, .ifCond .ne 7, 12, [16], none), (12, .sipush (-1000), 15, [], none), (15, .ireturn, 16, [0], none), (16, .aload_n 0, 17, [], some [0, 1]), (17, .iload_n 1, 18, [], none), (18, .invokevirtual 504, 21, [256, 1, 1, 12, 898, 899, 900, 662], none), (21, .istore_n 2, 22, [], none), (22, .bipush (-3), 24, [], none), (24, .istore_n 3, 25, [], none), (25, .iload_n 3, 26, [], some [2, 3]), (26, .iconst 3, 27, [], none), (27, .if_icmp .gt 20, 30, [47], none), (30, .iload_n 2, 31, [], none), (31, .iconst 1, 32, [], none), (32, .iload_n 3, 33, [], none), (33, .iconst 3, 34, [], none), (34, .iadd, 35, [], none), (35, .ishl, 36, [], none), (36, .if_icmp .ne 5, 39, [41], none), (39, .iload_n 3, 40, [], none), (40, .ireturn, 41, [0], none), (41, .iinc 3 1, 44, [], some [2, 3]), (44, .goto (-19), 47, [25], none), (47, .bipush (-100), 49, [], some []), (49, .ireturn, 50, [0], none)]
def zc_X12_hold : List zE := [(0, .iload_n 1, 1, [], none), (1, .iconst 0, 2, [], none), (2, .iconst 2, 3, [], none), (3, .invokestatic 340, 6, [191, 3, 1, 0, 771, 772, 662], none), (6, .ifCond .ne 5, 9, [11], none), (9, .iconst 0, 10, [], none), (10, .ireturn, 11, [1], none), (11, .aload_n 0, 12, [], some [0, 1]), (12, .getfield 170, 15, [12, 80, 2, 657, 0], none), (15, .iload_n 1, 16, [], none), (16, .iconst 1, 17, [], none), (17, .bastore, 18, [22], none), (18, .iconst 0, 19, [], none), (19, .istore_n 2, 20, [], none), (20, .iload_n 2, 21, [], some [0, 1, 2]), (21, .bipush 58, 23, [], none), (23, .if_icmp .ge 26, 26, [49], none), (26, .aload_n 0, 27, [], none), (27, .getfield 173, 30, [12, 81, 2, 658, 0], none), (30, .bipush 58, 32, [], none), (32, .iload_n 1, 33, [], none), (33, .imul, 34, [], none), (34, .iload_n 2, 35, [], none), (35, .iadd, 36, [], none), (36, .aload_n 0, 37, [], none), (37, .getfield 122, 40, [12, 52, 2, 641, 0], none), (40, .iload_n 2, 41, [], none), (41, .iaload, 42, [20], none), (42, .iastore, 43, [20], none), (43, .iinc 2 1, 46, [], none), (46, .goto (-26), 49, [20], none), (49, .iconst 1, 50, [], some []), (50, .ireturn, 51, [1], none)]
def zc_X12_restore : List zE := [(0, .iload_n 1, 1, [], none), (1, .iconst 0, 2, [], none), (2, .iconst 2, 3, [], none), (3, .invokestatic 340, 6, [191, 3, 1, 0, 771, 772, 662], none), (6, .ifCond .eq 12, 9, [18], none), (9, .aload_n 0, 10, [], none), (10, .getfield 170, 13, [12, 80, 2, 657, 0], none), (13, .iload_n 1, 14, [], none), (14, .baload, 15, [22], none), (15, .ifCond .ne 5, 18, [20], none), (18, .iconst 0, 19, [], some []), (19, .ireturn, 20, [1], none), (20, .iconst 0, 21, [], some [0, 1]), (21, .istore_n 2, 22, [], none), (22, .iload_n 2, 23, [], some [0, 1, 2]), (23, .bipush 58, 25, [], none), (25, .if_icmp .ge 26, 28, [51], none), (28, .aload_n 0, 29, [], none), (29, .getfield 122, 32, [12, 52, 2, 641, 0], none), (32, .iload_n 2, 33, [], none), (33, .aload_n 0, 34, [], none), (34, .getfield 173, 37, [12, 81, 2, 658, 0], none), (37, .bipush 58, 39, [], none), (39, .iload_n 1, 40, [], none), (40, .imul, 41, [], none), (41, .iload_n 2, 42, [], none), (42, .iadd, 43, [], none), (43, .iaload, 44, [20], none), (44, .iastore, 45, [20], none), (45, .iinc 2 1, 48, [], none), (48, .goto (-26), 51, [22], none), (51, .aload_n 0, 52, [], some [0]), (52, .iconst 0, 53, [], none), (53, .putfield 275, 56, [12, 59, 0, 719, 0, 0], none), (56, .iconst 1, 57, [], none), (57, .ireturn, 58, [1], none)]
def zc_X12_count : List zE := [(0, .aload_n 0, 1, [], none), (1, .invokevirtual 415, 4, [200, 0, 0, 12, 834, 835, 836, 662], none), (4, .iload_n 1, 5, [], none), (5, .tableswitch 218 0 15 #[79, 89, 99, 109, 117, 117, 117, 117, 125, 125, 135, 140, 145, 150, 195, 208], 84, [223, 84, 94, 104, 114, 122, 122, 122, 122, 130, 130, 140, 145, 150, 155, 200, 213], none), (84, .aload_n 0, 85, [], some [0]), (85, .getfield 43, 88, [12, 22, 2, 614, 0], none), (88, .aload_n 0, 89, [], none), (89, .getfield 257, 92, [12, 18, 0, 711, 0], none), (92, .iaload, 93, [20], none), (93, .ireturn, 94, [0], none), (94, .aload_n 0, 95, [], some [0]), (95, .getfield 55, 98, [12, 26, 2, 618, 0], none), (98, .aload_n 0, 99, [], none), (99, .getfield 257, 102, [12, 18, 0, 711, 0], none), (102, .iaload, 103, [20], none), (103, .ireturn, 104, [0], none), (104, .aload_n 0, 105, [], some [0]), (105, .getfield 64, 108, [12, 29, 2, 621, 0], none), (108, .aload_n 0, 109, [], none), (109, .getfield 257, 112, [12, 18, 0, 711, 0], none), (112, .iaload, 113, [20], none), (113, .ireturn, 114, [0], none), (114, .aload_n 0, 115, [], some [0]), (115, .getfield 125, 118, [12, 53, 2, 642, 0], none), (118, .bipush 55, 120, [], none), (120, .iaload, 121, [20], none), (121, .ireturn, 122, [0], none), (122, .aload_n 0, 123, [], some [0, 1]), (123, .iload_n 1, 124, [], none), (124, .iconst 4, 125, [], none), (125, .isub, 126, [], none), (126, .invokevirtual 351, 129, [203, 1, 1, 12, 777, 778, 779, 662], none), (129, .ireturn, 130, [0], none), (130, .aload_n 0, 131, [], some [0, 1]), (131, .getfield 125, 134, [12, 53, 2, 642, 0], none), (134, .bipush 48, 136, [], none), (136, .iload_n 1, 137, [], none), (137, .iadd, 138, [], none), (138, .iaload, 139, [20], none), (139, .ireturn, 140, [0], none), (140, .aload_n 0, 141, [], some [0]), (141, .getfield 190, 144, [12, 2, 0, 671, 0], none), (144, .ireturn, 145, [0], none), (145, .aload_n 0, 146, [], some [0]), (146, .getfield 275, 149, [12, 59, 0, 719, 0], none), (149, .ireturn, 150, [0], none), (150, .aload_n 0, 151, [], some [0]), (151, .getfield 278, 154, [12, 74, 0, 720, 0], none), (154, .ireturn, 155, [0], none), (155, .aload_n 0, 156, [], some [0]), (156, .getfield 170, 159, [12, 80, 2, 657, 0], none), (159, .iconst 0, 160, [], none), (160, .baload, 161, [22], none), (161, .ifCond .eq 7, 164, [168], none), (164, .iconst 1, 165, [], none), (165, .goto 4, 168, [169], none), (168, .iconst 0, 169, [], some [0]), (169, .aload_n 0, 170, [], some [0]), (170, .getfield 170, 173, [12, 80, 2, 657, 0], none), (173, .iconst 1, 174, [], none), (174, .baload, 175, [22], none), (175, .ifCond .eq 7, 178, [182], none), (178, .iconst 1, 179, [], none), (179, .goto 4, 182, [183], none), (182, .iconst 0, 183, [], some [0]), (183, .iadd, 184, [], some [0]), (184, .aload_n 0, 185, [], none), (185, .getfield 170, 188, [12, 80, 2, 657, 0], none), (188, .iconst 2, 189, [], none), (189, .baload, 190, [22], none), (190, .ifCond .eq 7, 193, [197], none), (193, .iconst 1, 194, [], none), (194, .goto 4, 197, [198], none), (197, .iconst 0, 198, [], some []), (198, .iadd, 199, [], some []), (199, .ireturn, 200, [0], none), (200, .aload_n 0, 201, [], some [0]), (201, .invokevirtual 389, 204, [202, 0, 1, 12, 810, 811, 812, 662], none), (204, .ifCond .eq 7, 207, [211], none), (207, .iconst 1, 208, [], none), (208, .goto 4, 211, [212], none), (211, .iconst 0, 212, [], some []), (212, .ireturn, 213, [0], some []), (213, .aload_n 0, 214, [], some [0]), (214, .getfield 76, 217, [12, 33, 2, 625, 0], none), (217, .aload_n 0, 218, [], none), (218, .getfield 257, 221, [12, 18, 0, 711, 0], none), (221, .iaload, 222, [20], none), (222, .ireturn, 223, [0], none), (223, .iconst (-1), 224, [], some []), (224, .ireturn, 225, [0], none)]
def zc_J0_length_8abf5 : List zE := [(0, .aload_n 0, 1, [], none), (1, .getfield 9, 4, [30, 0, 0, 901], none), (4, .arraylength, 5, [31], none), (5, .aload_n 0, 6, [], none), (6, .invokevirtual 335, 9, [263, 0, 1, 30, 902, 903, 904, 120], none), (9, .ishr, 10, [], none), (10, .ireturn, 11, [0], none)]
def zc_J0_coder_7d493 : List zE := [(0, .getstatic 38, 3, [0, 905], none), (3, .ifCond .eq 10, 6, [13], none), (6, .aload_n 0, 7, [], none), (7, .getfield 15, 10, [30, 1, 0, 906], none), (10, .goto 4, 13, [14], none), (13, .iconst 1, 14, [], some []), (14, .ireturn, 15, [3], some [])]
def zc_J0_charAt_5068e : List zE := [(0, .aload_n 0, 1, [], none), (1, .invokevirtual 492, 4, [265, 0, 1, 30, 907, 908, 909, 120], none), (4, .ifCond .eq 12, 7, [16], none), (7, .aload_n 0, 8, [], none), (8, .getfield 9, 11, [30, 0, 0, 901], none), (11, .iload_n 1, 12, [], none), (12, .invokestatic 495, 15, [266, 2, 1, 0, 910, 911, 912], none), (15, .ireturn, 16, [2], none), (16, .aload_n 0, 17, [], some [0, 1]), (17, .getfield 9, 20, [30, 0, 0, 901], none), (20, .iload_n 1, 21, [], none), (21, .nop, 24, [], none)]
def zc_J0_isLatin1_aae02 : List zE := [(0, .getstatic 38, 3, [0, 905], none), (3, .ifCond .eq 14, 6, [17], none), (6, .aload_n 0, 7, [], none), (7, .getfield 15, 10, [30, 1, 0, 906], none), (10, .ifCond .ne 7, 13, [17], none), (13, .iconst 1, 14, [], none), (14, .goto 4, 17, [18], none), (17, .iconst 0, 18, [], some []), (18, .ireturn, 19, [1], some [])]
def zc_J1_charAt_3b067 : List zE := [(0, .iload_n 1, 1, [], none), (1, .aload_n 0, 2, [], none), (2, .arraylength, 3, [31], none), (3, .invokestatic 9, 6, [267, 2, 0, 0, 913, 914, 120], none), (6, .aload_n 0, 7, [], none), (7, .iload_n 1, 8, [], none), (8, .baload, 9, [31], none), (9, .sipush 255, 12, [], none), (12, .iand, 13, [], none), (13, .i2c, 14, [], none), (14, .ireturn, 15, [2], none)]
def zc_J0_checkIndex_df160 : List zE := [(0, .iload_n 0, 1, [], none), (1, .iload_n 1, 2, [], none), (2, .getstatic 1053, 5, [1, 915], none), (5, .invokestatic 1059, 8, [268, 3, 1, 0, 916, 917, 918], none), (8, .pop, 9, [], none), (9, .return_, 10, [], none)]
def zc_J3_checkIndex_8e157 : List zE := [(0, .iload_n 0, 1, [], none), (1, .ifCond .lt 8, 4, [9], none), (4, .iload_n 0, 5, [], none), (5, .iload_n 1, 6, [], none), (6, .if_icmp .lt 10, 9, [16], none), (9, .aload_n 2, 10, [], some [0, 1, 2]), (10, .iload_n 0, 11, [], none), (11, .iload_n 1, 12, [], none), (12, .nop, 15, [], none), (16, .iload_n 0, 17, [], some [0]), (17, .ireturn, 18, [0], none)]
def zc_J0_indexOf_0f7a4 : List zE := [(0, .aload_n 0, 1, [], none), (1, .iload_n 1, 2, [], none), (2, .iconst 0, 3, [], none), (3, .invokevirtual 633, 6, [270, 2, 1, 30, 919, 920, 921, 120], none), (6, .ireturn, 7, [0], none)]
def zc_J0_indexOf_7cf53 : List zE := [(0, .aload_n 0, 1, [], none), (1, .invokevirtual 492, 4, [265, 0, 1, 30, 907, 908, 909, 120], none), (4, .ifCond .eq 19, 7, [23], none), (7, .aload_n 0, 8, [], none), (8, .getfield 9, 11, [30, 0, 0, 901], none), (11, .iload_n 1, 12, [], none), (12, .iload_n 2, 13, [], none), (13, .aload_n 0, 14, [], none), (14, .invokevirtual 505, 17, [262, 0, 1, 30, 922, 118, 119, 120], none), (17, .invokestatic 637, 20, [271, 4, 1, 0, 923, 924, 912], none), (20, .goto 16, 23, [36], none), (23, .aload_n 0, 24, [], some [0, 1, 2]), (24, .getfield 9, 27, [30, 0, 0, 901], none), (27, .iload_n 1, 28, [], none), (28, .iload_n 2, 29, [], none), (29, .aload_n 0, 30, [], none), (30, .invokevirtual 505, 33, [262, 0, 1, 30, 922, 118, 119, 120], none), (33, .nop, 36, [], none), (36, .ireturn, 37, [0], some [])]
def zc_J1_indexOf_4cfef : List zE := [(0, .iload_n 1, 1, [], none), (1, .invokestatic 88, 4, [272, 1, 1, 0, 925, 926, 912], none), (4, .ifCond .ne 5, 7, [9], none), (7, .iconst (-1), 8, [], none), (8, .ireturn, 9, [0], none), (9, .iload_n 2, 10, [], some [0, 1, 2, 3]), (10, .iconst 0, 11, [], none), (11, .invokestatic 92, 14, [274, 2, 1, 0, 927, 410, 17], none), (14, .istore_n 2, 15, [], none), (15, .iload_n 3, 16, [], none), (16, .aload_n 0, 17, [], none), (17, .arraylength, 18, [31], none), (18, .invokestatic 38, 21, [275, 2, 1, 0, 928, 16, 17], none), (21, .istore_n 3, 22, [], none), (22, .iload_n 2, 23, [], none), (23, .iload_n 3, 24, [], none), (24, .if_icmp .lt 5, 27, [29], none), (27, .iconst (-1), 28, [], none), (28, .ireturn, 29, [0], none), (29, .aload_n 0, 30, [], some [0, 1, 2, 3]), (30, .iload_n 1, 31, [], none), (31, .iload_n 2, 32, [], none), (32, .iload_n 3, 33, [], none), (33, .invokestatic 95, 36, [273, 4, 1, 0, 929, 930, 912], none), (36, .ireturn, 37, [0], none)]
def zc_J1_canEncode_9a6ad : List zE := [(0, .iload_n 0, 1, [], none), (1, .ifCond .lt 14, 4, [15], none), (4, .iload_n 0, 5, [], none), (5, .sipush 255, 8, [], none), (8, .if_icmp .gt 7, 11, [15], none), (11, .iconst 1, 12, [], none), (12, .goto 4, 15, [16], none), (15, .iconst 0, 16, [], some []), (16, .ireturn, 17, [1], some [])]
def zc_J1_indexOfChar_4cfef : List zE := [(0, .iload_n 1, 1, [], none), (1, .i2b, 2, [], none), (2, .istore 4, 4, [], none), (4, .iload_n 2, 5, [], none), (5, .istore 5, 7, [], none), (7, .iload 5, 9, [], some [0, 3, 4, 5]), (9, .iload_n 3, 10, [], none), (10, .if_icmp .ge 21, 13, [31], none), (13, .aload_n 0, 14, [], none), (14, .iload 5, 16, [], none), (16, .baload, 17, [31], none), (17, .iload 4, 19, [], none), (19, .if_icmp .ne 6, 22, [25], none), (22, .iload 5, 24, [], none), (24, .ireturn, 25, [0], none), (25, .iinc 5 1, 28, [], some [0, 3, 4, 5]), (28, .goto (-21), 31, [7], none), (31, .iconst (-1), 32, [], some []), (32, .ireturn, 33, [0], none)]
def zc_J9_max_7cf53 : List zE := [(0, .iload_n 0, 1, [], none), (1, .iload_n 1, 2, [], none), (2, .if_icmp .lt 7, 5, [9], none), (5, .iload_n 0, 6, [], none), (6, .goto 4, 9, [10], none), (9, .iload_n 1, 10, [], some [1]), (10, .ireturn, 11, [0], some [])]
def zc_J9_min_7cf53 : List zE := [(0, .iload_n 0, 1, [], none), (1, .iload_n 1, 2, [], none), (2, .if_icmp .gt 7, 5, [9], none), (5, .iload_n 0, 6, [], none), (6, .goto 4, 9, [10], none), (9, .iload_n 1, 10, [], some [1]), (10, .ireturn, 11, [0], some [])]
def zc_J9_abs_0f7a4 : List zE := [(0, .iload_n 0, 1, [], none), (1, .ifCond .ge 8, 4, [9], none), (4, .iload_n 0, 5, [], none), (5, .ineg, 6, [], none), (6, .goto 4, 9, [10], none), (9, .iload_n 0, 10, [], some [0]), (10, .ireturn, 11, [0], some [])]
def zc_J6_bitCount_0f7a4 : List zE := [(0, .iload_n 0, 1, [], none), (1, .iload_n 0, 2, [], none), (2, .iconst 1, 3, [], none), (3, .iushr, 4, [], none), (4, .ldc_w 265, 7, [0, 1431655765, 931], none), (7, .iand, 8, [], none), (8, .isub, 9, [], none), (9, .istore_n 0, 10, [], none), (10, .iload_n 0, 11, [], none), (11, .ldc_w 266, 14, [0, 858993459, 932], none), (14, .iand, 15, [], none), (15, .iload_n 0, 16, [], none), (16, .iconst 2, 17, [], none), (17, .iushr, 18, [], none), (18, .ldc_w 266, 21, [0, 858993459, 932], none), (21, .iand, 22, [], none), (22, .iadd, 23, [], none), (23, .istore_n 0, 24, [], none), (24, .iload_n 0, 25, [], none), (25, .iload_n 0, 26, [], none), (26, .iconst 4, 27, [], none), (27, .iushr, 28, [], none), (28, .iadd, 29, [], none), (29, .ldc_w 267, 32, [0, 252645135, 933], none), (32, .iand, 33, [], none), (33, .istore_n 0, 34, [], none), (34, .iload_n 0, 35, [], none), (35, .iload_n 0, 36, [], none), (36, .bipush 8, 38, [], none), (38, .iushr, 39, [], none), (39, .iadd, 40, [], none), (40, .istore_n 0, 41, [], none), (41, .iload_n 0, 42, [], none), (42, .iload_n 0, 43, [], none), (43, .bipush 16, 45, [], none), (45, .iushr, 46, [], none), (46, .iadd, 47, [], none), (47, .istore_n 0, 48, [], none), (48, .iload_n 0, 49, [], none), (49, .bipush 63, 51, [], none), (51, .iand, 52, [], none), (52, .ireturn, 53, [0], none)]
def zc_law : List zE := [(0, .new 7, 3, [11, 14, 934, 935, 222], none), (3, .dup, 4, [], none), (4, .invokespecial 9, 7, [112, 0, 0, 936, 937, 222], none), (7, .astore_n 1, 8, [], none), (8, .new 10, 11, [12, 82, 938, 939, 662], some [0, 1]), (11, .dup, 12, [], none), (12, .invokespecial 12, 15, [155, 0, 0, 940, 941, 662], none), (15, .astore_n 2, 16, [], none), (16, .iconst 0, 17, [], some [0, 1, 2]), (17, .istore_n 3, 18, [], none), (18, .iload_n 3, 19, [], some [0, 1, 2, 3]), (19, .aload_n 0, 20, [], none), (20, .arraylength, 21, [40], none), (21, .bipush 6, 23, [], none), (23, .isub, 24, [], none), (24, .if_icmp .gt 1170, 27, [1194], none), (27, .aload_n 0, 28, [], none), (28, .iload_n 3, 29, [], none), (29, .iaload, 30, [40], none), (30, .bipush 31, 32, [], none), (32, .iand, 33, [], none), (33, .tableswitch 1155 0 31 #[143, 206, 229, 242, 255, 288, 321, 344, 377, 420, 453, 486, 535, 558, 571, 624, 667, 710, 733, 766, 789, 802, 845, 888, 911, 954, 1017, 1030, 1063, 1086, 1109, 1132], 176, [1188, 176, 239, 262, 275, 288, 321, 354, 377, 410, 453, 486, 519, 568, 591, 604, 657, 700, 743, 766, 799, 822, 835, 878, 921, 944, 987, 1050, 1063, 1096, 1119, 1142, 1165], none), (176, .aload_n 1, 177, [], some [0, 1, 2, 3]), (177, .aload_n 0, 178, [], none), (178, .iload_n 3, 179, [], none), (179, .iconst 1, 180, [], none), (180, .iadd, 181, [], none), (181, .iaload, 182, [40], none), (182, .aload_n 0, 183, [], none), (183, .iload_n 3, 184, [], none), (184, .iconst 2, 185, [], none), (185, .iadd, 186, [], none), (186, .iaload, 187, [40], none), (187, .aload_n 0, 188, [], none), (188, .iload_n 3, 189, [], none), (189, .iconst 3, 190, [], none), (190, .iadd, 191, [], none), (191, .iaload, 192, [40], none), (192, .aload_n 0, 193, [], none), (193, .iload_n 3, 194, [], none), (194, .iconst 4, 195, [], none), (195, .iadd, 196, [], none), (196, .iaload, 197, [40], none), (197, .aload_n 0, 198, [], none), (198, .iload_n 3, 199, [], none), (199, .iconst 5, 200, [], none), (200, .iadd, 201, [], none), (201, .iaload, 202, [40], none), (202, .invokevirtual 13, 205, [113, 5, 1, 11, 942, 943, 944, 222], none), (205, .aload_n 2, 206, [], none), (206, .aload_n 0, 207, [], none), (207, .iload_n 3, 208, [], none), (208, .iconst 1, 209, [], none), (209, .iadd, 210, [], none), (210, .iaload, 211, [40], none), (211, .aload_n 0, 212, [], none), (212, .iload_n 3, 213, [], none), (213, .iconst 2, 214, [], none), (214, .iadd, 215, [], none), (215, .iaload, 216, [40], none), (216, .aload_n 0, 217, [], none), (217, .iload_n 3, 218, [], none), (218, .iconst 3, 219, [], none), (219, .iadd, 220, [], none), (220, .iaload, 221, [40], none), (221, .aload_n 0, 222, [], none), (222, .iload_n 3, 223, [], none), (223, .iconst 4, 224, [], none), (224, .iadd, 225, [], none), (225, .iaload, 226, [40], none), (226, .aload_n 0, 227, [], none), (227, .iload_n 3, 228, [], none), (228, .iconst 5, 229, [], none), (229, .iadd, 230, [], none), (230, .iaload, 231, [40], none), (231, .invokevirtual 17, 234, [156, 5, 1, 12, 945, 946, 947, 662], none), (234, .if_icmp .eq 954, 237, [1188], none), (237, .iconst 0, 238, [], none), (238, .ireturn, 239, [1], none), (239, .aload_n 1, 240, [], some [0, 1, 2, 3]), (240, .aload_n 0, 241, [], none), (241, .iload_n 3, 242, [], none), (242, .iconst 1, 243, [], none), (243, .iadd, 244, [], none), (244, .iaload, 245, [40], none), (245, .invokevirtual 18, 248, [114, 1, 1, 11, 948, 949, 950, 222], none), (248, .aload_n 2, 249, [], none), (249, .aload_n 0, 250, [], none), (250, .iload_n 3, 251, [], none), (251, .iconst 1, 252, [], none), (252, .iadd, 253, [], none), (253, .iaload, 254, [40], none), (254, .invokevirtual 22, 257, [158, 1, 1, 12, 951, 952, 953, 662], none), (257, .if_icmp .eq 931, 260, [1188], none), (260, .iconst 0, 261, [], none), (261, .ireturn, 262, [1], none), (262, .aload_n 1, 263, [], some [0, 1, 2, 3]), (263, .invokevirtual 23, 266, [115, 0, 1, 11, 954, 955, 956, 222], none), (266, .aload_n 2, 267, [], none), (267, .invokevirtual 27, 270, [173, 0, 1, 12, 957, 958, 959, 662], none), (270, .if_icmp .eq 918, 273, [1188], none), (273, .iconst 0, 274, [], none), (274, .ireturn, 275, [1], none), (275, .aload_n 1, 276, [], some [0, 1, 2, 3]), (276, .invokevirtual 28, 279, [116, 0, 1, 11, 960, 961, 962, 222], none), (279, .aload_n 2, 280, [], none), (280, .invokevirtual 31, 283, [174, 0, 1, 12, 963, 964, 965, 662], none), (283, .if_icmp .eq 905, 286, [1188], none), (286, .iconst 0, 287, [], none), (287, .ireturn, 288, [1], none), (288, .aload_n 1, 289, [], some [0, 1, 2, 3]), (289, .aload_n 0, 290, [], none), (290, .iload_n 3, 291, [], none), (291, .iconst 1, 292, [], none), (292, .iadd, 293, [], none), (293, .iaload, 294, [40], none), (294, .aload_n 0, 295, [], none), (295, .iload_n 3, 296, [], none), (296, .iconst 2, 297, [], none), (297, .iadd, 298, [], none), (298, .iaload, 299, [40], none), (299, .invokevirtual 32, 302, [117, 2, 1, 11, 966, 967, 968, 222], none), (302, .aload_n 2, 303, [], none), (303, .aload_n 0, 304, [], none), (304, .iload_n 3, 305, [], none), (305, .iconst 1, 306, [], none), (306, .iadd, 307, [], none), (307, .iaload, 308, [40], none), (308, .aload_n 0, 309, [], none), (309, .iload_n 3, 310, [], none), (310, .iconst 2, 311, [], none), (311, .iadd, 312, [], none), (312, .iaload, 313, [40], none), (313, .invokevirtual 36, 316, [218, 2, 1, 12, 969, 970, 971, 662], none), (316, .if_icmp .eq 872, 319, [1188], none), (319, .iconst 0, 320, [], none), (320, .ireturn, 321, [1], none), (321, .aload_n 1, 322, [], some [0, 1, 2, 3]), (322, .aload_n 0, 323, [], none), (323, .iload_n 3, 324, [], none), (324, .iconst 1, 325, [], none), (325, .iadd, 326, [], none), (326, .iaload, 327, [40], none), (327, .aload_n 0, 328, [], none), (328, .iload_n 3, 329, [], none), (329, .iconst 2, 330, [], none), (330, .iadd, 331, [], none), (331, .iaload, 332, [40], none), (332, .invokevirtual 37, 335, [118, 2, 1, 11, 972, 973, 974, 222], none), (335, .aload_n 2, 336, [], none), (336, .aload_n 0, 337, [], none), (337, .iload_n 3, 338, [], none), (338, .iconst 1, 339, [], none), (339, .iadd, 340, [], none), (340, .iaload, 341, [40], none), (341, .aload_n 0, 342, [], none), (342, .iload_n 3, 343, [], none), (343, .iconst 2, 344, [], none), (344, .iadd, 345, [], none), (345, .iaload, 346, [40], none), (346, .invokevirtual 40, 349, [219, 2, 1, 12, 975, 976, 977, 662], none), (349, .if_icmp .eq 839, 352, [1188], none), (352, .iconst 0, 353, [], none), (353, .ireturn, 354, [1], none), (354, .aload_n 1, 355, [], some [0, 1, 2, 3]), (355, .aload_n 0, 356, [], none), (356, .iload_n 3, 357, [], none), (357, .iconst 1, 358, [], none), (358, .iadd, 359, [], none), (359, .iaload, 360, [40], none), (360, .invokevirtual 41, 363, [119, 1, 1, 11, 978, 979, 980, 222], none), (363, .aload_n 2, 364, [], none), (364, .aload_n 0, 365, [], none), (365, .iload_n 3, 366, [], none), (366, .iconst 1, 367, [], none), (367, .iadd, 368, [], none), (368, .iaload, 369, [40], none), (369, .invokevirtual 44, 372, [220, 1, 1, 12, 981, 982, 983, 662], none), (372, .if_icmp .eq 816, 375, [1188], none), (375, .iconst 0, 376, [], none), (376, .ireturn, 377, [1], none), (377, .aload_n 1, 378, [], some [0, 1, 2, 3]), (378, .aload_n 0, 379, [], none), (379, .iload_n 3, 380, [], none), (380, .iconst 1, 381, [], none), (381, .iadd, 382, [], none), (382, .iaload, 383, [40], none), (383, .aload_n 0, 384, [], none), (384, .iload_n 3, 385, [], none), (385, .iconst 2, 386, [], none), (386, .iadd, 387, [], none), (387, .iaload, 388, [40], none), (388, .invokevirtual 45, 391, [120, 2, 1, 11, 984, 985, 986, 222], none), (391, .aload_n 2, 392, [], none), (392, .aload_n 0, 393, [], none), (393, .iload_n 3, 394, [], none), (394, .iconst 1, 395, [], none), (395, .iadd, 396, [], none), (396, .iaload, 397, [40], none), (397, .aload_n 0, 398, [], none), (398, .iload_n 3, 399, [], none), (399, .iconst 2, 400, [], none), (400, .iadd, 401, [], none), (401, .iaload, 402, [40], none), (402, .invokevirtual 48, 405, [221, 2, 1, 12, 987, 988, 989, 662], none), (405, .if_icmp .eq 783, 408, [1188], none), (408, .iconst 0, 409, [], none), (409, .ireturn, 410, [1], none), (410, .aload_n 1, 411, [], some [0, 1, 2, 3]), (411, .aload_n 0, 412, [], none), (412, .iload_n 3, 413, [], none), (413, .iconst 1, 414, [], none), (414, .iadd, 415, [], none), (415, .iaload, 416, [40], none), (416, .aload_n 0, 417, [], none), (417, .iload_n 3, 418, [], none), (418, .iconst 2, 419, [], none), (419, .iadd, 420, [], none), (420, .iaload, 421, [40], none), (421, .aload_n 0, 422, [], none), (422, .iload_n 3, 423, [], none), (423, .iconst 3, 424, [], none), (424, .iadd, 425, [], none), (425, .iaload, 426, [40], none), (426, .invokevirtual 49, 429, [121, 3, 1, 11, 990, 991, 992, 222], none), (429, .aload_n 2, 430, [], none), (430, .aload_n 0, 431, [], none), (431, .iload_n 3, 432, [], none), (432, .iconst 1, 433, [], none), (433, .iadd, 434, [], none), (434, .iaload, 435, [40], none), (435, .aload_n 0, 436, [], none), (436, .iload_n 3, 437, [], none), (437, .iconst 2, 438, [], none), (438, .iadd, 439, [], none), (439, .iaload, 440, [40], none), (440, .aload_n 0, 441, [], none), (441, .iload_n 3, 442, [], none), (442, .iconst 3, 443, [], none), (443, .iadd, 444, [], none), (444, .iaload, 445, [40], none), (445, .invokevirtual 53, 448, [222, 3, 1, 12, 993, 994, 995, 662], none), (448, .if_icmp .eq 740, 451, [1188], none), (451, .iconst 0, 452, [], none), (452, .ireturn, 453, [1], none), (453, .aload_n 1, 454, [], some [0, 1, 2, 3]), (454, .aload_n 0, 455, [], none), (455, .iload_n 3, 456, [], none), (456, .iconst 1, 457, [], none), (457, .iadd, 458, [], none), (458, .iaload, 459, [40], none), (459, .aload_n 0, 460, [], none), (460, .iload_n 3, 461, [], none), (461, .iconst 2, 462, [], none), (462, .iadd, 463, [], none), (463, .iaload, 464, [40], none), (464, .invokevirtual 54, 467, [122, 2, 1, 11, 996, 997, 998, 222], none), (467, .aload_n 2, 468, [], none), (468, .aload_n 0, 469, [], none), (469, .iload_n 3, 470, [], none), (470, .iconst 1, 471, [], none), (471, .iadd, 472, [], none), (472, .iaload, 473, [40], none), (473, .aload_n 0, 474, [], none), (474, .iload_n 3, 475, [], none), (475, .iconst 2, 476, [], none), (476, .iadd, 477, [], none), (477, .iaload, 478, [40], none), (478, .invokevirtual 57, 481, [226, 2, 1, 12, 999, 1000, 1001, 662], none), (481, .if_icmp .eq 707, 484, [1188], none), (484, .iconst 0, 485, [], none), (485, .ireturn, 486, [1], none), (486, .aload_n 1, 487, [], some [0, 1, 2, 3]), (487, .aload_n 0, 488, [], none), (488, .iload_n 3, 489, [], none), (489, .iconst 1, 490, [], none), (490, .iadd, 491, [], none), (491, .iaload, 492, [40], none), (492, .aload_n 0, 493, [], none), (493, .iload_n 3, 494, [], none), (494, .iconst 2, 495, [], none), (495, .iadd, 496, [], none), (496, .iaload, 497, [40], none), (497, .invokevirtual 58, 500, [123, 2, 1, 11, 1002, 1003, 1004, 222], none), (500, .aload_n 2, 501, [], none), (501, .aload_n 0, 502, [], none), (502, .iload_n 3, 503, [], none), (503, .iconst 1, 504, [], none), (504, .iadd, 505, [], none), (505, .iaload, 506, [40], none), (506, .aload_n 0, 507, [], none), (507, .iload_n 3, 508, [], none), (508, .iconst 2, 509, [], none), (509, .iadd, 510, [], none), (510, .iaload, 511, [40], none), (511, .invokevirtual 62, 514, [227, 2, 1, 12, 1005, 1006, 1007, 662], none), (514, .if_icmp .eq 674, 517, [1188], none), (517, .iconst 0, 518, [], none), (518, .ireturn, 519, [1], none), (519, .aload_n 1, 520, [], some [0, 1, 2, 3]), (520, .aload_n 0, 521, [], none), (521, .iload_n 3, 522, [], none), (522, .iconst 1, 523, [], none), (523, .iadd, 524, [], none), (524, .iaload, 525, [40], none), (525, .aload_n 0, 526, [], none), (526, .iload_n 3, 527, [], none), (527, .iconst 2, 528, [], none), (528, .iadd, 529, [], none), (529, .iaload, 530, [40], none), (530, .ifCond .eq 7, 533, [537], none), (533, .iconst 1, 534, [], none), (534, .goto 4, 537, [538], none), (537, .iconst 0, 538, [], some [0, 1, 2, 3]), (538, .invokevirtual 63, 541, [124, 2, 1, 11, 1008, 1009, 1010, 222], some [0, 1, 2, 3]), (541, .aload_n 2, 542, [], none), (542, .aload_n 0, 543, [], none), (543, .iload_n 3, 544, [], none), (544, .iconst 1, 545, [], none), (545, .iadd, 546, [], none), (546, .iaload, 547, [40], none), (547, .aload_n 0, 548, [], none), (548, .iload_n 3, 549, [], none), (549, .iconst 2, 550, [], none), (550, .iadd, 551, [], none), (551, .iaload, 552, [40], none), (552, .ifCond .eq 7, 555, [559], none), (555, .iconst 1, 556, [], none), (556, .goto 4, 559, [560], none), (559, .iconst 0, 560, [], some [0, 1, 2, 3]), (560, .invokevirtual 67, 563, [228, 2, 1, 12, 1011, 1012, 1013, 662], some [0, 1, 2, 3]), (563, .if_icmp .eq 625, 566, [1188], none), (566, .iconst 0, 567, [], none), (567, .ireturn, 568, [1], none), (568, .aload_n 1, 569, [], some [0, 1, 2, 3]), (569, .aload_n 0, 570, [], none), (570, .iload_n 3, 571, [], none), (571, .iconst 1, 572, [], none), (572, .iadd, 573, [], none), (573, .iaload, 574, [40], none), (574, .invokevirtual 68, 577, [125, 1, 1, 11, 1014, 1015, 1016, 222], none), (577, .aload_n 2, 578, [], none), (578, .aload_n 0, 579, [], none), (579, .iload_n 3, 580, [], none), (580, .iconst 1, 581, [], none), (581, .iadd, 582, [], none), (582, .iaload, 583, [40], none), (583, .invokevirtual 71, 586, [229, 1, 1, 12, 1017, 1018, 1019, 662], none), (586, .if_icmp .eq 602, 589, [1188], none), (589, .iconst 0, 590, [], none), (590, .ireturn, 591, [1], none), (591, .aload_n 1, 592, [], some [0, 1, 2, 3]), (592, .invokevirtual 72, 595, [126, 0, 1, 11, 1020, 1021, 1022, 222], none), (595, .aload_n 2, 596, [], none), (596, .invokevirtual 76, 599, [230, 0, 1, 12, 1023, 1024, 1025, 662], none), (599, .if_icmp .eq 589, 602, [1188], none), (602, .iconst 0, 603, [], none), (603, .ireturn, 604, [1], none), (604, .aload_n 1, 605, [], some [0, 1, 2, 3]), (605, .aload_n 0, 606, [], none), (606, .iload_n 3, 607, [], none), (607, .iconst 1, 608, [], none), (608, .iadd, 609, [], none), (609, .iaload, 610, [40], none), (610, .aload_n 0, 611, [], none), (611, .iload_n 3, 612, [], none), (612, .iconst 2, 613, [], none), (613, .iadd, 614, [], none), (614, .iaload, 615, [40], none), (615, .aload_n 0, 616, [], none), (616, .iload_n 3, 617, [], none), (617, .iconst 3, 618, [], none), (618, .iadd, 619, [], none), (619, .iaload, 620, [40], none), (620, .aload_n 0, 621, [], none), (621, .iload_n 3, 622, [], none), (622, .iconst 4, 623, [], none), (623, .iadd, 624, [], none), (624, .iaload, 625, [40], none), (625, .invokevirtual 77, 628, [127, 4, 1, 11, 1026, 1027, 1028, 222], none), (628, .aload_n 2, 629, [], none), (629, .aload_n 0, 630, [], none), (630, .iload_n 3, 631, [], none), (631, .iconst 1, 632, [], none), (632, .iadd, 633, [], none), (633, .iaload, 634, [40], none), (634, .aload_n 0, 635, [], none), (635, .iload_n 3, 636, [], none), (636, .iconst 2, 637, [], none), (637, .iadd, 638, [], none), (638, .iaload, 639, [40], none), (639, .aload_n 0, 640, [], none), (640, .iload_n 3, 641, [], none), (641, .iconst 3, 642, [], none), (642, .iadd, 643, [], none), (643, .iaload, 644, [40], none), (644, .aload_n 0, 645, [], none), (645, .iload_n 3, 646, [], none), (646, .iconst 4, 647, [], none), (647, .iadd, 648, [], none), (648, .iaload, 649, [40], none), (649, .invokevirtual 81, 652, [235, 4, 1, 12, 1029, 1030, 1031, 662], none), (652, .if_icmp .eq 536, 655, [1188], none), (655, .iconst 0, 656, [], none), (656, .ireturn, 657, [1], none), (657, .aload_n 1, 658, [], some [0, 1, 2, 3]), (658, .aload_n 0, 659, [], none), (659, .iload_n 3, 660, [], none), (660, .iconst 1, 661, [], none), (661, .iadd, 662, [], none), (662, .iaload, 663, [40], none), (663, .aload_n 0, 664, [], none), (664, .iload_n 3, 665, [], none), (665, .iconst 2, 666, [], none), (666, .iadd, 667, [], none), (667, .iaload, 668, [40], none), (668, .aload_n 0, 669, [], none), (669, .iload_n 3, 670, [], none), (670, .iconst 3, 671, [], none), (671, .iadd, 672, [], none), (672, .iaload, 673, [40], none), (673, .invokevirtual 82, 676, [128, 3, 1, 11, 1032, 1033, 1034, 222], none), (676, .aload_n 2, 677, [], none), (677, .aload_n 0, 678, [], none), (678, .iload_n 3, 679, [], none), (679, .iconst 1, 680, [], none), (680, .iadd, 681, [], none), (681, .iaload, 682, [40], none), (682, .aload_n 0, 683, [], none), (683, .iload_n 3, 684, [], none), (684, .iconst 2, 685, [], none), (685, .iadd, 686, [], none), (686, .iaload, 687, [40], none), (687, .aload_n 0, 688, [], none), (688, .iload_n 3, 689, [], none), (689, .iconst 3, 690, [], none), (690, .iadd, 691, [], none), (691, .iaload, 692, [40], none), (692, .invokevirtual 85, 695, [236, 3, 1, 12, 1035, 1036, 1037, 662], none), (695, .if_icmp .eq 493, 698, [1188], none), (698, .iconst 0, 699, [], none), (699, .ireturn, 700, [1], none), (700, .aload_n 1, 701, [], some [0, 1, 2, 3]), (701, .aload_n 0, 702, [], none), (702, .iload_n 3, 703, [], none), (703, .iconst 1, 704, [], none), (704, .iadd, 705, [], none), (705, .iaload, 706, [40], none), (706, .aload_n 0, 707, [], none), (707, .iload_n 3, 708, [], none), (708, .iconst 2, 709, [], none), (709, .iadd, 710, [], none), (710, .iaload, 711, [40], none), (711, .aload_n 0, 712, [], none), (712, .iload_n 3, 713, [], none), (713, .iconst 3, 714, [], none), (714, .iadd, 715, [], none), (715, .iaload, 716, [40], none), (716, .invokevirtual 86, 719, [129, 3, 1, 11, 1038, 1039, 1040, 222], none), (719, .aload_n 2, 720, [], none), (720, .aload_n 0, 721, [], none), (721, .iload_n 3, 722, [], none), (722, .iconst 1, 723, [], none), (723, .iadd, 724, [], none), (724, .iaload, 725, [40], none), (725, .aload_n 0, 726, [], none), (726, .iload_n 3, 727, [], none), (727, .iconst 2, 728, [], none), (728, .iadd, 729, [], none), (729, .iaload, 730, [40], none), (730, .aload_n 0, 731, [], none), (731, .iload_n 3, 732, [], none), (732, .iconst 3, 733, [], none), (733, .iadd, 734, [], none), (734, .iaload, 735, [40], none), (735, .invokevirtual 89, 738, [237, 3, 1, 12, 1041, 1042, 1043, 662], none), (738, .if_icmp .eq 450, 741, [1188], none), (741, .iconst 0, 742, [], none), (742, .ireturn, 743, [1], none), (743, .aload_n 1, 744, [], some [0, 1, 2, 3]), (744, .aload_n 0, 745, [], none), (745, .iload_n 3, 746, [], none), (746, .iconst 1, 747, [], none), (747, .iadd, 748, [], none), (748, .iaload, 749, [40], none), (749, .invokevirtual 90, 752, [130, 1, 1, 11, 1044, 1045, 1046, 222], none), (752, .aload_n 2, 753, [], none), (753, .aload_n 0, 754, [], none), (754, .iload_n 3, 755, [], none), (755, .iconst 1, 756, [], none), (756, .iadd, 757, [], none), (757, .iaload, 758, [40], none), (758, .invokevirtual 93, 761, [238, 1, 1, 12, 1047, 1048, 1049, 662], none), (761, .if_icmp .eq 427, 764, [1188], none), (764, .iconst 0, 765, [], none), (765, .ireturn, 766, [1], none), (766, .aload_n 1, 767, [], some [0, 1, 2, 3]), (767, .aload_n 0, 768, [], none), (768, .iload_n 3, 769, [], none), (769, .iconst 1, 770, [], none), (770, .iadd, 771, [], none), (771, .iaload, 772, [40], none), (772, .aload_n 0, 773, [], none), (773, .iload_n 3, 774, [], none), (774, .iconst 2, 775, [], none), (775, .iadd, 776, [], none), (776, .iaload, 777, [40], none), (777, .invokevirtual 94, 780, [131, 2, 1, 11, 1050, 1051, 1052, 222], none), (780, .aload_n 2, 781, [], none), (781, .aload_n 0, 782, [], none), (782, .iload_n 3, 783, [], none), (783, .iconst 1, 784, [], none), (784, .iadd, 785, [], none), (785, .iaload, 786, [40], none), (786, .aload_n 0, 787, [], none), (787, .iload_n 3, 788, [], none), (788, .iconst 2, 789, [], none), (789, .iadd, 790, [], none), (790, .iaload, 791, [40], none), (791, .invokevirtual 97, 794, [239, 2, 1, 12, 1053, 1054, 1055, 662], none), (794, .if_icmp .eq 394, 797, [1188], none), (797, .iconst 0, 798, [], none), (798, .ireturn, 799, [1], none), (799, .aload_n 1, 800, [], some [0, 1, 2, 3]), (800, .aload_n 0, 801, [], none), (801, .iload_n 3, 802, [], none), (802, .iconst 1, 803, [], none), (803, .iadd, 804, [], none), (804, .iaload, 805, [40], none), (805, .invokevirtual 98, 808, [132, 1, 1, 11, 1056, 1057, 1058, 222], none), (808, .aload_n 2, 809, [], none), (809, .aload_n 0, 810, [], none), (810, .iload_n 3, 811, [], none), (811, .iconst 1, 812, [], none), (812, .iadd, 813, [], none), (813, .iaload, 814, [40], none), (814, .invokevirtual 101, 817, [244, 1, 1, 12, 1059, 1060, 1061, 662], none), (817, .if_icmp .eq 371, 820, [1188], none), (820, .iconst 0, 821, [], none), (821, .ireturn, 822, [1], none), (822, .aload_n 1, 823, [], some [0, 1, 2, 3]), (823, .invokevirtual 102, 826, [133, 0, 1, 11, 1062, 1063, 1064, 222], none), (826, .aload_n 2, 827, [], none), (827, .invokevirtual 105, 830, [246, 0, 1, 12, 1065, 1066, 1067, 662], none), (830, .if_icmp .eq 358, 833, [1188], none), (833, .iconst 0, 834, [], none), (834, .ireturn, 835, [1], none), (835, .aload_n 1, 836, [], some [0, 1, 2, 3]), (836, .aload_n 0, 837, [], none), (837, .iload_n 3, 838, [], none), (838, .iconst 1, 839, [], none), (839, .iadd, 840, [], none), (840, .iaload, 841, [40], none), (841, .aload_n 0, 842, [], none), (842, .iload_n 3, 843, [], none), (843, .iconst 2, 844, [], none), (844, .iadd, 845, [], none), (845, .iaload, 846, [40], none), (846, .aload_n 0, 847, [], none), (847, .iload_n 3, 848, [], none), (848, .iconst 3, 849, [], none), (849, .iadd, 850, [], none), (850, .iaload, 851, [40], none), (851, .invokevirtual 106, 854, [134, 3, 1, 11, 1068, 1069, 1070, 222], none), (854, .aload_n 2, 855, [], none), (855, .aload_n 0, 856, [], none), (856, .iload_n 3, 857, [], none), (857, .iconst 1, 858, [], none), (858, .iadd, 859, [], none), (859, .iaload, 860, [40], none), (860, .aload_n 0, 861, [], none), (861, .iload_n 3, 862, [], none), (862, .iconst 2, 863, [], none), (863, .iadd, 864, [], none), (864, .iaload, 865, [40], none), (865, .aload_n 0, 866, [], none), (866, .iload_n 3, 867, [], none), (867, .iconst 3, 868, [], none), (868, .iadd, 869, [], none), (869, .iaload, 870, [40], none), (870, .invokevirtual 109, 873, [247, 3, 1, 12, 1071, 1072, 1073, 662], none), (873, .if_icmp .eq 315, 876, [1188], none), (876, .iconst 0, 877, [], none), (877, .ireturn, 878, [1], none), (878, .aload_n 1, 879, [], some [0, 1, 2, 3]), (879, .aload_n 0, 880, [], none), (880, .iload_n 3, 881, [], none), (881, .iconst 1, 882, [], none), (882, .iadd, 883, [], none), (883, .iaload, 884, [40], none), (884, .aload_n 0, 885, [], none), (885, .iload_n 3, 886, [], none), (886, .iconst 2, 887, [], none), (887, .iadd, 888, [], none), (888, .iaload, 889, [40], none), (889, .aload_n 0, 890, [], none), (890, .iload_n 3, 891, [], none), (891, .iconst 3, 892, [], none), (892, .iadd, 893, [], none), (893, .iaload, 894, [40], none), (894, .invokevirtual 110, 897, [135, 3, 1, 11, 1074, 1075, 1076, 222], none), (897, .aload_n 2, 898, [], none), (898, .aload_n 0, 899, [], none), (899, .iload_n 3, 900, [], none), (900, .iconst 1, 901, [], none), (901, .iadd, 902, [], none), (902, .iaload, 903, [40], none), (903, .aload_n 0, 904, [], none), (904, .iload_n 3, 905, [], none), (905, .iconst 2, 906, [], none), (906, .iadd, 907, [], none), (907, .iaload, 908, [40], none), (908, .aload_n 0, 909, [], none), (909, .iload_n 3, 910, [], none), (910, .iconst 3, 911, [], none), (911, .iadd, 912, [], none), (912, .iaload, 913, [40], none), (913, .invokevirtual 113, 916, [249, 3, 1, 12, 1077, 1078, 1079, 662], none), (916, .if_icmp .eq 272, 919, [1188], none), (919, .iconst 0, 920, [], none), (920, .ireturn, 921, [1], none), (921, .aload_n 1, 922, [], some [0, 1, 2, 3]), (922, .aload_n 0, 923, [], none), (923, .iload_n 3, 924, [], none), (924, .iconst 1, 925, [], none), (925, .iadd, 926, [], none), (926, .iaload, 927, [40], none), (927, .invokevirtual 114, 930, [136, 1, 1, 11, 1080, 1081, 1082, 222], none), (930, .aload_n 2, 931, [], none), (931, .aload_n 0, 932, [], none), (932, .iload_n 3, 933, [], none), (933, .iconst 1, 934, [], none), (934, .iadd, 935, [], none), (935, .iaload, 936, [40], none), (936, .invokevirtual 117, 939, [250, 1, 1, 12, 1083, 1084, 1085, 662], none), (939, .if_icmp .eq 249, 942, [1188], none), (942, .iconst 0, 943, [], none), (943, .ireturn, 944, [1], none), (944, .aload_n 1, 945, [], some [0, 1, 2, 3]), (945, .aload_n 0, 946, [], none), (946, .iload_n 3, 947, [], none), (947, .iconst 1, 948, [], none), (948, .iadd, 949, [], none), (949, .iaload, 950, [40], none), (950, .aload_n 0, 951, [], none), (951, .iload_n 3, 952, [], none), (952, .iconst 2, 953, [], none), (953, .iadd, 954, [], none), (954, .iaload, 955, [40], none), (955, .aload_n 0, 956, [], none), (956, .iload_n 3, 957, [], none), (957, .iconst 3, 958, [], none), (958, .iadd, 959, [], none), (959, .iaload, 960, [40], none), (960, .invokevirtual 118, 963, [137, 3, 1, 11, 1086, 1087, 1088, 222], none), (963, .aload_n 2, 964, [], none), (964, .aload_n 0, 965, [], none), (965, .iload_n 3, 966, [], none), (966, .iconst 1, 967, [], none), (967, .iadd, 968, [], none), (968, .iaload, 969, [40], none), (969, .aload_n 0, 970, [], none), (970, .iload_n 3, 971, [], none), (971, .iconst 2, 972, [], none), (972, .iadd, 973, [], none), (973, .iaload, 974, [40], none), (974, .aload_n 0, 975, [], none), (975, .iload_n 3, 976, [], none), (976, .iconst 3, 977, [], none), (977, .iadd, 978, [], none), (978, .iaload, 979, [40], none), (979, .invokevirtual 121, 982, [251, 3, 1, 12, 1089, 1090, 1091, 662], none), (982, .if_icmp .eq 206, 985, [1188], none), (985, .iconst 0, 986, [], none), (986, .ireturn, 987, [1], none), (987, .aload_n 1, 988, [], some [0, 1, 2, 3]), (988, .aload_n 0, 989, [], none), (989, .iload_n 3, 990, [], none), (990, .iconst 1, 991, [], none), (991, .iadd, 992, [], none), (992, .iaload, 993, [40], none), (993, .aload_n 0, 994, [], none), (994, .iload_n 3, 995, [], none), (995, .iconst 2, 996, [], none), (996, .iadd, 997, [], none), (997, .iaload, 998, [40], none), (998, .aload_n 0, 999, [], none), (999, .iload_n 3, 1000, [], none), (1000, .iconst 3, 1001, [], none), (1001, .iadd, 1002, [], none), (1002, .iaload, 1003, [40], none), (1003, .aload_n 0, 1004, [], none), (1004, .iload_n 3, 1005, [], none), (1005, .iconst 4, 1006, [], none), (1006, .iadd, 1007, [], none), (1007, .iaload, 1008, [40], none), (1008, .aload_n 0, 1009, [], none), (1009, .iload_n 3, 1010, [], none), (1010, .iconst 5, 1011, [], none), (1011, .iadd, 1012, [], none), (1012, .iaload, 1013, [40], none), (1013, .invokevirtual 122, 1016, [138, 5, 1, 11, 1092, 1093, 1094, 222], none), (1016, .aload_n 2, 1017, [], none), (1017, .aload_n 0, 1018, [], none), (1018, .iload_n 3, 1019, [], none), (1019, .iconst 1, 1020, [], none), (1020, .iadd, 1021, [], none), (1021, .iaload, 1022, [40], none), (1022, .aload_n 0, 1023, [], none), (1023, .iload_n 3, 1024, [], none), (1024, .iconst 2, 1025, [], none), (1025, .iadd, 1026, [], none), (1026, .iaload, 1027, [40], none), (1027, .aload_n 0, 1028, [], none), (1028, .iload_n 3, 1029, [], none), (1029, .iconst 3, 1030, [], none), (1030, .iadd, 1031, [], none), (1031, .iaload, 1032, [40], none), (1032, .aload_n 0, 1033, [], none), (1033, .iload_n 3, 1034, [], none), (1034, .iconst 4, 1035, [], none), (1035, .iadd, 1036, [], none), (1036, .iaload, 1037, [40], none), (1037, .aload_n 0, 1038, [], none), (1038, .iload_n 3, 1039, [], none), (1039, .iconst 5, 1040, [], none), (1040, .iadd, 1041, [], none), (1041, .iaload, 1042, [40], none), (1042, .invokevirtual 125, 1045, [253, 5, 1, 12, 1095, 1096, 1097, 662], none), (1045, .if_icmp .eq 143, 1048, [1188], none), (1048, .iconst 0, 1049, [], none), (1049, .ireturn, 1050, [1], none), (1050, .aload_n 1, 1051, [], some [0, 1, 2, 3]), (1051, .invokevirtual 126, 1054, [139, 0, 1, 11, 1098, 1099, 1100, 222], none), (1054, .aload_n 2, 1055, [], none), (1055, .invokevirtual 129, 1058, [254, 0, 1, 12, 1101, 1102, 1103, 662], none), (1058, .if_icmp .eq 130, 1061, [1188], none), (1061, .iconst 0, 1062, [], none), (1062, .ireturn, 1063, [1], none), (1063, .aload_n 1, 1064, [], some [0, 1, 2, 3]), (1064, .aload_n 0, 1065, [], none), (1065, .iload_n 3, 1066, [], none), (1066, .iconst 1, 1067, [], none), (1067, .iadd, 1068, [], none), (1068, .iaload, 1069, [40], none), (1069, .aload_n 0, 1070, [], none), (1070, .iload_n 3, 1071, [], none), (1071, .iconst 2, 1072, [], none), (1072, .iadd, 1073, [], none), (1073, .iaload, 1074, [40], none), (1074, .invokevirtual 130, 1077, [140, 2, 1, 11, 1104, 1105, 1106, 222], none), (1077, .aload_n 2, 1078, [], none), (1078, .aload_n 0, 1079, [], none), (1079, .iload_n 3, 1080, [], none), (1080, .iconst 1, 1081, [], none), (1081, .iadd, 1082, [], none), (1082, .iaload, 1083, [40], none), (1083, .aload_n 0, 1084, [], none), (1084, .iload_n 3, 1085, [], none), (1085, .iconst 2, 1086, [], none), (1086, .iadd, 1087, [], none), (1087, .iaload, 1088, [40], none), (1088, .invokevirtual 133, 1091, [257, 2, 1, 12, 1107, 1108, 1109, 662], none), (1091, .if_icmp .eq 97, 1094, [1188], none), (1094, .iconst 0, 1095, [], none), (1095, .ireturn, 1096, [1], none), (1096, .aload_n 1, 1097, [], some [0, 1, 2, 3]), (1097, .aload_n 0, 1098, [], none), (1098, .iload_n 3, 1099, [], none), (1099, .iconst 1, 1100, [], none), (1100, .iadd, 1101, [], none), (1101, .iaload, 1102, [40], none), (1102, .invokevirtual 134, 1105, [141, 1, 1, 11, 1110, 1111, 1112, 222], none), (1105, .aload_n 2, 1106, [], none), (1106, .aload_n 0, 1107, [], none), (1107, .iload_n 3, 1108, [], none), (1108, .iconst 1, 1109, [], none), (1109, .iadd, 1110, [], none), (1110, .iaload, 1111, [40], none), (1111, .invokevirtual 137, 1114, [258, 1, 1, 12, 1113, 1114, 1115, 662], none), (1114, .if_icmp .eq 74, 1117, [1188], none), (1117, .iconst 0, 1118, [], none), (1118, .ireturn, 1119, [1], none), (1119, .aload_n 1, 1120, [], some [0, 1, 2, 3]), (1120, .aload_n 0, 1121, [], none), (1121, .iload_n 3, 1122, [], none), (1122, .iconst 1, 1123, [], none), (1123, .iadd, 1124, [], none), (1124, .iaload, 1125, [40], none), (1125, .invokevirtual 138, 1128, [142, 1, 1, 11, 1116, 1117, 1118, 222], none), (1128, .aload_n 2, 1129, [], none), (1129, .aload_n 0, 1130, [], none), (1130, .iload_n 3, 1131, [], none), (1131, .iconst 1, 1132, [], none), (1132, .iadd, 1133, [], none), (1133, .iaload, 1134, [40], none), (1134, .invokevirtual 142, 1137, [259, 1, 1, 12, 1119, 1120, 1121, 662], none), (1137, .if_icmp .eq 51, 1140, [1188], none), (1140, .iconst 0, 1141, [], none), (1141, .ireturn, 1142, [1], none), (1142, .aload_n 1, 1143, [], some [0, 1, 2, 3]), (1143, .aload_n 0, 1144, [], none), (1144, .iload_n 3, 1145, [], none), (1145, .iconst 1, 1146, [], none), (1146, .iadd, 1147, [], none), (1147, .iaload, 1148, [40], none), (1148, .invokevirtual 143, 1151, [143, 1, 1, 11, 1122, 1123, 1124, 222], none), (1151, .aload_n 2, 1152, [], none), (1152, .aload_n 0, 1153, [], none), (1153, .iload_n 3, 1154, [], none), (1154, .iconst 1, 1155, [], none), (1155, .iadd, 1156, [], none), (1156, .iaload, 1157, [40], none), (1157, .invokevirtual 146, 1160, [260, 1, 1, 12, 1125, 1126, 1127, 662], none), (1160, .if_icmp .eq 28, 1163, [1188], none), (1163, .iconst 0, 1164, [], none), (1164, .ireturn, 1165, [1], none), (1165, .aload_n 1, 1166, [], some [0, 1, 2, 3]), (1166, .aload_n 0, 1167, [], none), (1167, .iload_n 3, 1168, [], none), (1168, .iconst 1, 1169, [], none), (1169, .iadd, 1170, [], none), (1170, .iaload, 1171, [40], none), (1171, .invokevirtual 147, 1174, [144, 1, 1, 11, 1128, 1129, 1130, 222], none), (1174, .aload_n 2, 1175, [], none), (1175, .aload_n 0, 1176, [], none), (1176, .iload_n 3, 1177, [], none), (1177, .iconst 1, 1178, [], none), (1178, .iadd, 1179, [], none), (1179, .iaload, 1180, [40], none), (1180, .invokevirtual 150, 1183, [261, 1, 1, 12, 1131, 1132, 1133, 662], none), (1183, .if_icmp .eq 5, 1186, [1188], none), (1186, .iconst 0, 1187, [], none), (1187, .ireturn, 1188, [1], none), (1188, .iinc 3 6, 1191, [], some [0, 1, 2, 3]), (1191, .goto (-1173), 1194, [18], none), (1194, .iconst 1, 1195, [], some []), (1195, .ireturn, 1196, [1], none)]
def zcodL : List (List zE) := [zc_X9_init, zc_X9_size, zc_X9_has, zc_X9_isFull, zc_X9_clear, zc_X9_at, zc_X9_put, zc_X9_add, zc_X9_become, zc_X3_init, zc_X3_clear, zc_X3_become, zc_X3_begin, zc_X3_startOf, zc_X3_add, zc_X3_addLess, zc_X3_goHereFrom, zc_X3_cell, zc_X3_size, zc_X8_init, zc_X8_clear, zc_X8_become, zc_X8_loadsThat, zc_X8_up, zc_X8_stored, zc_X8_isLoadAtFoot, zc_X8_isSilkAtFoot, zc_X8_isReady, zc_X8_letGo, zc_X8_bringDown, zc_X8_nearestHook, zc_X8_hooksReaching, zc_X5_init, zc_X5_clear, zc_X5_become, zc_X10_init, zc_X10_scan, zc_X10_kindAt, zc_X10_placeAt, zc_X10_valueAt, zc_X10_scanOne, zc_X10_add, zc_X10_byteAt, zc_X10_isBlank, zc_X10_isLetter, zc_X10_isDigit, zc_X10_withLetter, zc_X10_scanLetters, zc_X10_kindOf, zc_X10_scanDigits, zc_X6_init, zc_X6_faultPlace, zc_X6_faultOf, zc_X6_statement, zc_X6_loadStatement, zc_X6_silkStatement, zc_X6_hookStatement, zc_X6_setting, zc_X6_lawStatement, zc_X6_sum, zc_X6_product, zc_X6_unit, zc_X6_take, zc_X6_takeFirst, zc_X6_takeName, zc_X6_takeNumber, zc_X6_fail, zc_X6_failLate, zc_X7_init, zc_X7_begin, zc_X7_lift, zc_X7_wind, zc_X7_ties, zc_X7_pays, zc_X7_look, zc_X7_valueOf, zc_X7_varOf, zc_X7_onStack, zc_X7_joined, zc_X0_init, zc_X0_isGust, zc_X0_stirred, zc_X0_pass, zc_X0_passOne, zc_X0_drift, zc_X0_comeToRim, zc_X0_busyHooks, zc_X1_init, zc_X1_isAtRim, zc_X1_fly, zc_X1_go, zc_X1_endAt, zc_X2_init, zc_X2_weigh, zc_X2_gainOf, zc_X2_bestFrom, zc_X2_sumBy, zc_X2_most, zc_X2_silkOf, zc_X2_firstBest, zc_X2_findHooks, zc_X2_hooksFor, zc_X2_isServedBy, zc_X4_init, zc_X4_clear, zc_X4_depth, zc_X4_held, zc_X4_keep, zc_X4_undoInto, zc_X4_isSlot, zc_X4_holdIn, zc_X4_restoreFrom, zc_X11_init, zc_X11_feed, zc_X11_back, zc_X11_read, zc_X11_place, zc_X11_load, zc_X11_silk, zc_X11_pull, zc_X11_hook, zc_X11_tells, zc_X11_tie, zc_X11_move, zc_X11_patch, zc_X11_hours, zc_X11_undo, zc_X11_flight, zc_X11_soon, zc_X11_patches, zc_X11_near, zc_X11_lifts, zc_X11_fill, zc_X11_fewest, zc_X11_waits, zc_X11_then, zc_X11_earns, zc_X11_year, zc_X11_tell, zc_X11_forget, zc_X11_pulls, zc_X11_sure, zc_X11_hold, zc_X11_restore, zc_X11_count, zc_X11_isWithin, zc_X11_keptWithin, zc_X11_appendBytes, zc_X11_isPair, zc_X11_comesTo, zc_X11_gainBehind, zc_X11_tryHours, zc_X11_bitOf, zc_X11_pullsKnownBy, zc_X11_fitsKnown, zc_X12_init, zc_X12_feed, zc_X12_put, zc_X12_back, zc_X12_byteAt, zc_X12_isDigit, zc_X12_isLetter, zc_X12_appends, zc_X12_word, zc_X12_token, zc_X12_cut, zc_X12_sign, zc_X12_is, zc_X12_fail, zc_X12_wrong, zc_X12_goesOn, zc_X12_must, zc_X12_plain, zc_X12_read, zc_X12_place, zc_X12_roomFor, zc_X12_toldInt, zc_X12_tellOne, zc_X12_named, zc_X12_ends, zc_X12_bounded, zc_X12_tellLoad, zc_X12_tellSilk, zc_X12_tellHook, zc_X12_tellLaw, zc_X12_term, zc_X12_emit, zc_X12_comesOut, zc_X12_expression, zc_X12_unit, zc_X12_termOf, zc_X12_in, zc_X12_held, zc_X12_bits, zc_X12_off, zc_X12_isLoad, zc_X12_isSilk, zc_X12_isHook, zc_X12_begins, zc_X12_keepsRow, zc_X12_copies, zc_X12_mixed, zc_X12_isGust, zc_X12_loadsSo, zc_X12_upNow, zc_X12_looks, zc_X12_lawTells, zc_X12_liftBy, zc_X12_windBy, zc_X12_tiesBy, zc_X12_paysBy, zc_X12_hookAt, zc_X12_handsFree, zc_X12_isDown, zc_X12_comesUp, zc_X12_looksOn, zc_X12_hourGoes, zc_X12_goes, zc_X12_load, zc_X12_silk, zc_X12_pull, zc_X12_hook, zc_X12_tells, zc_X12_records, zc_X12_areAtFoot, zc_X12_areBoth, zc_X12_tie, zc_X12_move, zc_X12_patch, zc_X12_hours, zc_X12_undo, zc_X12_beginsFlight, zc_X12_flies, zc_X12_fliesOn, zc_X12_fliesFrom, zc_X12_flight, zc_X12_soon, zc_X12_patches, zc_X12_near, zc_X12_lifts, zc_X12_sixes, zc_X12_fillsBrings, zc_X12_isWay, zc_X12_bringsAll, zc_X12_fill, zc_X12_hooksFor, zc_X12_fewest, zc_X12_waits, zc_X12_isLong, zc_X12_then, zc_X12_earns, zc_X12_year, zc_X12_isDigit9, zc_X12_tell, zc_X12_forget, zc_X12_isSo, zc_X12_pullBits, zc_X12_pulls, zc_X12_sure, zc_X12_hold, zc_X12_restore, zc_X12_count, zc_J0_length_8abf5, zc_J0_coder_7d493, zc_J0_charAt_5068e, zc_J0_isLatin1_aae02, zc_J1_charAt_3b067, zc_J0_checkIndex_df160, zc_J3_checkIndex_8e157, zc_J0_indexOf_0f7a4, zc_J0_indexOf_7cf53, zc_J1_indexOf_4cfef, zc_J1_canEncode_9a6ad, zc_J1_indexOfChar_4cfef, zc_J9_max_7cf53, zc_J9_min_7cf53, zc_J9_abs_0f7a4, zc_J6_bitCount_0f7a4]
end
section
abbrev zI : Type := MethodName × ByteArray × Nat × Option FieldType
def zinf_0 : List zI := [(⟨"SilkRise$Things", "<init>", "(II)V"⟩, prog_11_method_1_code, 3, none), (⟨"SilkRise$Things", "size", "()I"⟩, prog_11_method_2_code, 1, (some .int)), (⟨"SilkRise$Things", "has", "(I)Z"⟩, prog_11_method_3_code, 2, (some .boolean)), (⟨"SilkRise$Things", "isFull", "()Z"⟩, prog_11_method_4_code, 1, (some .boolean)), (⟨"SilkRise$Things", "clear", "()V"⟩, prog_11_method_5_code, 1, none), (⟨"SilkRise$Things", "at", "(II)I"⟩, prog_11_method_6_code, 3, (some .int)), (⟨"SilkRise$Things", "put", "(III)V"⟩, prog_11_method_7_code, 4, none), (⟨"SilkRise$Things", "add", "()I"⟩, prog_11_method_8_code, 2, (some .int)), (⟨"SilkRise$Things", "become", "(LSilkRise$Things;)V"⟩, prog_11_method_9_code, 2, none), (⟨"SilkRise$Laws", "<init>", "()V"⟩, prog_5_method_1_code, 1, none)]
def zinf_1 : List zI := [(⟨"SilkRise$Laws", "clear", "()V"⟩, prog_5_method_2_code, 1, none), (⟨"SilkRise$Laws", "become", "(LSilkRise$Laws;)V"⟩, prog_5_method_3_code, 2, none), (⟨"SilkRise$Laws", "begin", "(I)V"⟩, prog_5_method_4_code, 2, none), (⟨"SilkRise$Laws", "startOf", "(I)I"⟩, prog_5_method_5_code, 2, (some .int)), (⟨"SilkRise$Laws", "add", "(I)V"⟩, prog_5_method_6_code, 2, none), (⟨"SilkRise$Laws", "addLess", "()I"⟩, prog_5_method_7_code, 1, (some .int)), (⟨"SilkRise$Laws", "goHereFrom", "(I)V"⟩, prog_5_method_8_code, 2, none), (⟨"SilkRise$Laws", "cell", "(I)I"⟩, prog_5_method_9_code, 2, (some .int)), (⟨"SilkRise$Laws", "size", "()I"⟩, prog_5_method_10_code, 1, (some .int)), (⟨"SilkRise$State", "<init>", "()V"⟩, prog_10_method_1_code, 1, none)]
def zinf_2 : List zI := [(⟨"SilkRise$State", "clear", "()V"⟩, prog_10_method_2_code, 1, none), (⟨"SilkRise$State", "become", "(LSilkRise$State;)V"⟩, prog_10_method_3_code, 2, none), (⟨"SilkRise$State", "loadsThat", "(I)I"⟩, prog_10_method_4_code, 4, (some .int)), (⟨"SilkRise$State", "up", "()I"⟩, prog_10_method_5_code, 1, (some .int)), (⟨"SilkRise$State", "stored", "()I"⟩, prog_10_method_6_code, 1, (some .int)), (⟨"SilkRise$State", "isLoadAtFoot", "(I)Z"⟩, prog_10_method_7_code, 2, (some .boolean)), (⟨"SilkRise$State", "isSilkAtFoot", "(I)Z"⟩, prog_10_method_8_code, 2, (some .boolean)), (⟨"SilkRise$State", "isReady", "(II)Z"⟩, prog_10_method_9_code, 3, (some .boolean)), (⟨"SilkRise$State", "letGo", "(II)V"⟩, prog_10_method_10_code, 3, none), (⟨"SilkRise$State", "bringDown", "(II)V"⟩, prog_10_method_11_code, 3, none)]
def zinf_3 : List zI := [(⟨"SilkRise$State", "nearestHook", "(II)I"⟩, prog_10_method_12_code, 7, (some .int)), (⟨"SilkRise$State", "hooksReaching", "(I)I"⟩, prog_10_method_13_code, 4, (some .int)), (⟨"SilkRise$Plan", "<init>", "()V"⟩, prog_7_method_1_code, 1, none), (⟨"SilkRise$Plan", "clear", "()V"⟩, prog_7_method_2_code, 1, none), (⟨"SilkRise$Plan", "become", "(LSilkRise$Plan;)V"⟩, prog_7_method_3_code, 2, none), (⟨"SilkRise$Tokens", "<init>", "()V"⟩, prog_12_method_1_code, 4, none), (⟨"SilkRise$Tokens", "scan", "([BI)V"⟩, prog_12_method_2_code, 4, none), (⟨"SilkRise$Tokens", "kindAt", "(I)I"⟩, prog_12_method_3_code, 2, (some .int)), (⟨"SilkRise$Tokens", "placeAt", "(I)I"⟩, prog_12_method_4_code, 2, (some .int)), (⟨"SilkRise$Tokens", "valueAt", "(I)J"⟩, prog_12_method_5_code, 2, (some .long))]
def zinf_4 : List zI := [(⟨"SilkRise$Tokens", "scanOne", "()V"⟩, prog_12_method_6_code, 2, none), (⟨"SilkRise$Tokens", "add", "(IIJ)V"⟩, prog_12_method_7_code, 5, none), (⟨"SilkRise$Tokens", "byteAt", "(I)I"⟩, prog_12_method_8_code, 2, (some .int)), (⟨"SilkRise$Tokens", "isBlank", "(I)Z"⟩, prog_12_method_9_code, 1, (some .boolean)), (⟨"SilkRise$Tokens", "isLetter", "(I)Z"⟩, prog_12_method_10_code, 1, (some .boolean)), (⟨"SilkRise$Tokens", "isDigit", "(I)Z"⟩, prog_12_method_11_code, 1, (some .boolean)), (⟨"SilkRise$Tokens", "withLetter", "(JI)J"⟩, prog_12_method_12_code, 3, (some .long)), (⟨"SilkRise$Tokens", "scanLetters", "()V"⟩, prog_12_method_13_code, 4, none), (⟨"SilkRise$Tokens", "kindOf", "(J)I"⟩, prog_12_method_14_code, 4, (some .int)), (⟨"SilkRise$Tokens", "scanDigits", "()V"⟩, prog_12_method_15_code, 3, none)]
def zinf_5 : List zI := [(⟨"SilkRise$Reader", "<init>", "(LSilkRise$Plan;)V"⟩, prog_8_method_1_code, 2, none), (⟨"SilkRise$Reader", "faultPlace", "()I"⟩, prog_8_method_2_code, 1, (some .int)), (⟨"SilkRise$Reader", "faultOf", "([BI)I"⟩, prog_8_method_3_code, 4, (some .int)), (⟨"SilkRise$Reader", "statement", "()V"⟩, prog_8_method_4_code, 1, none), (⟨"SilkRise$Reader", "loadStatement", "()V"⟩, prog_8_method_5_code, 3, none), (⟨"SilkRise$Reader", "silkStatement", "()V"⟩, prog_8_method_6_code, 4, none), (⟨"SilkRise$Reader", "hookStatement", "()V"⟩, prog_8_method_7_code, 3, none), (⟨"SilkRise$Reader", "setting", "(II)I"⟩, prog_8_method_8_code, 3, (some .int)), (⟨"SilkRise$Reader", "lawStatement", "(I)V"⟩, prog_8_method_9_code, 4, none), (⟨"SilkRise$Reader", "sum", "(I)V"⟩, prog_8_method_10_code, 4, none)]
def zinf_6 : List zI := [(⟨"SilkRise$Reader", "product", "(I)V"⟩, prog_8_method_11_code, 4, none), (⟨"SilkRise$Reader", "unit", "(I)V"⟩, prog_8_method_12_code, 3, none), (⟨"SilkRise$Reader", "take", "(I)Z"⟩, prog_8_method_13_code, 2, (some .boolean)), (⟨"SilkRise$Reader", "takeFirst", "(LSilkRise$Things;)V"⟩, prog_8_method_14_code, 2, none), (⟨"SilkRise$Reader", "takeName", "()V"⟩, prog_8_method_15_code, 5, none), (⟨"SilkRise$Reader", "takeNumber", "(III)I"⟩, prog_8_method_16_code, 6, (some .int)), (⟨"SilkRise$Reader", "fail", "(I)V"⟩, prog_8_method_17_code, 2, none), (⟨"SilkRise$Reader", "failLate", "(II)V"⟩, prog_8_method_18_code, 3, none), (⟨"SilkRise$Sky", "<init>", "(LSilkRise$Laws;)V"⟩, prog_9_method_1_code, 2, none), (⟨"SilkRise$Sky", "begin", "(III)V"⟩, prog_9_method_2_code, 4, none)]
def zinf_7 : List zI := [(⟨"SilkRise$Sky", "lift", "(IIII)I"⟩, prog_9_method_3_code, 5, (some .int)), (⟨"SilkRise$Sky", "wind", "(II)I"⟩, prog_9_method_4_code, 3, (some .int)), (⟨"SilkRise$Sky", "ties", "(II)I"⟩, prog_9_method_5_code, 3, (some .int)), (⟨"SilkRise$Sky", "pays", "(II)I"⟩, prog_9_method_6_code, 3, (some .int)), (⟨"SilkRise$Sky", "look", "(IIIII)V"⟩, prog_9_method_7_code, 6, none), (⟨"SilkRise$Sky", "valueOf", "(I)I"⟩, prog_9_method_8_code, 8, (some .int)), (⟨"SilkRise$Sky", "varOf", "(I)I"⟩, prog_9_method_9_code, 3, (some .int)), (⟨"SilkRise$Sky", "onStack", "(I)I"⟩, prog_9_method_10_code, 2, (some .int)), (⟨"SilkRise$Sky", "joined", "(III)I"⟩, prog_9_method_11_code, 3, (some .int)), (⟨"SilkRise$Air", "<init>", "(LSilkRise$Plan;LSilkRise$Sky;)V"⟩, prog_2_method_1_code, 3, none)]
def zinf_8 : List zI := [(⟨"SilkRise$Air", "isGust", "(II)Z"⟩, prog_2_method_2_code, 4, (some .boolean)), (⟨"SilkRise$Air", "stirred", "(II)I"⟩, prog_2_method_3_code, 3, (some .int)), (⟨"SilkRise$Air", "pass", "(LSilkRise$State;II)V"⟩, prog_2_method_4_code, 5, none), (⟨"SilkRise$Air", "passOne", "(LSilkRise$State;Z)V"⟩, prog_2_method_5_code, 6, none), (⟨"SilkRise$Air", "drift", "(LSilkRise$State;IZ)V"⟩, prog_2_method_6_code, 11, none), (⟨"SilkRise$Air", "comeToRim", "(LSilkRise$State;I)V"⟩, prog_2_method_7_code, 4, none), (⟨"SilkRise$Air", "busyHooks", "(LSilkRise$State;)I"⟩, prog_2_method_8_code, 4, (some .int)), (⟨"SilkRise$Course", "<init>", "(LSilkRise$Plan;LSilkRise$State;LSilkRise$Sky;)V"⟩, prog_3_method_1_code, 4, none), (⟨"SilkRise$Course", "isAtRim", "()Z"⟩, prog_3_method_2_code, 1, (some .boolean)), (⟨"SilkRise$Course", "fly", "(IIII)V"⟩, prog_3_method_3_code, 6, none)]
def zinf_9 : List zI := [(⟨"SilkRise$Course", "go", "(IIIIII)V"⟩, prog_3_method_4_code, 12, none), (⟨"SilkRise$Course", "endAt", "(II)V"⟩, prog_3_method_5_code, 3, none), (⟨"SilkRise$Filling", "<init>", "(LSilkRise$State;LSilkRise$Sky;LSilkRise$Course;)V"⟩, prog_4_method_1_code, 4, none), (⟨"SilkRise$Filling", "weigh", "()V"⟩, prog_4_method_2_code, 3, none), (⟨"SilkRise$Filling", "gainOf", "(II)I"⟩, prog_4_method_3_code, 3, (some .int)), (⟨"SilkRise$Filling", "bestFrom", "(II)I"⟩, prog_4_method_4_code, 5, (some .int)), (⟨"SilkRise$Filling", "sumBy", "(III)I"⟩, prog_4_method_5_code, 4, (some .int)), (⟨"SilkRise$Filling", "most", "()I"⟩, prog_4_method_6_code, 1, (some .int)), (⟨"SilkRise$Filling", "silkOf", "(I)I"⟩, prog_4_method_7_code, 5, (some .int)), (⟨"SilkRise$Filling", "firstBest", "(II)I"⟩, prog_4_method_8_code, 4, (some .int))]
def zinf_10 : List zI := [(⟨"SilkRise$Filling", "findHooks", "()V"⟩, prog_4_method_9_code, 3, none), (⟨"SilkRise$Filling", "hooksFor", "(II)I"⟩, prog_4_method_10_code, 3, (some .int)), (⟨"SilkRise$Filling", "isServedBy", "(I)Z"⟩, prog_4_method_11_code, 3, (some .boolean)), (⟨"SilkRise$Past", "<init>", "()V"⟩, prog_6_method_1_code, 2, none), (⟨"SilkRise$Past", "clear", "()V"⟩, prog_6_method_2_code, 1, none), (⟨"SilkRise$Past", "depth", "()I"⟩, prog_6_method_3_code, 1, (some .int)), (⟨"SilkRise$Past", "held", "()I"⟩, prog_6_method_4_code, 1, (some .int)), (⟨"SilkRise$Past", "keep", "(LSilkRise$State;)V"⟩, prog_6_method_5_code, 2, none), (⟨"SilkRise$Past", "undoInto", "(LSilkRise$State;)Z"⟩, prog_6_method_6_code, 3, (some .boolean)), (⟨"SilkRise$Past", "isSlot", "(I)Z"⟩, prog_6_method_7_code, 2, (some .boolean))]
def zinf_11 : List zI := [(⟨"SilkRise$Past", "holdIn", "(ILSilkRise$State;)Z"⟩, prog_6_method_8_code, 3, (some .boolean)), (⟨"SilkRise$Past", "restoreFrom", "(ILSilkRise$State;)Z"⟩, prog_6_method_9_code, 3, (some .boolean)), (⟨"SilkRise", "<init>", "()V"⟩, prog_1_method_1_code, 1, none), (⟨"SilkRise", "feed", "(IIIII)I"⟩, prog_1_method_2_code, 6, (some .int)), (⟨"SilkRise", "back", "(I)I"⟩, prog_1_method_3_code, 2, (some .int)), (⟨"SilkRise", "read", "()I"⟩, prog_1_method_4_code, 2, (some .int)), (⟨"SilkRise", "place", "()I"⟩, prog_1_method_5_code, 1, (some .int)), (⟨"SilkRise", "load", "(II)I"⟩, prog_1_method_6_code, 3, (some .int)), (⟨"SilkRise", "silk", "(II)I"⟩, prog_1_method_7_code, 3, (some .int)), (⟨"SilkRise", "pull", "(I)I"⟩, prog_1_method_8_code, 2, (some .int))]
def zinf_12 : List zI := [(⟨"SilkRise", "hook", "(II)I"⟩, prog_1_method_9_code, 3, (some .int)), (⟨"SilkRise", "tells", "(III)I"⟩, prog_1_method_10_code, 7, (some .int)), (⟨"SilkRise", "tie", "(II)I"⟩, prog_1_method_11_code, 4, (some .int)), (⟨"SilkRise", "move", "(II)Z"⟩, prog_1_method_12_code, 3, (some .boolean)), (⟨"SilkRise", "patch", "(IZ)Z"⟩, prog_1_method_13_code, 4, (some .boolean)), (⟨"SilkRise", "hours", "(I)I"⟩, prog_1_method_14_code, 2, (some .int)), (⟨"SilkRise", "undo", "()Z"⟩, prog_1_method_15_code, 1, (some .boolean)), (⟨"SilkRise", "flight", "(IIII)I"⟩, prog_1_method_16_code, 5, (some .int)), (⟨"SilkRise", "soon", "(III)I"⟩, prog_1_method_17_code, 6, (some .int)), (⟨"SilkRise", "patches", "(III)I"⟩, prog_1_method_18_code, 6, (some .int))]
def zinf_13 : List zI := [(⟨"SilkRise", "near", "(I)I"⟩, prog_1_method_19_code, 2, (some .int)), (⟨"SilkRise", "lifts", "(II)I"⟩, prog_1_method_20_code, 6, (some .int)), (⟨"SilkRise", "fill", "(I)I"⟩, prog_1_method_21_code, 2, (some .int)), (⟨"SilkRise", "fewest", "()I"⟩, prog_1_method_22_code, 6, (some .int)), (⟨"SilkRise", "waits", "(III)I"⟩, prog_1_method_23_code, 8, (some .int)), (⟨"SilkRise", "then", "(III)I"⟩, prog_1_method_24_code, 4, (some .int)), (⟨"SilkRise", "earns", "(I)I"⟩, prog_1_method_25_code, 2, (some .int)), (⟨"SilkRise", "year", "(III)I"⟩, prog_1_method_26_code, 6, (some .int)), (⟨"SilkRise", "tell", "(IIIII)I"⟩, prog_1_method_27_code, 8, (some .int)), (⟨"SilkRise", "forget", "()I"⟩, prog_1_method_28_code, 2, (some .int))]
def zinf_14 : List zI := [(⟨"SilkRise", "pulls", "(II)I"⟩, prog_1_method_29_code, 4, (some .int)), (⟨"SilkRise", "sure", "(I)I"⟩, prog_1_method_30_code, 4, (some .int)), (⟨"SilkRise", "hold", "(I)Z"⟩, prog_1_method_31_code, 2, (some .boolean)), (⟨"SilkRise", "restore", "(I)Z"⟩, prog_1_method_32_code, 2, (some .boolean)), (⟨"SilkRise", "count", "(I)I"⟩, prog_1_method_33_code, 2, (some .int)), (⟨"SilkRise", "isWithin", "(III)Z"⟩, prog_1_method_34_code, 3, (some .boolean)), (⟨"SilkRise", "keptWithin", "(III)I"⟩, prog_1_method_35_code, 3, (some .int)), (⟨"SilkRise", "appendBytes", "(I)V"⟩, prog_1_method_36_code, 3, none), (⟨"SilkRise", "isPair", "(II)Z"⟩, prog_1_method_37_code, 3, (some .boolean)), (⟨"SilkRise", "comesTo", "(IIII)Z"⟩, prog_1_method_38_code, 5, (some .boolean))]
def zinf_15 : List zI := [(⟨"SilkRise", "gainBehind", "(III)I"⟩, prog_1_method_39_code, 5, (some .int)), (⟨"SilkRise", "tryHours", "(II)V"⟩, prog_1_method_40_code, 3, none), (⟨"SilkRise", "bitOf", "(I)I"⟩, prog_1_method_41_code, 1, (some .int)), (⟨"SilkRise", "pullsKnownBy", "(I)I"⟩, prog_1_method_42_code, 4, (some .int)), (⟨"SilkRise", "fitsKnown", "(II)Z"⟩, prog_1_method_43_code, 4, (some .boolean)), (⟨"SilkRiseModel", "<init>", "()V"⟩, prog_14_method_2_code, 1, none), (⟨"SilkRiseModel", "feed", "(IIIII)I"⟩, prog_14_method_3_code, 6, (some .int)), (⟨"SilkRiseModel", "put", "(I)V"⟩, prog_14_method_4_code, 3, none), (⟨"SilkRiseModel", "back", "(I)I"⟩, prog_14_method_5_code, 2, (some .int)), (⟨"SilkRiseModel", "byteAt", "(I)I"⟩, prog_14_method_6_code, 2, (some .int))]
def zinf_16 : List zI := [(⟨"SilkRiseModel", "isDigit", "(I)Z"⟩, prog_14_method_7_code, 1, (some .boolean)), (⟨"SilkRiseModel", "isLetter", "(I)Z"⟩, prog_14_method_8_code, 1, (some .boolean)), (⟨"SilkRiseModel", "appends", "(JI)J"⟩, prog_14_method_9_code, 3, (some .long)), (⟨"SilkRiseModel", "word", "(IIIIIII)J"⟩, prog_14_method_10_code, 7, (some .long)), (⟨"SilkRiseModel", "token", "(IIIJ)V"⟩, prog_14_method_11_code, 6, none), (⟨"SilkRiseModel", "cut", "()V"⟩, prog_14_method_12_code, 8, none), (⟨"SilkRiseModel", "sign", "(III)I"⟩, prog_14_method_13_code, 5, (some .int)), (⟨"SilkRiseModel", "is", "(I)Z"⟩, prog_14_method_14_code, 2, (some .boolean)), (⟨"SilkRiseModel", "fail", "(I)V"⟩, prog_14_method_15_code, 2, none), (⟨"SilkRiseModel", "wrong", "(II)V"⟩, prog_14_method_16_code, 4, none)]
def zinf_17 : List zI := [(⟨"SilkRiseModel", "goesOn", "()V"⟩, prog_14_method_17_code, 1, none), (⟨"SilkRiseModel", "must", "(I)V"⟩, prog_14_method_18_code, 2, none), (⟨"SilkRiseModel", "plain", "(I)V"⟩, prog_14_method_19_code, 3, none), (⟨"SilkRiseModel", "read", "()I"⟩, prog_14_method_20_code, 2, (some .int)), (⟨"SilkRiseModel", "place", "()I"⟩, prog_14_method_21_code, 1, (some .int)), (⟨"SilkRiseModel", "roomFor", "(II)V"⟩, prog_14_method_22_code, 3, none), (⟨"SilkRiseModel", "toldInt", "(II)I"⟩, prog_14_method_23_code, 4, (some .int)), (⟨"SilkRiseModel", "tellOne", "()V"⟩, prog_14_method_24_code, 2, none), (⟨"SilkRiseModel", "named", "()I"⟩, prog_14_method_25_code, 3, (some .int)), (⟨"SilkRiseModel", "ends", "(I)V"⟩, prog_14_method_26_code, 2, none)]
def zinf_18 : List zI := [(⟨"SilkRiseModel", "bounded", "(II)I"⟩, prog_14_method_27_code, 4, (some .int)), (⟨"SilkRiseModel", "tellLoad", "()V"⟩, prog_14_method_28_code, 3, none), (⟨"SilkRiseModel", "tellSilk", "()V"⟩, prog_14_method_29_code, 5, none), (⟨"SilkRiseModel", "tellHook", "()V"⟩, prog_14_method_30_code, 3, none), (⟨"SilkRiseModel", "tellLaw", "(I)V"⟩, prog_14_method_31_code, 4, none), (⟨"SilkRiseModel", "term", "()V"⟩, prog_14_method_32_code, 1, none), (⟨"SilkRiseModel", "emit", "(II)V"⟩, prog_14_method_33_code, 3, none), (⟨"SilkRiseModel", "comesOut", "(Z)V"⟩, prog_14_method_34_code, 3, none), (⟨"SilkRiseModel", "expression", "()V"⟩, prog_14_method_35_code, 3, none), (⟨"SilkRiseModel", "unit", "()V"⟩, prog_14_method_36_code, 1, none)]
def zinf_19 : List zI := [(⟨"SilkRiseModel", "termOf", "(II)I"⟩, prog_14_method_37_code, 8, (some .int)), (⟨"SilkRiseModel", "in", "(III)Z"⟩, prog_14_method_38_code, 3, (some .boolean)), (⟨"SilkRiseModel", "held", "(III)I"⟩, prog_14_method_39_code, 3, (some .int)), (⟨"SilkRiseModel", "bits", "(I)I"⟩, prog_14_method_40_code, 3, (some .int)), (⟨"SilkRiseModel", "off", "(II)I"⟩, prog_14_method_41_code, 2, (some .int)), (⟨"SilkRiseModel", "isLoad", "(I)Z"⟩, prog_14_method_42_code, 2, (some .boolean)), (⟨"SilkRiseModel", "isSilk", "(I)Z"⟩, prog_14_method_43_code, 2, (some .boolean)), (⟨"SilkRiseModel", "isHook", "(I)Z"⟩, prog_14_method_44_code, 2, (some .boolean)), (⟨"SilkRiseModel", "begins", "()V"⟩, prog_14_method_45_code, 2, none), (⟨"SilkRiseModel", "keepsRow", "()V"⟩, prog_14_method_46_code, 2, none)]
def zinf_20 : List zI := [(⟨"SilkRiseModel", "copies", "()V"⟩, prog_14_method_47_code, 2, none), (⟨"SilkRiseModel", "mixed", "(II)I"⟩, prog_14_method_48_code, 3, (some .int)), (⟨"SilkRiseModel", "isGust", "()Z"⟩, prog_14_method_49_code, 1, (some .boolean)), (⟨"SilkRiseModel", "loadsSo", "(I)I"⟩, prog_14_method_50_code, 4, (some .int)), (⟨"SilkRiseModel", "upNow", "()I"⟩, prog_14_method_51_code, 1, (some .int)), (⟨"SilkRiseModel", "looks", "(II)V"⟩, prog_14_method_52_code, 4, none), (⟨"SilkRiseModel", "lawTells", "(II)I"⟩, prog_14_method_53_code, 7, (some .int)), (⟨"SilkRiseModel", "liftBy", "(IIIIII)I"⟩, prog_14_method_54_code, 7, (some .int)), (⟨"SilkRiseModel", "windBy", "(IIII)I"⟩, prog_14_method_55_code, 5, (some .int)), (⟨"SilkRiseModel", "tiesBy", "(IIII)I"⟩, prog_14_method_56_code, 5, (some .int))]
def zinf_21 : List zI := [(⟨"SilkRiseModel", "paysBy", "(III)I"⟩, prog_14_method_57_code, 4, (some .int)), (⟨"SilkRiseModel", "hookAt", "(I)I"⟩, prog_14_method_58_code, 5, (some .int)), (⟨"SilkRiseModel", "handsFree", "()V"⟩, prog_14_method_59_code, 2, none), (⟨"SilkRiseModel", "isDown", "(II)V"⟩, prog_14_method_60_code, 3, none), (⟨"SilkRiseModel", "comesUp", "(I)V"⟩, prog_14_method_61_code, 3, none), (⟨"SilkRiseModel", "looksOn", "(IIZ)V"⟩, prog_14_method_62_code, 7, none), (⟨"SilkRiseModel", "hourGoes", "()V"⟩, prog_14_method_63_code, 5, none), (⟨"SilkRiseModel", "goes", "(I)V"⟩, prog_14_method_64_code, 3, none), (⟨"SilkRiseModel", "load", "(II)I"⟩, prog_14_method_65_code, 3, (some .int)), (⟨"SilkRiseModel", "silk", "(II)I"⟩, prog_14_method_66_code, 3, (some .int))]
def zinf_22 : List zI := [(⟨"SilkRiseModel", "pull", "(I)I"⟩, prog_14_method_67_code, 2, (some .int)), (⟨"SilkRiseModel", "hook", "(II)I"⟩, prog_14_method_68_code, 5, (some .int)), (⟨"SilkRiseModel", "tells", "(III)I"⟩, prog_14_method_69_code, 5, (some .int)), (⟨"SilkRiseModel", "records", "()V"⟩, prog_14_method_70_code, 2, none), (⟨"SilkRiseModel", "areAtFoot", "(II)Z"⟩, prog_14_method_71_code, 3, (some .boolean)), (⟨"SilkRiseModel", "areBoth", "(II)Z"⟩, prog_14_method_72_code, 3, (some .boolean)), (⟨"SilkRiseModel", "tie", "(II)I"⟩, prog_14_method_73_code, 4, (some .int)), (⟨"SilkRiseModel", "move", "(II)Z"⟩, prog_14_method_74_code, 3, (some .boolean)), (⟨"SilkRiseModel", "patch", "(IZ)Z"⟩, prog_14_method_75_code, 3, (some .boolean)), (⟨"SilkRiseModel", "hours", "(I)I"⟩, prog_14_method_76_code, 2, (some .int))]
def zinf_23 : List zI := [(⟨"SilkRiseModel", "undo", "()Z"⟩, prog_14_method_77_code, 2, (some .boolean)), (⟨"SilkRiseModel", "beginsFlight", "(I)V"⟩, prog_14_method_78_code, 2, none), (⟨"SilkRiseModel", "flies", "(IIIII)V"⟩, prog_14_method_79_code, 9, none), (⟨"SilkRiseModel", "fliesOn", "(IIIIII)V"⟩, prog_14_method_80_code, 8, none), (⟨"SilkRiseModel", "fliesFrom", "(IIII)V"⟩, prog_14_method_81_code, 5, none), (⟨"SilkRiseModel", "flight", "(IIII)I"⟩, prog_14_method_82_code, 5, (some .int)), (⟨"SilkRiseModel", "soon", "(III)I"⟩, prog_14_method_83_code, 5, (some .int)), (⟨"SilkRiseModel", "patches", "(III)I"⟩, prog_14_method_84_code, 6, (some .int)), (⟨"SilkRiseModel", "near", "(I)I"⟩, prog_14_method_85_code, 2, (some .int)), (⟨"SilkRiseModel", "lifts", "(II)I"⟩, prog_14_method_86_code, 4, (some .int))]
def zinf_24 : List zI := [(⟨"SilkRiseModel", "sixes", "(I)I"⟩, prog_14_method_87_code, 3, (some .int)), (⟨"SilkRiseModel", "fillsBrings", "()V"⟩, prog_14_method_88_code, 3, none), (⟨"SilkRiseModel", "isWay", "(I)Z"⟩, prog_14_method_89_code, 5, (some .boolean)), (⟨"SilkRiseModel", "bringsAll", "(I)I"⟩, prog_14_method_90_code, 4, (some .int)), (⟨"SilkRiseModel", "fill", "(I)I"⟩, prog_14_method_91_code, 4, (some .int)), (⟨"SilkRiseModel", "hooksFor", "(I)I"⟩, prog_14_method_92_code, 5, (some .int)), (⟨"SilkRiseModel", "fewest", "()I"⟩, prog_14_method_93_code, 5, (some .int)), (⟨"SilkRiseModel", "waits", "(III)I"⟩, prog_14_method_94_code, 8, (some .int)), (⟨"SilkRiseModel", "isLong", "(I)Z"⟩, prog_14_method_95_code, 1, (some .boolean)), (⟨"SilkRiseModel", "then", "(III)I"⟩, prog_14_method_96_code, 4, (some .int))]
def zinf_25 : List zI := [(⟨"SilkRiseModel", "earns", "(I)I"⟩, prog_14_method_97_code, 2, (some .int)), (⟨"SilkRiseModel", "year", "(III)I"⟩, prog_14_method_98_code, 6, (some .int)), (⟨"SilkRiseModel", "isDigit9", "(I)Z"⟩, prog_14_method_99_code, 1, (some .boolean)), (⟨"SilkRiseModel", "tell", "(IIIII)I"⟩, prog_14_method_100_code, 6, (some .int)), (⟨"SilkRiseModel", "forget", "()I"⟩, prog_14_method_101_code, 2, (some .int)), (⟨"SilkRiseModel", "isSo", "(II)Z"⟩, prog_14_method_102_code, 4, (some .boolean)), (⟨"SilkRiseModel", "pullBits", "(I)I"⟩, prog_14_method_103_code, 6, (some .int)), (⟨"SilkRiseModel", "pulls", "(II)I"⟩, prog_14_method_104_code, 4, (some .int)), (⟨"SilkRiseModel", "sure", "(I)I"⟩, prog_14_method_105_code, 4, (some .int)), (⟨"SilkRiseModel", "hold", "(I)Z"⟩, prog_14_method_106_code, 3, (some .boolean))]
def zinf_26 : List zI := [(⟨"SilkRiseModel", "restore", "(I)Z"⟩, prog_14_method_107_code, 3, (some .boolean)), (⟨"SilkRiseModel", "count", "(I)I"⟩, prog_14_method_108_code, 2, (some .int)), (⟨"java/lang/String", "length", "()I"⟩, prog_18_method_54_code, 1, (some .int)), (⟨"java/lang/String", "coder", "()B"⟩, prog_18_method_152_code, 1, (some .byte)), (⟨"java/lang/String", "charAt", "(I)C"⟩, prog_18_method_56_code, 2, (some .char)), (⟨"java/lang/String", "isLatin1", "()Z"⟩, prog_18_method_154_code, 1, (some .boolean)), (⟨"java/lang/StringLatin1", "charAt", "([BI)C"⟩, prog_19_method_2_code, 2, (some .char)), (⟨"java/lang/String", "checkIndex", "(II)V"⟩, prog_18_method_155_code, 2, none), (⟨"jdk/internal/util/Preconditions", "checkIndex", "(IILjava/util/function/BiFunction;)I"⟩, prog_22_method_11_code, 3, (some .int)), (⟨"java/lang/String", "indexOf", "(I)I"⟩, prog_18_method_79_code, 2, (some .int))]
def zinf_27 : List zI := [(⟨"java/lang/String", "indexOf", "(II)I"⟩, prog_18_method_80_code, 3, (some .int)), (⟨"java/lang/StringLatin1", "indexOf", "([BIII)I"⟩, prog_19_method_22_code, 4, (some .int)), (⟨"java/lang/StringLatin1", "canEncode", "(I)Z"⟩, prog_19_method_4_code, 1, (some .boolean)), (⟨"java/lang/StringLatin1", "indexOfChar", "([BIII)I"⟩, prog_19_method_23_code, 6, (some .int)), (⟨"java/lang/Math", "max", "(II)I"⟩, prog_17_method_65_code, 2, (some .int)), (⟨"java/lang/Math", "min", "(II)I"⟩, prog_17_method_69_code, 2, (some .int)), (⟨"java/lang/Math", "abs", "(I)I"⟩, prog_17_method_59_code, 1, (some .int)), (⟨"java/lang/Integer", "bitCount", "(I)I"⟩, prog_16_method_49_code, 1, (some .int))]
def zcdw (q : zI) : Jvm.Cond := .code q.1 q.2.1 q.2.2.1 q.2.2.2
set_option maxRecDepth 100000 in
theorem zinfp_15 : zinf_15.map zcdw = ([1154, 1162, 1195, 1188, 1192, 1239, 1510, 1514, 1518, 1530] : List Nat).filterMap (fun i => lw_tbl[i]?) := rfl
end
section
set_option maxRecDepth 100000 in
theorem zinfp_0 : zinf_0.map zcdw = ([151, 860, 840, 708, 234, 828, 741, 736, 801, 211] : List Nat).filterMap (fun i => lw_tbl[i]?) := rfl
set_option maxRecDepth 100000 in
theorem zinfp_1 : zinf_1.map zcdw = ([238, 809, 242, 891, 246, 781, 785, 899, 895, 145] : List Nat).filterMap (fun i => lw_tbl[i]?) := rfl
set_option maxRecDepth 100000 in
theorem zinfp_2 : zinf_2.map zcdw = ([230, 797, 856, 852, 871, 943, 948, 939, 958, 1022] : List Nat).filterMap (fun i => lw_tbl[i]?) := rfl
set_option maxRecDepth 100000 in
theorem zinfp_3 : zinf_3.map zcdw = ([1015, 1141, 139, 226, 793, 285, 594, 692, 716, 728] : List Nat).filterMap (fun i => lw_tbl[i]?) := rfl
set_option maxRecDepth 100000 in
theorem zinfp_4 : zinf_4.map zcdw = ([601, 612, 605, 608, 615, 626, 338, 619, 623, 630] : List Nat).filterMap (fun i => lw_tbl[i]?) := rfl
set_option maxRecDepth 100000 in
theorem zinfp_5 : zinf_5.map zcdw = ([279, 789, 589, 696, 700, 751, 755, 759, 763, 768] : List Nat).filterMap (fun i => lw_tbl[i]?) := rfl
set_option maxRecDepth 100000 in
theorem zinfp_6 : zinf_6.map zcdw = ([772, 776, 720, 704, 724, 745, 712, 732, 403, 875] : List Nat).filterMap (fun i => lw_tbl[i]?) := rfl
set_option maxRecDepth 100000 in
theorem zinfp_7 : zinf_7.map zcdw = ([879, 919, 923, 927, 883, 887, 903, 907, 910, 419] : List Nat).filterMap (fun i => lw_tbl[i]?) := rfl
set_option maxRecDepth 100000 in
theorem zinfp_8 : zinf_8.map zcdw = ([982, 985, 977, 990, 998, 1007, 1011, 435, 1081, 1039] : List Nat).filterMap (fun i => lw_tbl[i]?) := rfl
set_option maxRecDepth 100000 in
theorem zinfp_9 : zinf_9.map zcdw = ([1044, 1053, 474, 1090, 1095, 1106, 1110, 1115, 1119, 1123] : List Nat).filterMap (fun i => lw_tbl[i]?) := rfl
set_option maxRecDepth 100000 in
theorem zinfp_10 : zinf_10.map zcdw = ([1132, 1136, 1146, 501, 815, 1228, 1232, 952, 1031, 1211] : List Nat).filterMap (fun i => lw_tbl[i]?) := rfl
set_option maxRecDepth 100000 in
theorem zinfp_11 : zinf_11.map zcdw = ([1207, 1219, 131, 570, 578, 585, 820, 824, 832, 836] : List Nat).filterMap (fun i => lw_tbl[i]?) := rfl
set_option maxRecDepth 100000 in
theorem zinfp_12 : zinf_12.map zcdw = ([844, 848, 931, 963, 968, 973, 1027, 1035, 1059, 1063] : List Nat).filterMap (fun i => lw_tbl[i]?) := rfl
set_option maxRecDepth 100000 in
theorem zinfp_13 : zinf_13.map zcdw = ([1071, 1076, 1085, 1127, 1150, 1158, 1166, 1170, 1174, 1180] : List Nat).filterMap (fun i => lw_tbl[i]?) := rfl
set_option maxRecDepth 100000 in
theorem zinfp_14 : zinf_14.map zcdw = ([1184, 1199, 1203, 1215, 1223, 581, 913, 574, 935, 1067] : List Nat).filterMap (fun i => lw_tbl[i]?) := rfl
set_option maxRecDepth 100000 in
theorem zinfp_16 : zinf_16.map zcdw = ([1540, 1537, 1250, 1247, 1534, 1526, 1544, 1548, 1560, 1580] : List Nat).filterMap (fun i => lw_tbl[i]?) := rfl
set_option maxRecDepth 100000 in
theorem zinfp_17 : zinf_17.map zcdw = ([1564, 1576, 1244, 1522, 1628, 1556, 1600, 1552, 1572, 1588] : List Nat).filterMap (fun i => lw_tbl[i]?) := rfl
set_option maxRecDepth 100000 in
theorem zinfp_18 : zinf_18.map zcdw = ([1584, 1568, 1592, 1596, 1604, 1624, 1616, 1620, 1608, 1612] : List Nat).filterMap (fun i => lw_tbl[i]?) := rfl
set_option maxRecDepth 100000 in
theorem zinfp_19 : zinf_19.map zcdw = ([1694, 1639, 1697, 1678, 1772, 1636, 1647, 1659, 1255, 1259] : List Nat).filterMap (fun i => lw_tbl[i]?) := rfl
set_option maxRecDepth 100000 in
theorem zinfp_20 : zinf_20.map zcdw = ([1667, 1752, 1749, 1675, 1671, 1686, 1690, 1682, 1701, 1705] : List Nat).filterMap (fun i => lw_tbl[i]?) := rfl
set_option maxRecDepth 100000 in
theorem zinfp_21 : zinf_21.map zcdw = ([1709, 1769, 1757, 1776, 1765, 1761, 1745, 1741, 1632, 1643] : List Nat).filterMap (fun i => lw_tbl[i]?) := rfl
set_option maxRecDepth 100000 in
theorem zinfp_22 : zinf_22.map zcdw = ([1651, 1655, 1663, 1725, 1721, 1717, 1713, 1729, 1733, 1737] : List Nat).filterMap (fun i => lw_tbl[i]?) := rfl
set_option maxRecDepth 100000 in
theorem zinfp_23 : zinf_23.map zcdw = ([1780, 1796, 1800, 1792, 1788, 1784, 1804, 1808, 1812, 1816] : List Nat).filterMap (fun i => lw_tbl[i]?) := rfl
set_option maxRecDepth 100000 in
theorem zinfp_24 : zinf_24.map zcdw = ([1828, 1825, 1832, 1836, 1820, 1844, 1840, 1848, 1855, 1852] : List Nat).filterMap (fun i => lw_tbl[i]?) := rfl
set_option maxRecDepth 100000 in
theorem zinfp_25 : zinf_25.map zcdw = ([1859, 1863, 1870, 1867, 1874, 1886, 1882, 1878, 1890, 1894] : List Nat).filterMap (fun i => lw_tbl[i]?) := rfl
set_option maxRecDepth 100000 in
theorem zinfp_26 : zinf_26.map zcdw = ([1898, 1902, 291, 295, 301, 305, 308, 311, 316, 635] : List Nat).filterMap (fun i => lw_tbl[i]?) := rfl
set_option maxRecDepth 100000 in
theorem zinfp_27 : zinf_27.map zcdw = ([639, 643, 646, 653, 649, 597, 1018, 864] : List Nat).filterMap (fun i => lw_tbl[i]?) := rfl
end
section
def zinfLL : List (List zI) := [zinf_0, zinf_1, zinf_2, zinf_3, zinf_4, zinf_5, zinf_6, zinf_7, zinf_8, zinf_9, zinf_10, zinf_11, zinf_12, zinf_13, zinf_14, zinf_15, zinf_16, zinf_17, zinf_18, zinf_19, zinf_20, zinf_21, zinf_22, zinf_23, zinf_24, zinf_25, zinf_26, zinf_27]
def zinfL : List zI := zinfLL.flatten
theorem zinfL_in : ∀ q ∈ zinfL, zcdw q ∈ lw_tbl := by
  intro q hq
  unfold zinfL zinfLL at hq
  obtain ⟨l, hl, hq⟩ := List.mem_flatten.mp hq
  have hq2 : zcdw q ∈ l.map zcdw := List.mem_map.mpr ⟨q, hq, rfl⟩
  simp only [List.mem_cons, List.not_mem_nil, or_false] at hl
  rcases hl with rfl | rfl | rfl | rfl | rfl | rfl | rfl | rfl | rfl | rfl | rfl | rfl | rfl | rfl | rfl | rfl | rfl | rfl | rfl | rfl | rfl | rfl | rfl | rfl | rfl | rfl | rfl | rfl
  · exact zch_sub zinfp_0 _ hq2
  · exact zch_sub zinfp_1 _ hq2
  · exact zch_sub zinfp_2 _ hq2
  · exact zch_sub zinfp_3 _ hq2
  · exact zch_sub zinfp_4 _ hq2
  · exact zch_sub zinfp_5 _ hq2
  · exact zch_sub zinfp_6 _ hq2
  · exact zch_sub zinfp_7 _ hq2
  · exact zch_sub zinfp_8 _ hq2
  · exact zch_sub zinfp_9 _ hq2
  · exact zch_sub zinfp_10 _ hq2
  · exact zch_sub zinfp_11 _ hq2
  · exact zch_sub zinfp_12 _ hq2
  · exact zch_sub zinfp_13 _ hq2
  · exact zch_sub zinfp_14 _ hq2
  · exact zch_sub zinfp_15 _ hq2
  · exact zch_sub zinfp_16 _ hq2
  · exact zch_sub zinfp_17 _ hq2
  · exact zch_sub zinfp_18 _ hq2
  · exact zch_sub zinfp_19 _ hq2
  · exact zch_sub zinfp_20 _ hq2
  · exact zch_sub zinfp_21 _ hq2
  · exact zch_sub zinfp_22 _ hq2
  · exact zch_sub zinfp_23 _ hq2
  · exact zch_sub zinfp_24 _ hq2
  · exact zch_sub zinfp_25 _ hq2
  · exact zch_sub zinfp_26 _ hq2
  · exact zch_sub zinfp_27 _ hq2
def zTb : List Jvm.Cond := zchL.flatten ++ (zinfL.map zcdw ++ zuws.flatten)
theorem zTb_in : ∀ w ∈ zTb, w ∈ lw_tbl := by
  intro w hw
  unfold zTb at hw
  rcases List.mem_append.mp hw with h | h
  · obtain ⟨l, hl, h⟩ := List.mem_flatten.mp h
    exact zchL_in l hl w h
  · rcases List.mem_append.mp h with h | h
    · obtain ⟨q, hq, rfl⟩ := List.mem_map.mp h
      exact zinfL_in q hq
    · obtain ⟨l, hl, h⟩ := List.mem_flatten.mp h
      exact zuws_in l hl w h
theorem zTb_good : ∀ w ∈ zTb, goodWord w = true ∨ nestw w = true := by
  intro w hw
  unfold zTb at hw
  rcases List.mem_append.mp hw with h | h
  · obtain ⟨l, hl, h⟩ := List.mem_flatten.mp h
    have := List.all_eq_true.mp (List.all_eq_true.mp zchL_good l hl) w h
    rw [Bool.or_eq_true] at this
    exact this
  · rcases List.mem_append.mp h with h | h
    · obtain ⟨q, hq, rfl⟩ := List.mem_map.mp h
      exact Or.inl rfl
    · obtain ⟨l, hl, h⟩ := List.mem_flatten.mp h
      exact Or.inl (List.all_eq_true.mp (List.all_eq_true.mp zuws_good l hl) w h)
theorem zT_in {i : Nat} {c : Jvm.Cond} (h : zT i = some c) : c ∈ zTb := by
  unfold zT at h
  have h1 := List.mem_of_getElem? h
  rw [List.getD_eq_getElem?_getD] at h1
  cases hl : zchL[i / 32]? with
  | none => rw [hl] at h1; cases h1
  | some l =>
    rw [hl] at h1
    exact List.mem_append_left _ (List.mem_flatten.mpr ⟨l, List.mem_of_getElem? hl, h1⟩)
def zinf (z : Nat) : zI := (zinfLL.getD (z / 10) []).getD (z % 10) (⟨"", "", ""⟩, ⟨#[]⟩, 0, none)
def zcod (z : Nat) : Nat × List zE := ((zinf z).2.2.1, zcodL.getD z [])
abbrev zGood (z : Nat) : Prop := z < 278
end
section
/-! what the tables must say of an instruction for the pure machine's word on it to hold: decided entry by entry -/
def zwd (i : Nat) (c : Jvm.Cond) : Bool := decide (zT i = some c)
theorem zwd_in {i : Nat} {c : Jvm.Cond} (h : zwd i c = true) : c ∈ zTb := zT_in (of_decide_eq_true h)
theorem zcl_ok2 (ci : Nat) (q : vw_C) (h : zCl[ci]? = some q) : (∀ w ∈ u_ws q.1 q.2.1 q.2.2, w ∈ zTb) ∧ (∀ k, k < q.2.2 → parseFieldDescriptor (q.2.1 k).2.2.1 = some (zTy ci k)) ∧ (∀ a, a < q.2.2 → ∀ b, b < q.2.2 → a ≠ b → (q.2.1 a).2.1 ≠ (q.2.1 b).2.1) ∧ zN ci = q.2.2 := by
  obtain ⟨_, h2, h3, h4⟩ := zcl_ok ci q h
  refine ⟨fun w hw => ?_, h2, h3, h4⟩
  refine List.mem_append_right _ (List.mem_append_right _ (List.mem_flatten.mpr ⟨u_ws q.1 q.2.1 q.2.2, ?_, hw⟩))
  have : zuws = zCl.map (fun q => u_ws q.1 q.2.1 q.2.2) := rfl
  rw [this]
  exact List.mem_map.mpr ⟨q, List.mem_of_getElem? h, rfl⟩
theorem zinf_lens : ∀ k, k < 28 → (zinfLL.getD k []).length = if k = 27 then 8 else 10 := by decide +kernel
theorem zinf_mem {z : Nat} (h : z < 278) : zinf z ∈ zinfL := by
  have h1 := zinf_lens (z / 10) (by omega)
  rw [List.getD_eq_getElem?_getD] at h1
  unfold zinf
  rw [List.getD_eq_getElem?_getD (i := z / 10)]
  cases hl : zinfLL[z / 10]? with
  | none =>
    rw [hl] at h1
    simp only [Option.getD_none, List.length_nil] at h1
    split at h1 <;> omega
  | some l =>
    rw [hl] at h1
    simp only [Option.getD_some] at h1 ⊢
    have h2 : z % 10 < l.length := by
      rw [h1]
      split <;> omega
    rw [List.getD_eq_getElem?_getD, List.getElem?_eq_getElem h2]
    exact List.mem_flatten.mpr ⟨l, List.mem_of_getElem? hl, List.getElem_mem h2⟩
theorem zcode_in {z : Nat} (h : z < 278) : Cond.code (zinf z).1 (zinf z).2.1 (zinf z).2.2.1 (zinf z).2.2.2 ∈ zTb :=
  List.mem_append_right _ (List.mem_append_left _ (List.mem_map.mpr ⟨zinf z, zinf_mem h, rfl⟩))
theorem nest_same {w : Jvm.Cond} (hn : nestw w = true) {A A' : Array Value} {u U : State} (h : u.vm = U.vm) (hb : w.before A u = true) : w.before A' U = true := by
  cases w with
  | fieldLinkNest a i b n d hh => exact va_tabs rfl h hb
  | methodLinkNest a i x hh => exact va_tabs rfl h hb
  | arrayOver ty =>
    unfold Cond.before Cond.holds at hb ⊢
    simp only [Cond.value] at hb ⊢
    rw [← h]
    exact hb
  | _ => cases hn
theorem nest_warm {w : Jvm.Cond} (hn : nestw w = true) {s U : State} (hW : s.WarmedH U.vm) (h : w.before #[] s = true) : w.before #[] U = true := by
  cases w with
  | fieldLinkNest a i b n d hh => exact va_Nw.warmF hW h
  | methodLinkNest a i x hh => exact va_Nw.warmM hW h
  | arrayOver ty => exact nest_same (w := .arrayOver ty) rfl (u := s.setVm U.vm) (U := U) rfl ((Cond.arrayOver_setVmC hW.alike ty).trans h)
  | _ => cases hn
def zchk (cc : ByteArray) (e : zE) (n : Nat) : Bool := decide (decode cc e.1 = .ok (e.2.1, n)) && decide (e.2.2.1 = e.1 + n)
def zjmp (e : zE) (off : Int) : Bool := decide ((e.1 : Int) + off = ((ax e 0 : Nat) : Int))
def zat : ArrayType → Nat
  | .int => 20
  | .byte => 21
  | .boolean => 22
  | .long => 23
  | _ => 99
def zfld (own : String) (i : Nat) (e : zE) : Bool := match zCl[ax e 0]? with
  | none => false
  | some q => decide (ax e 1 < q.2.2) && decide (ztc (zTy (ax e 0) (ax e 1)) = if ax e 2 = 3 then 0 else ax e 2) && decide (ax e 2 ≤ 3) && decide ((q.2.1 (ax e 1)).1 = q.1) &&
    (if ax e 4 = 0 then zwd (ax e 3) (.fieldLink own i q.1 (q.2.1 (ax e 1)).2.1 (q.2.1 (ax e 1)).2.2.1) else zwd (ax e 3) (.fieldLinkNest own i q.1 (q.2.1 (ax e 1)).2.1 (q.2.1 (ax e 1)).2.2.1 "SilkRise"))
def zfin (own : String) (ini : Bool) (e : zE) : Bool := match zCl[ax e 0]? with
  | none => false
  | some q => if (q.2.1 (ax e 1)).2.2.2 = true then ini && decide (q.1 = own) && decide (ax e 4 = 0) else true
def zpar (z n : Nat) : Bool := decide (z < 278) && decide ((parseMethodDescriptor (zinf z).1.desc).map (fun d => d.parameters.length) = some n)
def zOk (own : String) (cc : ByteArray) (nL : Nat) (rt : Option FieldType) (ini : Bool) (e : zE) : Bool := match e.2.1 with
  | .iload_n _ => zchk cc e 1
  | .lload_n _ => zchk cc e 1
  | .aload_n _ => zchk cc e 1
  | .iload _ => zchk cc e 2
  | .lload _ => zchk cc e 2
  | .aload _ => zchk cc e 2
  | .istore_n i => zchk cc e 1 && decide (i.val < nL)
  | .astore_n i => zchk cc e 1 && decide (i.val < nL)
  | .lstore_n i => zchk cc e 1 && decide (i.val + 1 < nL)
  | .istore i => zchk cc e 2 && decide (i < nL)
  | .astore i => zchk cc e 2 && decide (i < nL)
  | .lstore i => zchk cc e 2 && decide (i + 1 < nL)
  | .iinc i _ => zchk cc e 3 && decide (i < nL)
  | .iconst _ => zchk cc e 1
  | .lconst _ => zchk cc e 1
  | .bipush _ => zchk cc e 2
  | .sipush _ => zchk cc e 3
  | .ldc i => zchk cc e 2 && (if ax e 0 = 0 then zwd (ax e 2) (.constant own i (Int32.ofNat (ax e 1))) else decide (own = "SilkRise$Tokens" ∧ (ax e 1 = 0 ∧ i = 39 ∨ ax e 1 = 1 ∧ i = 88)))
  | .ldc_w i => zchk cc e 3 && zwd (ax e 2) (.constant own i (Int32.ofNat (ax e 1)))
  | .ldc2_w i => zchk cc e 3 && zwd (ax e 2) (.constantLong own i (Int64.ofNat (ax e 1)))
  | .dup | .dup2 | .pop | .iadd | .isub | .imul | .iand | .ior | .ixor | .ishl | .ishr | .iushr | .ineg | .idiv | .irem | .i2b | .i2c | .i2l | .l2i | .ladd | .lmul | .lcmp => zchk cc e 1
  | .goto o => zchk cc e 3 && zjmp e o
  | .ifCond _ o => zchk cc e 3 && zjmp e o
  | .if_icmp _ o => zchk cc e 3 && zjmp e o
  | .tableswitch d lo hi offs => decide (decode cc e.1 = .ok (e.2.1, e.2.2.1 - e.1)) && zjmp e d && decide (offs.toList.map (fun o => (e.1 : Int) + o) = (e.2.2.2.1.drop 1).map (fun t => ((t : Nat) : Int))) && decide (hi - lo + 1 = (offs.size : Int)) && decide (-1000 ≤ lo) && decide (hi ≤ 1000)
  | .getfield i => zchk cc e 3 && (if ax e 0 = 30 then (if ax e 1 = 0 then zwd (ax e 3) (.fieldLink own i "java/lang/String" "value" "[B") else zwd (ax e 3) (.fieldLink own i "java/lang/String" "coder" "B")) else zfld own i e && decide (ax e 2 ≤ 2))
  | .putfield i => zchk cc e 3 && zfld own i e && zfin own ini e && decide (zTy (ax e 0) (ax e 1) = .boolean → ax e 2 = 3)
  | .getstatic i => zchk cc e 3 && (if ax e 0 = 0 then zwd (ax e 1) (.fieldLink own i "java/lang/String" "COMPACT_STRINGS" "Z") else zwd (ax e 1) (.fieldLink own i "jdk/internal/util/Preconditions" "SIOOBE_FORMATTER" "Ljava/util/function/BiFunction;"))
  | .iaload | .laload | .iastore | .lastore | .aastore | .bastore => zchk cc e 1
  | .baload => zchk cc e 1 && decide (ax e 0 = 21 ∨ ax e 0 = 22 ∨ ax e 0 = 31)
  | .aaload => zchk cc e 1 && decide (ax e 0 = 24 ∨ ax e 0 = 25)
  | .arraylength => zchk cc e 1 && decide (20 ≤ ax e 0 ∧ ax e 0 ≤ 25 ∨ ax e 0 = 31 ∨ ax e 0 = 40)
  | .new i => zchk cc e 3 && (match zCl[ax e 0]? with
    | none => false
    | some q => decide (ax e 1 = q.2.2) && zwd (ax e 2) (.classLink own i q.1) && zwd (ax e 3) (.instantiable q.1 q.2.2) && zwd (ax e 4) (.initialized q.1))
  | .newarray t => zchk cc e 2 && zwd (ax e 1) (.arrayClass (newarray.typeOf t)) && decide (zat t = ax e 0) && decide (ax e 0 < 30)
  | .anewarray i => zchk cc e 3 && zwd (ax e 1) (.classLink own i "SilkRise$State") && zwd (ax e 2) (.arrayOver (.object "SilkRise$State"))
  | .multianewarray i d => zchk cc e 4 && decide (d = 2) && zwd (ax e 1) (.classLink own i "[[I") && zwd (ax e 2) (.arrayOver (.array .int)) && zwd (ax e 3) (.arrayClass .int)
  | .invokestatic i => zchk cc e 3 && (if ax e 0 = 9999 then zwd (ax e 1) (.methodLink own i arraycopyName) && zwd (ax e 2) (.native arraycopyName) && zwd (ax e 3) (.static arraycopyName) && zwd (ax e 4) (.initialized "java/lang/System")
      else zpar (ax e 0) (ax e 1) && zwd (ax e 5) (.static (zinf (ax e 0)).1) && zwd (ax e 6) (.initialized (zinf (ax e 0)).1.cls) && (if ax e 3 = 0 then zwd (ax e 4) (.methodLink own i (zinf (ax e 0)).1) else zwd (ax e 4) (.methodLinkNest own i (zinf (ax e 0)).1 "SilkRise")))
  | .invokevirtual i => zchk cc e 3 && zpar (ax e 0) (ax e 1) && zwd (ax e 4) (.methodLink own i (zinf (ax e 0)).1) && zwd (ax e 5) (.instanceMethod (zinf (ax e 0)).1) && zwd (ax e 6) (.selects (zinf (ax e 0)).1.cls (zinf (ax e 0)).1 (zinf (ax e 0)).1) && zwd (ax e 7) (.initialized (zinf (ax e 0)).1.cls) &&
      (if ax e 3 = 30 then decide ((zinf (ax e 0)).1.cls = "java/lang/String") else match zCl[ax e 3]? with
        | none => false
        | some q => decide ((zinf (ax e 0)).1.cls = q.1))
  | .invokespecial i => zchk cc e 3 && (if ax e 0 = 9998 then zwd (ax e 1) (.methodLink own i Lib.objectInit) && zwd (ax e 2) (.instanceMethod Lib.objectInit) && zwd (ax e 3) (.code Lib.objectInit ⟨#[0xb1]⟩ 1 none)
      else zpar (ax e 0) (ax e 1) && zwd (ax e 3) (.methodLink own i (zinf (ax e 0)).1) && zwd (ax e 4) (.instanceMethod (zinf (ax e 0)).1) && zwd (ax e 5) (.initialized (zinf (ax e 0)).1.cls) && decide ((zinf (ax e 0)).1.name = "<init>") && decide ((zinf (ax e 0)).2.2.2 = none))
  | .ireturn => zchk cc e 1 && (if ax e 0 = 0 then decide (rt = some .int) else if ax e 0 = 1 then decide (rt = some .boolean) else if ax e 0 = 2 then decide (rt = some .char) else decide (rt = some .byte))
  | .lreturn => zchk cc e 1 && decide (rt = some .long)
  | .return_ => zchk cc e 1 && decide (rt = none)
  | _ => true
/-- a method's own row: its code is in the tables, its name is plain -/
def zMok (z : Nat) : Bool := decide (z < 278) && decide ((zinf z).1.cls ≠ "java/lang/invoke/MethodHandle") && decide ((zinf z).1.cls ≠ "java/lang/invoke/VarHandle") && decide ((zinf z).2.2.1 ≤ 40) && plainFor (zinf z).1
def zCok (z : Nat) : Bool := (zcod z).2.all (fun e => zOk (zinf z).1.cls (zinf z).2.1 (zinf z).2.2.1 (zinf z).2.2.2 (decide ((zinf z).1.name = "<init>")) e)
end
section
/-! THE PURE MACHINE SAYS THE TRUTH -/
def zX (ad : Nat → Nat) (fv : Value) (A : Nat → Prop) (U : State) (H : Heap) : Prop :=
  vk_S 2 [112, 9] [zby 4, zby 5] (fun i => if i = 0 then ad 2 else ad 3) (fun i => if i = 0 then ad 4 else ad 5) A U H ∧
  vk_R "SilkRise$Tokens" 39 "load silk hook lift wind ties pays rim gusts seed if then else hour day size weight high across price up stored " (ad 2) U ∧
  vk_R "SilkRise$Tokens" 88 ";=+-*/<()" (ad 3) U ∧
  va_Z "java/lang/String" "COMPACT_STRINGS" "Z" (.int 1) A U H ∧
  va_Z "jdk/internal/util/Preconditions" "SIOOBE_FORMATTER" "Ljava/util/function/BiFunction;" fv A U H
def zCx (p : Program) (R : Room) (s : State) (m : MethodId) (args : Array Value) (meth : Method) (c : Code) (own : String) (cc : ByteArray) (nL : Nat) (ini : Bool) (D : va_G) (cA : Nat → ClassId) (fv : Value) (A : Nat → Prop) (ad0 : Nat → Nat) (d : Nat) : Prop :=
  p.tables.exec = Jvm.exec ∧ c.code = cc ∧ c.maxLocals = nL ∧ s.vm.findClass own = some m.cls ∧ (∀ w ∈ zTb, w.before args s = true) ∧ va_K D zCl (ztys cA) s ∧ (∀ q, s.heap.size ≤ q → A q) ∧ (ini = true → meth.name = "<init>") ∧ zX ad0 fv A s s.heap ∧ (fv = .null ∨ ∃ t, fv = .ref t) ∧ d + 1 ≤ R.frames ∧ 60 * d + 60 ≤ R.locals
def zW (p : Program) (l : Launch) (e : Env) (R : Room) (s : State) (m : MethodId) (args : Array Value) (below : List Frame) (meth : Method) (c : Code) (Q : State → Prop) (D : va_G) (cA : Nat → ClassId) (fv : Value) (A : Nat → Prop) (ad0 : Nat → Nat) (M0 : zM) (nL : Nat) (pc : Nat) (ls : zLs) (st : List Value) (M : zM) : Prop :=
  ∀ (ad : Nat → Nat) (H : Heap) (locs : List Loc) (L : Array Slot), (∀ r, (r < M0.1.1 + 7 ∨ M.1.1 + 7 ≤ r) → ad r = ad0 r) → M0.1.1 ≤ M.1.1 → M0.1.2.1 ≤ M.1.2.1 → zwf M → va_P D zCl (zws ad cA M) H → va_D A (zws ad cA M) → va_S A s.heap H locs → lv_has L nL (ls.map (zq fv ad)) →
    W p l e R s m args below meth c H locs (M.1.1 - M0.1.1) (M.1.2.1 - M0.1.2.1) Q (F0 m pc L (st.map (zv fv ad)))
def zRet (cc : ByteArray) (rt : Option FieldType) (pc : Nat) (st : List Value) (v : Option Value) : Prop :=
  (decode cc pc = .ok (.ireturn, 1) ∧ ∃ x, v = some (.int x) ∧ st = [.int x] ∧ ∃ ty, rt = some ty ∧ narrow ty (.int x) = .int x) ∨
  (decode cc pc = .ok (.lreturn, 1) ∧ ∃ x, v = some (.long x) ∧ st = [.long x] ∧ rt = some .long) ∨
  (decode cc pc = .ok (.return_, 1) ∧ v = none ∧ st = [] ∧ rt = none)
def zw (z : Nat) : List Jvm.Cond := .code (zinf z).1 (zinf z).2.1 (zinf z).2.2.1 (zinf z).2.2.2 :: zTb.filter goodWord
def zPre (D : va_G) (cA : Nat → ClassId) (fv : Value) (ad : Nat → Nat) (M : zM) (sz : Nat) (U : State) : Prop :=
  U.heap.size = sz ∧ zwf M ∧ va_P D zCl (zws ad cA M) U.heap ∧ va_K D zCl (ztys cA) U ∧ va_D (fun _ => True) (zws ad cA M) ∧ zX ad fv (va_A (zws ad cA M) sz) U U.heap ∧ ∀ w ∈ zTb, nestw w = true → w.before #[] U = true
def zQc (D : va_G) (cA : Nat → ClassId) (fv : Value) (ad : Nat → Nat) (M : zM) (sz : Nat) (v : Option Value) (M1 : zM) : Array Value → State → Outcome → State → Prop := fun _ st o t =>
  (∃ ad' : Nat → Nat, (∀ r, (r < M.1.1 + 7 ∨ M1.1.1 + 7 ≤ r) → ad' r = ad r) ∧ zwf M1 ∧ o = .returned (v.map (zv fv ad')) ∧ va_P D zCl (zws ad' cA M1) t.heap ∧ va_D (va_A (zws ad cA M) sz) (zws ad' cA M1)) ∧ va_F (va_A (zws ad cA M) sz) st t
def zrm (d : Nat) (M M1 : zM) : Room := { frames := d, cells := M1.1.1 - M.1.1, slots := M1.1.2.1 - M.1.2.1, locals := 60 * d }
def zMet (l : Launch) (d z : Nat) (as : List Value) (M : zM) (v : Option Value) (M1 : zM) : Prop :=
  ∀ (D : va_G) (cA : Nat → ClassId) (fv : Value) (ad : Nat → Nat) (sz : Nat), (fv = .null ∨ ∃ t, fv = .ref t) →
    Met l (zinf z).1 (zw z) (zrm d M M1) (va_Pc (as.map (zv fv ad)) (zPre D cA fv ad M sz)) (zQc D cA fv ad M sz v M1) (M1.1.1 - M.1.1) (M1.1.2.1 - M.1.2.1) (va_A (zws ad cA M) sz)
theorem zchk_of {cc : ByteArray} {pc nxt n : Nat} {ins : Instr} {aux : List Nat} {ld : Option (List Nat)} (h : zchk cc (pc, ins, nxt, aux, ld) n = true) : decode cc pc = .ok (ins, n) ∧ nxt = pc + n := by
  unfold zchk at h
  rw [Bool.and_eq_true] at h
  exact ⟨of_decide_eq_true h.1, of_decide_eq_true h.2⟩
theorem zin_vp {i : Int32} {n : Nat} (h : zin i n) : vp_in i n := vp_in_iff.mpr h
theorem zchk_of2 {cc : ByteArray} {pc nxt n : Nat} {ins : Instr} {aux : List Nat} {ld : Option (List Nat)} {b : Bool} (h : (zchk cc (pc, ins, nxt, aux, ld) n && b) = true) : decode cc pc = .ok (ins, n) ∧ nxt = pc + n ∧ b = true := by
  rw [Bool.and_eq_true] at h
  exact ⟨(zchk_of h.1).1, (zchk_of h.1).2, h.2⟩
theorem ss_iload_n {p : Program} {l : Launch} {e : Env} {R : Room} {s : State} {m : MethodId} {args : Array Value} {below : List Frame} {meth : Method} {c : Code} {own : String} {cc : ByteArray} {nL : Nat} {ini : Bool} {D : va_G} {cA : Nat → ClassId} {fv : Value} {A : Nat → Prop} {ad0 : Nat → Nat} {d : Nat} {Q : State → Prop} {rr : zR} {M0 : zM} {rt : Option FieldType} {sc : Option (Nat × (Nat → Int32))} {cal : zC} {k : zK}
    (C : zCx p R s m args meth c own cc nL ini D cA fv A ad0 d) (hk : ∀ pc' ls' st' M', k pc' ls' st' M' = some rr → zW p l e R s m args below meth c Q D cA fv A ad0 M0 nL pc' ls' st' M') {pc nxt : Nat} {aux : List Nat} {ld : Option (List Nat)} {ls : zLs} {st : List Value} {M : zM} {i : Fin 4} 
    (hok : zOk own cc nL rt ini (pc, .iload_n i, nxt, aux, ld) = true) (h : stp sc cal (pc, .iload_n i, nxt, aux, ld) ls st M k = some rr) : zW p l e R s m args below meth c Q D cA fv A ad0 M0 nL pc ls st M := by
  obtain ⟨hx, hb, hml, hown, hts, hK, hA, hini, hX, hfv, hfr, hlo⟩ := C
  obtain ⟨x, hz, h⟩ := lI_some h
  obtain ⟨hdg, rfl⟩ := zchk_of hok
  intro ad H locs L had hn1 hn2 hwf hP hD hS hl
  refine lv_iload_n hx hb hdg rfl (zl_has hl hz) ?_
  exact hk _ _ _ _ h ad H locs L had hn1 hn2 hwf hP hD hS hl
theorem ss_iload {p : Program} {l : Launch} {e : Env} {R : Room} {s : State} {m : MethodId} {args : Array Value} {below : List Frame} {meth : Method} {c : Code} {own : String} {cc : ByteArray} {nL : Nat} {ini : Bool} {D : va_G} {cA : Nat → ClassId} {fv : Value} {A : Nat → Prop} {ad0 : Nat → Nat} {d : Nat} {Q : State → Prop} {rr : zR} {M0 : zM} {rt : Option FieldType} {sc : Option (Nat × (Nat → Int32))} {cal : zC} {k : zK}
    (C : zCx p R s m args meth c own cc nL ini D cA fv A ad0 d) (hk : ∀ pc' ls' st' M', k pc' ls' st' M' = some rr → zW p l e R s m args below meth c Q D cA fv A ad0 M0 nL pc' ls' st' M') {pc nxt : Nat} {aux : List Nat} {ld : Option (List Nat)} {ls : zLs} {st : List Value} {M : zM} {i : Nat} 
    (hok : zOk own cc nL rt ini (pc, .iload i, nxt, aux, ld) = true) (h : stp sc cal (pc, .iload i, nxt, aux, ld) ls st M k = some rr) : zW p l e R s m args below meth c Q D cA fv A ad0 M0 nL pc ls st M := by
  obtain ⟨hx, hb, hml, hown, hts, hK, hA, hini, hX, hfv, hfr, hlo⟩ := C
  obtain ⟨x, hz, h⟩ := lI_some h
  obtain ⟨hdg, rfl⟩ := zchk_of hok
  intro ad H locs L had hn1 hn2 hwf hP hD hS hl
  refine lv_iload hx hb hdg (zl_has hl hz) ?_
  exact hk _ _ _ _ h ad H locs L had hn1 hn2 hwf hP hD hS hl
theorem ss_lload_n {p : Program} {l : Launch} {e : Env} {R : Room} {s : State} {m : MethodId} {args : Array Value} {below : List Frame} {meth : Method} {c : Code} {own : String} {cc : ByteArray} {nL : Nat} {ini : Bool} {D : va_G} {cA : Nat → ClassId} {fv : Value} {A : Nat → Prop} {ad0 : Nat → Nat} {d : Nat} {Q : State → Prop} {rr : zR} {M0 : zM} {rt : Option FieldType} {sc : Option (Nat × (Nat → Int32))} {cal : zC} {k : zK}
    (C : zCx p R s m args meth c own cc nL ini D cA fv A ad0 d) (hk : ∀ pc' ls' st' M', k pc' ls' st' M' = some rr → zW p l e R s m args below meth c Q D cA fv A ad0 M0 nL pc' ls' st' M') {pc nxt : Nat} {aux : List Nat} {ld : Option (List Nat)} {ls : zLs} {st : List Value} {M : zM} {i : Fin 4} 
    (hok : zOk own cc nL rt ini (pc, .lload_n i, nxt, aux, ld) = true) (h : stp sc cal (pc, .lload_n i, nxt, aux, ld) ls st M k = some rr) : zW p l e R s m args below meth c Q D cA fv A ad0 M0 nL pc ls st M := by
  obtain ⟨hx, hb, hml, hown, hts, hK, hA, hini, hX, hfv, hfr, hlo⟩ := C
  obtain ⟨x, hz, h⟩ := lL_some h
  obtain ⟨hdg, rfl⟩ := zchk_of hok
  intro ad H locs L had hn1 hn2 hwf hP hD hS hl
  refine lv_lload_n hx hb hdg rfl (zl_has hl hz) ?_
  exact hk _ _ _ _ h ad H locs L had hn1 hn2 hwf hP hD hS hl
theorem ss_lload {p : Program} {l : Launch} {e : Env} {R : Room} {s : State} {m : MethodId} {args : Array Value} {below : List Frame} {meth : Method} {c : Code} {own : String} {cc : ByteArray} {nL : Nat} {ini : Bool} {D : va_G} {cA : Nat → ClassId} {fv : Value} {A : Nat → Prop} {ad0 : Nat → Nat} {d : Nat} {Q : State → Prop} {rr : zR} {M0 : zM} {rt : Option FieldType} {sc : Option (Nat × (Nat → Int32))} {cal : zC} {k : zK}
    (C : zCx p R s m args meth c own cc nL ini D cA fv A ad0 d) (hk : ∀ pc' ls' st' M', k pc' ls' st' M' = some rr → zW p l e R s m args below meth c Q D cA fv A ad0 M0 nL pc' ls' st' M') {pc nxt : Nat} {aux : List Nat} {ld : Option (List Nat)} {ls : zLs} {st : List Value} {M : zM} {i : Nat} 
    (hok : zOk own cc nL rt ini (pc, .lload i, nxt, aux, ld) = true) (h : stp sc cal (pc, .lload i, nxt, aux, ld) ls st M k = some rr) : zW p l e R s m args below meth c Q D cA fv A ad0 M0 nL pc ls st M := by
  obtain ⟨hx, hb, hml, hown, hts, hK, hA, hini, hX, hfv, hfr, hlo⟩ := C
  obtain ⟨x, hz, h⟩ := lL_some h
  obtain ⟨hdg, rfl⟩ := zchk_of hok
  intro ad H locs L had hn1 hn2 hwf hP hD hS hl
  refine lv_lload hx hb hdg (zl_has hl hz) ?_
  exact hk _ _ _ _ h ad H locs L had hn1 hn2 hwf hP hD hS hl
theorem ss_aload_n {p : Program} {l : Launch} {e : Env} {R : Room} {s : State} {m : MethodId} {args : Array Value} {below : List Frame} {meth : Method} {c : Code} {own : String} {cc : ByteArray} {nL : Nat} {ini : Bool} {D : va_G} {cA : Nat → ClassId} {fv : Value} {A : Nat → Prop} {ad0 : Nat → Nat} {d : Nat} {Q : State → Prop} {rr : zR} {M0 : zM} {rt : Option FieldType} {sc : Option (Nat × (Nat → Int32))} {cal : zC} {k : zK}
    (C : zCx p R s m args meth c own cc nL ini D cA fv A ad0 d) (hk : ∀ pc' ls' st' M', k pc' ls' st' M' = some rr → zW p l e R s m args below meth c Q D cA fv A ad0 M0 nL pc' ls' st' M') {pc nxt : Nat} {aux : List Nat} {ld : Option (List Nat)} {ls : zLs} {st : List Value} {M : zM} {i : Fin 4} 
    (hok : zOk own cc nL rt ini (pc, .aload_n i, nxt, aux, ld) = true) (h : stp sc cal (pc, .aload_n i, nxt, aux, ld) ls st M k = some rr) : zW p l e R s m args below meth c Q D cA fv A ad0 M0 nL pc ls st M := by
  obtain ⟨hx, hb, hml, hown, hts, hK, hA, hini, hX, hfv, hfr, hlo⟩ := C
  obtain ⟨x, hz, h⟩ := lA_some h
  obtain ⟨hdg, rfl⟩ := zchk_of hok
  intro ad H locs L had hn1 hn2 hwf hP hD hS hl
  have hv := zl_has hl hz
  have hq := hk _ _ _ _ h ad H locs L had hn1 hn2 hwf hP hD hS hl
  have hv : L[_]? = some (Slot.val (rfv ad x)) := hv
  by_cases h0 : x = 0
  · subst h0; exact lv_aload_nN hx hb hdg rfl hv hq
  · have e1 : rfv ad x = .ref (ad x) := if_neg h0
    rw [e1] at hv
    refine lv_aload_n hx hb hdg rfl hv ?_
    have e2 : zv fv ad (.ref x) = .ref (ad x) := e1
    rw [List.map_cons, e2] at hq
    exact hq
theorem ss_aload {p : Program} {l : Launch} {e : Env} {R : Room} {s : State} {m : MethodId} {args : Array Value} {below : List Frame} {meth : Method} {c : Code} {own : String} {cc : ByteArray} {nL : Nat} {ini : Bool} {D : va_G} {cA : Nat → ClassId} {fv : Value} {A : Nat → Prop} {ad0 : Nat → Nat} {d : Nat} {Q : State → Prop} {rr : zR} {M0 : zM} {rt : Option FieldType} {sc : Option (Nat × (Nat → Int32))} {cal : zC} {k : zK}
    (C : zCx p R s m args meth c own cc nL ini D cA fv A ad0 d) (hk : ∀ pc' ls' st' M', k pc' ls' st' M' = some rr → zW p l e R s m args below meth c Q D cA fv A ad0 M0 nL pc' ls' st' M') {pc nxt : Nat} {aux : List Nat} {ld : Option (List Nat)} {ls : zLs} {st : List Value} {M : zM} {i : Nat} 
    (hok : zOk own cc nL rt ini (pc, .aload i, nxt, aux, ld) = true) (h : stp sc cal (pc, .aload i, nxt, aux, ld) ls st M k = some rr) : zW p l e R s m args below meth c Q D cA fv A ad0 M0 nL pc ls st M := by
  obtain ⟨hx, hb, hml, hown, hts, hK, hA, hini, hX, hfv, hfr, hlo⟩ := C
  obtain ⟨x, hz, h⟩ := lA_some h
  obtain ⟨hdg, rfl⟩ := zchk_of hok
  intro ad H locs L had hn1 hn2 hwf hP hD hS hl
  have hv := zl_has hl hz
  have hq := hk _ _ _ _ h ad H locs L had hn1 hn2 hwf hP hD hS hl
  have hv : L[_]? = some (Slot.val (rfv ad x)) := hv
  by_cases h0 : x = 0
  · subst h0; exact lv_aloadN hx hb hdg hv hq
  · have e1 : rfv ad x = .ref (ad x) := if_neg h0
    rw [e1] at hv
    refine lv_aload hx hb hdg hv ?_
    have e2 : zv fv ad (.ref x) = .ref (ad x) := e1
    rw [List.map_cons, e2] at hq
    exact hq
theorem ss_istore_n {p : Program} {l : Launch} {e : Env} {R : Room} {s : State} {m : MethodId} {args : Array Value} {below : List Frame} {meth : Method} {c : Code} {own : String} {cc : ByteArray} {nL : Nat} {ini : Bool} {D : va_G} {cA : Nat → ClassId} {fv : Value} {A : Nat → Prop} {ad0 : Nat → Nat} {d : Nat} {Q : State → Prop} {rr : zR} {M0 : zM} {rt : Option FieldType} {sc : Option (Nat × (Nat → Int32))} {cal : zC} {k : zK}
    (C : zCx p R s m args meth c own cc nL ini D cA fv A ad0 d) (hk : ∀ pc' ls' st' M', k pc' ls' st' M' = some rr → zW p l e R s m args below meth c Q D cA fv A ad0 M0 nL pc' ls' st' M') {pc nxt : Nat} {aux : List Nat} {ld : Option (List Nat)} {ls : zLs} {st : List Value} {M : zM} {i : Fin 4} 
    (hok : zOk own cc nL rt ini (pc, .istore_n i, nxt, aux, ld) = true) (h : stp sc cal (pc, .istore_n i, nxt, aux, ld) ls st M k = some rr) : zW p l e R s m args below meth c Q D cA fv A ad0 M0 nL pc ls st M := by
  obtain ⟨hx, hb, hml, hown, hts, hK, hA, hini, hX, hfv, hfr, hlo⟩ := C
  obtain ⟨x, st, rfl, h⟩ := pI_some h
  obtain ⟨hdg, rfl, hi⟩ := zchk_of2 hok
  have hi := of_decide_eq_true hi
  have hf1 : fv.category = 1 := by rcases hfv with rfl | ⟨t, rfl⟩ <;> rfl
  intro ad H locs L had hn1 hn2 hwf hP hD hS hl
  refine lv_istore_n hx hb hdg rfl hl hi (zs1_map (ad := ad) hf1 ls i (.int x)) (fun L hl => ?_)
  exact hk _ _ _ _ h ad H locs L had hn1 hn2 hwf hP hD hS hl
theorem ss_istore {p : Program} {l : Launch} {e : Env} {R : Room} {s : State} {m : MethodId} {args : Array Value} {below : List Frame} {meth : Method} {c : Code} {own : String} {cc : ByteArray} {nL : Nat} {ini : Bool} {D : va_G} {cA : Nat → ClassId} {fv : Value} {A : Nat → Prop} {ad0 : Nat → Nat} {d : Nat} {Q : State → Prop} {rr : zR} {M0 : zM} {rt : Option FieldType} {sc : Option (Nat × (Nat → Int32))} {cal : zC} {k : zK}
    (C : zCx p R s m args meth c own cc nL ini D cA fv A ad0 d) (hk : ∀ pc' ls' st' M', k pc' ls' st' M' = some rr → zW p l e R s m args below meth c Q D cA fv A ad0 M0 nL pc' ls' st' M') {pc nxt : Nat} {aux : List Nat} {ld : Option (List Nat)} {ls : zLs} {st : List Value} {M : zM} {i : Nat} 
    (hok : zOk own cc nL rt ini (pc, .istore i, nxt, aux, ld) = true) (h : stp sc cal (pc, .istore i, nxt, aux, ld) ls st M k = some rr) : zW p l e R s m args below meth c Q D cA fv A ad0 M0 nL pc ls st M := by
  obtain ⟨hx, hb, hml, hown, hts, hK, hA, hini, hX, hfv, hfr, hlo⟩ := C
  obtain ⟨x, st, rfl, h⟩ := pI_some h
  obtain ⟨hdg, rfl, hi⟩ := zchk_of2 hok
  have hi := of_decide_eq_true hi
  have hf1 : fv.category = 1 := by rcases hfv with rfl | ⟨t, rfl⟩ <;> rfl
  intro ad H locs L had hn1 hn2 hwf hP hD hS hl
  refine lv_istore hx hb hdg hl hi (zs1_map (ad := ad) hf1 ls i (.int x)) (fun L hl => ?_)
  exact hk _ _ _ _ h ad H locs L had hn1 hn2 hwf hP hD hS hl
theorem ss_lstore_n {p : Program} {l : Launch} {e : Env} {R : Room} {s : State} {m : MethodId} {args : Array Value} {below : List Frame} {meth : Method} {c : Code} {own : String} {cc : ByteArray} {nL : Nat} {ini : Bool} {D : va_G} {cA : Nat → ClassId} {fv : Value} {A : Nat → Prop} {ad0 : Nat → Nat} {d : Nat} {Q : State → Prop} {rr : zR} {M0 : zM} {rt : Option FieldType} {sc : Option (Nat × (Nat → Int32))} {cal : zC} {k : zK}
    (C : zCx p R s m args meth c own cc nL ini D cA fv A ad0 d) (hk : ∀ pc' ls' st' M', k pc' ls' st' M' = some rr → zW p l e R s m args below meth c Q D cA fv A ad0 M0 nL pc' ls' st' M') {pc nxt : Nat} {aux : List Nat} {ld : Option (List Nat)} {ls : zLs} {st : List Value} {M : zM} {i : Fin 4} 
    (hok : zOk own cc nL rt ini (pc, .lstore_n i, nxt, aux, ld) = true) (h : stp sc cal (pc, .lstore_n i, nxt, aux, ld) ls st M k = some rr) : zW p l e R s m args below meth c Q D cA fv A ad0 M0 nL pc ls st M := by
  obtain ⟨hx, hb, hml, hown, hts, hK, hA, hini, hX, hfv, hfr, hlo⟩ := C
  obtain ⟨x, st, rfl, h⟩ := pL_some h
  obtain ⟨hdg, rfl, hi⟩ := zchk_of2 hok
  have hi := of_decide_eq_true hi
  have hf1 : fv.category = 1 := by rcases hfv with rfl | ⟨t, rfl⟩ <;> rfl
  intro ad H locs L had hn1 hn2 hwf hP hD hS hl
  refine lv_lstore_n hx hb hdg rfl hl hi (zs2_map (ad := ad) hf1 ls i (.long x)) (fun L hl => ?_)
  exact hk _ _ _ _ h ad H locs L had hn1 hn2 hwf hP hD hS hl
theorem ss_lstore {p : Program} {l : Launch} {e : Env} {R : Room} {s : State} {m : MethodId} {args : Array Value} {below : List Frame} {meth : Method} {c : Code} {own : String} {cc : ByteArray} {nL : Nat} {ini : Bool} {D : va_G} {cA : Nat → ClassId} {fv : Value} {A : Nat → Prop} {ad0 : Nat → Nat} {d : Nat} {Q : State → Prop} {rr : zR} {M0 : zM} {rt : Option FieldType} {sc : Option (Nat × (Nat → Int32))} {cal : zC} {k : zK}
    (C : zCx p R s m args meth c own cc nL ini D cA fv A ad0 d) (hk : ∀ pc' ls' st' M', k pc' ls' st' M' = some rr → zW p l e R s m args below meth c Q D cA fv A ad0 M0 nL pc' ls' st' M') {pc nxt : Nat} {aux : List Nat} {ld : Option (List Nat)} {ls : zLs} {st : List Value} {M : zM} {i : Nat} 
    (hok : zOk own cc nL rt ini (pc, .lstore i, nxt, aux, ld) = true) (h : stp sc cal (pc, .lstore i, nxt, aux, ld) ls st M k = some rr) : zW p l e R s m args below meth c Q D cA fv A ad0 M0 nL pc ls st M := by
  obtain ⟨hx, hb, hml, hown, hts, hK, hA, hini, hX, hfv, hfr, hlo⟩ := C
  obtain ⟨x, st, rfl, h⟩ := pL_some h
  obtain ⟨hdg, rfl, hi⟩ := zchk_of2 hok
  have hi := of_decide_eq_true hi
  have hf1 : fv.category = 1 := by rcases hfv with rfl | ⟨t, rfl⟩ <;> rfl
  intro ad H locs L had hn1 hn2 hwf hP hD hS hl
  refine lv_lstore hx hb hdg hl hi (zs2_map (ad := ad) hf1 ls i (.long x)) (fun L hl => ?_)
  exact hk _ _ _ _ h ad H locs L had hn1 hn2 hwf hP hD hS hl
theorem ss_astore_n {p : Program} {l : Launch} {e : Env} {R : Room} {s : State} {m : MethodId} {args : Array Value} {below : List Frame} {meth : Method} {c : Code} {own : String} {cc : ByteArray} {nL : Nat} {ini : Bool} {D : va_G} {cA : Nat → ClassId} {fv : Value} {A : Nat → Prop} {ad0 : Nat → Nat} {d : Nat} {Q : State → Prop} {rr : zR} {M0 : zM} {rt : Option FieldType} {sc : Option (Nat × (Nat → Int32))} {cal : zC} {k : zK}
    (C : zCx p R s m args meth c own cc nL ini D cA fv A ad0 d) (hk : ∀ pc' ls' st' M', k pc' ls' st' M' = some rr → zW p l e R s m args below meth c Q D cA fv A ad0 M0 nL pc' ls' st' M') {pc nxt : Nat} {aux : List Nat} {ld : Option (List Nat)} {ls : zLs} {st : List Value} {M : zM} {i : Fin 4} 
    (hok : zOk own cc nL rt ini (pc, .astore_n i, nxt, aux, ld) = true) (h : stp sc cal (pc, .astore_n i, nxt, aux, ld) ls st M k = some rr) : zW p l e R s m args below meth c Q D cA fv A ad0 M0 nL pc ls st M := by
  obtain ⟨hx, hb, hml, hown, hts, hK, hA, hini, hX, hfv, hfr, hlo⟩ := C
  obtain ⟨x, st, rfl, h⟩ := pA_some h
  obtain ⟨hdg, rfl, hi⟩ := zchk_of2 hok
  have hi := of_decide_eq_true hi
  have hf1 : fv.category = 1 := by rcases hfv with rfl | ⟨t, rfl⟩ <;> rfl
  intro ad H locs L had hn1 hn2 hwf hP hD hS hl
  have hm := zs1_map (ad := ad) hf1 ls i (.ref x)
  have hq := fun L hl => hk _ _ _ _ h ad H locs L had hn1 hn2 hwf hP hD hS hl
  rw [← hm] at hq
  by_cases h0 : x = 0
  · subst h0; exact lv_astore_nN hx hb hdg rfl hl hi rfl hq
  · have e1 : rfv ad x = .ref (ad x) := if_neg h0
    have e2 : zv fv ad (.ref x) = .ref (ad x) := e1
    rw [List.map_cons, e2]
    rw [e2] at hq
    exact lv_astore_n hx hb hdg rfl hl hi rfl hq
theorem ss_astore {p : Program} {l : Launch} {e : Env} {R : Room} {s : State} {m : MethodId} {args : Array Value} {below : List Frame} {meth : Method} {c : Code} {own : String} {cc : ByteArray} {nL : Nat} {ini : Bool} {D : va_G} {cA : Nat → ClassId} {fv : Value} {A : Nat → Prop} {ad0 : Nat → Nat} {d : Nat} {Q : State → Prop} {rr : zR} {M0 : zM} {rt : Option FieldType} {sc : Option (Nat × (Nat → Int32))} {cal : zC} {k : zK}
    (C : zCx p R s m args meth c own cc nL ini D cA fv A ad0 d) (hk : ∀ pc' ls' st' M', k pc' ls' st' M' = some rr → zW p l e R s m args below meth c Q D cA fv A ad0 M0 nL pc' ls' st' M') {pc nxt : Nat} {aux : List Nat} {ld : Option (List Nat)} {ls : zLs} {st : List Value} {M : zM} {i : Nat} 
    (hok : zOk own cc nL rt ini (pc, .astore i, nxt, aux, ld) = true) (h : stp sc cal (pc, .astore i, nxt, aux, ld) ls st M k = some rr) : zW p l e R s m args below meth c Q D cA fv A ad0 M0 nL pc ls st M := by
  obtain ⟨hx, hb, hml, hown, hts, hK, hA, hini, hX, hfv, hfr, hlo⟩ := C
  obtain ⟨x, st, rfl, h⟩ := pA_some h
  obtain ⟨hdg, rfl, hi⟩ := zchk_of2 hok
  have hi := of_decide_eq_true hi
  have hf1 : fv.category = 1 := by rcases hfv with rfl | ⟨t, rfl⟩ <;> rfl
  intro ad H locs L had hn1 hn2 hwf hP hD hS hl
  have hm := zs1_map (ad := ad) hf1 ls i (.ref x)
  have hq := fun L hl => hk _ _ _ _ h ad H locs L had hn1 hn2 hwf hP hD hS hl
  rw [← hm] at hq
  by_cases h0 : x = 0
  · subst h0; exact lv_astoreN hx hb hdg hl hi rfl hq
  · have e1 : rfv ad x = .ref (ad x) := if_neg h0
    have e2 : zv fv ad (.ref x) = .ref (ad x) := e1
    rw [List.map_cons, e2]
    rw [e2] at hq
    exact lv_astore hx hb hdg hl hi rfl hq
theorem ss_iinc {p : Program} {l : Launch} {e : Env} {R : Room} {s : State} {m : MethodId} {args : Array Value} {below : List Frame} {meth : Method} {c : Code} {own : String} {cc : ByteArray} {nL : Nat} {ini : Bool} {D : va_G} {cA : Nat → ClassId} {fv : Value} {A : Nat → Prop} {ad0 : Nat → Nat} {d : Nat} {Q : State → Prop} {rr : zR} {M0 : zM} {rt : Option FieldType} {sc : Option (Nat × (Nat → Int32))} {cal : zC} {k : zK}
    (C : zCx p R s m args meth c own cc nL ini D cA fv A ad0 d) (hk : ∀ pc' ls' st' M', k pc' ls' st' M' = some rr → zW p l e R s m args below meth c Q D cA fv A ad0 M0 nL pc' ls' st' M') {pc nxt : Nat} {aux : List Nat} {ld : Option (List Nat)} {ls : zLs} {st : List Value} {M : zM} {i : Nat} {n : Int} 
    (hok : zOk own cc nL rt ini (pc, .iinc i n, nxt, aux, ld) = true) (h : stp sc cal (pc, .iinc i n, nxt, aux, ld) ls st M k = some rr) : zW p l e R s m args below meth c Q D cA fv A ad0 M0 nL pc ls st M := by
  obtain ⟨hx, hb, hml, hown, hts, hK, hA, hini, hX, hfv, hfr, hlo⟩ := C
  obtain ⟨x, hz, h⟩ := lI_some h
  obtain ⟨hdg, rfl, hi⟩ := zchk_of2 hok
  have hi := of_decide_eq_true hi
  have hf1 : fv.category = 1 := by rcases hfv with rfl | ⟨t, rfl⟩ <;> rfl
  intro ad H locs L had hn1 hn2 hwf hP hD hS hl
  obtain ⟨kk, hkk⟩ := List.mem_iff_getElem?.mp (List.mem_map.mpr ⟨(i, .int x), zl_mem hz, rfl⟩ : (i, Value.int x) ∈ ls.map (zq fv ad))
  refine lv_iinc (v := x + Int32.ofInt n) hx hb hdg hl hkk rfl hi (zs1_map hf1 ls i (.int (x + Int32.ofInt n))) (fun L hl => ?_)
  exact hk _ _ _ _ h ad H locs L had hn1 hn2 hwf hP hD hS hl
theorem ss_iconst {p : Program} {l : Launch} {e : Env} {R : Room} {s : State} {m : MethodId} {args : Array Value} {below : List Frame} {meth : Method} {c : Code} {own : String} {cc : ByteArray} {nL : Nat} {ini : Bool} {D : va_G} {cA : Nat → ClassId} {fv : Value} {A : Nat → Prop} {ad0 : Nat → Nat} {d : Nat} {Q : State → Prop} {rr : zR} {M0 : zM} {rt : Option FieldType} {sc : Option (Nat × (Nat → Int32))} {cal : zC} {k : zK}
    (C : zCx p R s m args meth c own cc nL ini D cA fv A ad0 d) (hk : ∀ pc' ls' st' M', k pc' ls' st' M' = some rr → zW p l e R s m args below meth c Q D cA fv A ad0 M0 nL pc' ls' st' M') {pc nxt : Nat} {aux : List Nat} {ld : Option (List Nat)} {ls : zLs} {st : List Value} {M : zM} {n : Int} 
    (hok : zOk own cc nL rt ini (pc, .iconst n, nxt, aux, ld) = true) (h : stp sc cal (pc, .iconst n, nxt, aux, ld) ls st M k = some rr) : zW p l e R s m args below meth c Q D cA fv A ad0 M0 nL pc ls st M := by
  obtain ⟨hx, hb, hml, hown, hts, hK, hA, hini, hX, hfv, hfr, hlo⟩ := C
  obtain ⟨hdg, rfl⟩ := zchk_of hok
  intro ad H locs L had hn1 hn2 hwf hP hD hS hl
  refine lv_iconst hx hb hdg rfl ?_
  exact hk _ _ _ _ h ad H locs L had hn1 hn2 hwf hP hD hS hl
theorem ss_bipush {p : Program} {l : Launch} {e : Env} {R : Room} {s : State} {m : MethodId} {args : Array Value} {below : List Frame} {meth : Method} {c : Code} {own : String} {cc : ByteArray} {nL : Nat} {ini : Bool} {D : va_G} {cA : Nat → ClassId} {fv : Value} {A : Nat → Prop} {ad0 : Nat → Nat} {d : Nat} {Q : State → Prop} {rr : zR} {M0 : zM} {rt : Option FieldType} {sc : Option (Nat × (Nat → Int32))} {cal : zC} {k : zK}
    (C : zCx p R s m args meth c own cc nL ini D cA fv A ad0 d) (hk : ∀ pc' ls' st' M', k pc' ls' st' M' = some rr → zW p l e R s m args below meth c Q D cA fv A ad0 M0 nL pc' ls' st' M') {pc nxt : Nat} {aux : List Nat} {ld : Option (List Nat)} {ls : zLs} {st : List Value} {M : zM} {n : Int} 
    (hok : zOk own cc nL rt ini (pc, .bipush n, nxt, aux, ld) = true) (h : stp sc cal (pc, .bipush n, nxt, aux, ld) ls st M k = some rr) : zW p l e R s m args below meth c Q D cA fv A ad0 M0 nL pc ls st M := by
  obtain ⟨hx, hb, hml, hown, hts, hK, hA, hini, hX, hfv, hfr, hlo⟩ := C
  obtain ⟨hdg, rfl⟩ := zchk_of hok
  intro ad H locs L had hn1 hn2 hwf hP hD hS hl
  refine lv_bipush hx hb hdg rfl ?_
  exact hk _ _ _ _ h ad H locs L had hn1 hn2 hwf hP hD hS hl
theorem ss_sipush {p : Program} {l : Launch} {e : Env} {R : Room} {s : State} {m : MethodId} {args : Array Value} {below : List Frame} {meth : Method} {c : Code} {own : String} {cc : ByteArray} {nL : Nat} {ini : Bool} {D : va_G} {cA : Nat → ClassId} {fv : Value} {A : Nat → Prop} {ad0 : Nat → Nat} {d : Nat} {Q : State → Prop} {rr : zR} {M0 : zM} {rt : Option FieldType} {sc : Option (Nat × (Nat → Int32))} {cal : zC} {k : zK}
    (C : zCx p R s m args meth c own cc nL ini D cA fv A ad0 d) (hk : ∀ pc' ls' st' M', k pc' ls' st' M' = some rr → zW p l e R s m args below meth c Q D cA fv A ad0 M0 nL pc' ls' st' M') {pc nxt : Nat} {aux : List Nat} {ld : Option (List Nat)} {ls : zLs} {st : List Value} {M : zM} {n : Int} 
    (hok : zOk own cc nL rt ini (pc, .sipush n, nxt, aux, ld) = true) (h : stp sc cal (pc, .sipush n, nxt, aux, ld) ls st M k = some rr) : zW p l e R s m args below meth c Q D cA fv A ad0 M0 nL pc ls st M := by
  obtain ⟨hx, hb, hml, hown, hts, hK, hA, hini, hX, hfv, hfr, hlo⟩ := C
  obtain ⟨hdg, rfl⟩ := zchk_of hok
  intro ad H locs L had hn1 hn2 hwf hP hD hS hl
  refine lv_sipush hx hb hdg rfl ?_
  exact hk _ _ _ _ h ad H locs L had hn1 hn2 hwf hP hD hS hl
theorem ss_lconst {p : Program} {l : Launch} {e : Env} {R : Room} {s : State} {m : MethodId} {args : Array Value} {below : List Frame} {meth : Method} {c : Code} {own : String} {cc : ByteArray} {nL : Nat} {ini : Bool} {D : va_G} {cA : Nat → ClassId} {fv : Value} {A : Nat → Prop} {ad0 : Nat → Nat} {d : Nat} {Q : State → Prop} {rr : zR} {M0 : zM} {rt : Option FieldType} {sc : Option (Nat × (Nat → Int32))} {cal : zC} {k : zK}
    (C : zCx p R s m args meth c own cc nL ini D cA fv A ad0 d) (hk : ∀ pc' ls' st' M', k pc' ls' st' M' = some rr → zW p l e R s m args below meth c Q D cA fv A ad0 M0 nL pc' ls' st' M') {pc nxt : Nat} {aux : List Nat} {ld : Option (List Nat)} {ls : zLs} {st : List Value} {M : zM} {n : Fin 2} 
    (hok : zOk own cc nL rt ini (pc, .lconst n, nxt, aux, ld) = true) (h : stp sc cal (pc, .lconst n, nxt, aux, ld) ls st M k = some rr) : zW p l e R s m args below meth c Q D cA fv A ad0 M0 nL pc ls st M := by
  obtain ⟨hx, hb, hml, hown, hts, hK, hA, hini, hX, hfv, hfr, hlo⟩ := C
  obtain ⟨hdg, rfl⟩ := zchk_of hok
  intro ad H locs L had hn1 hn2 hwf hP hD hS hl
  refine lv_lconst hx hb hdg rfl ?_
  exact hk _ _ _ _ h ad H locs L had hn1 hn2 hwf hP hD hS hl
theorem ss_iadd {p : Program} {l : Launch} {e : Env} {R : Room} {s : State} {m : MethodId} {args : Array Value} {below : List Frame} {meth : Method} {c : Code} {own : String} {cc : ByteArray} {nL : Nat} {ini : Bool} {D : va_G} {cA : Nat → ClassId} {fv : Value} {A : Nat → Prop} {ad0 : Nat → Nat} {d : Nat} {Q : State → Prop} {rr : zR} {M0 : zM} {rt : Option FieldType} {sc : Option (Nat × (Nat → Int32))} {cal : zC} {k : zK}
    (C : zCx p R s m args meth c own cc nL ini D cA fv A ad0 d) (hk : ∀ pc' ls' st' M', k pc' ls' st' M' = some rr → zW p l e R s m args below meth c Q D cA fv A ad0 M0 nL pc' ls' st' M') {pc nxt : Nat} {aux : List Nat} {ld : Option (List Nat)} {ls : zLs} {st : List Value} {M : zM} 
    (hok : zOk own cc nL rt ini (pc, .iadd, nxt, aux, ld) = true) (h : stp sc cal (pc, .iadd, nxt, aux, ld) ls st M k = some rr) : zW p l e R s m args below meth c Q D cA fv A ad0 M0 nL pc ls st M := by
  obtain ⟨hx, hb, hml, hown, hts, hK, hA, hini, hX, hfv, hfr, hlo⟩ := C
  obtain ⟨y, st, rfl, h⟩ := pI_some h
  obtain ⟨x, st, rfl, h⟩ := pI_some h
  obtain ⟨hdg, rfl⟩ := zchk_of hok
  intro ad H locs L had hn1 hn2 hwf hP hD hS hl
  refine lv_iadd hx hb hdg ?_
  exact hk _ _ _ _ h ad H locs L had hn1 hn2 hwf hP hD hS hl
theorem ss_isub {p : Program} {l : Launch} {e : Env} {R : Room} {s : State} {m : MethodId} {args : Array Value} {below : List Frame} {meth : Method} {c : Code} {own : String} {cc : ByteArray} {nL : Nat} {ini : Bool} {D : va_G} {cA : Nat → ClassId} {fv : Value} {A : Nat → Prop} {ad0 : Nat → Nat} {d : Nat} {Q : State → Prop} {rr : zR} {M0 : zM} {rt : Option FieldType} {sc : Option (Nat × (Nat → Int32))} {cal : zC} {k : zK}
    (C : zCx p R s m args meth c own cc nL ini D cA fv A ad0 d) (hk : ∀ pc' ls' st' M', k pc' ls' st' M' = some rr → zW p l e R s m args below meth c Q D cA fv A ad0 M0 nL pc' ls' st' M') {pc nxt : Nat} {aux : List Nat} {ld : Option (List Nat)} {ls : zLs} {st : List Value} {M : zM} 
    (hok : zOk own cc nL rt ini (pc, .isub, nxt, aux, ld) = true) (h : stp sc cal (pc, .isub, nxt, aux, ld) ls st M k = some rr) : zW p l e R s m args below meth c Q D cA fv A ad0 M0 nL pc ls st M := by
  obtain ⟨hx, hb, hml, hown, hts, hK, hA, hini, hX, hfv, hfr, hlo⟩ := C
  obtain ⟨y, st, rfl, h⟩ := pI_some h
  obtain ⟨x, st, rfl, h⟩ := pI_some h
  obtain ⟨hdg, rfl⟩ := zchk_of hok
  intro ad H locs L had hn1 hn2 hwf hP hD hS hl
  refine lv_isub hx hb hdg ?_
  exact hk _ _ _ _ h ad H locs L had hn1 hn2 hwf hP hD hS hl
theorem ss_imul {p : Program} {l : Launch} {e : Env} {R : Room} {s : State} {m : MethodId} {args : Array Value} {below : List Frame} {meth : Method} {c : Code} {own : String} {cc : ByteArray} {nL : Nat} {ini : Bool} {D : va_G} {cA : Nat → ClassId} {fv : Value} {A : Nat → Prop} {ad0 : Nat → Nat} {d : Nat} {Q : State → Prop} {rr : zR} {M0 : zM} {rt : Option FieldType} {sc : Option (Nat × (Nat → Int32))} {cal : zC} {k : zK}
    (C : zCx p R s m args meth c own cc nL ini D cA fv A ad0 d) (hk : ∀ pc' ls' st' M', k pc' ls' st' M' = some rr → zW p l e R s m args below meth c Q D cA fv A ad0 M0 nL pc' ls' st' M') {pc nxt : Nat} {aux : List Nat} {ld : Option (List Nat)} {ls : zLs} {st : List Value} {M : zM} 
    (hok : zOk own cc nL rt ini (pc, .imul, nxt, aux, ld) = true) (h : stp sc cal (pc, .imul, nxt, aux, ld) ls st M k = some rr) : zW p l e R s m args below meth c Q D cA fv A ad0 M0 nL pc ls st M := by
  obtain ⟨hx, hb, hml, hown, hts, hK, hA, hini, hX, hfv, hfr, hlo⟩ := C
  obtain ⟨y, st, rfl, h⟩ := pI_some h
  obtain ⟨x, st, rfl, h⟩ := pI_some h
  obtain ⟨hdg, rfl⟩ := zchk_of hok
  intro ad H locs L had hn1 hn2 hwf hP hD hS hl
  refine lv_imul hx hb hdg ?_
  exact hk _ _ _ _ h ad H locs L had hn1 hn2 hwf hP hD hS hl
theorem ss_iand {p : Program} {l : Launch} {e : Env} {R : Room} {s : State} {m : MethodId} {args : Array Value} {below : List Frame} {meth : Method} {c : Code} {own : String} {cc : ByteArray} {nL : Nat} {ini : Bool} {D : va_G} {cA : Nat → ClassId} {fv : Value} {A : Nat → Prop} {ad0 : Nat → Nat} {d : Nat} {Q : State → Prop} {rr : zR} {M0 : zM} {rt : Option FieldType} {sc : Option (Nat × (Nat → Int32))} {cal : zC} {k : zK}
    (C : zCx p R s m args meth c own cc nL ini D cA fv A ad0 d) (hk : ∀ pc' ls' st' M', k pc' ls' st' M' = some rr → zW p l e R s m args below meth c Q D cA fv A ad0 M0 nL pc' ls' st' M') {pc nxt : Nat} {aux : List Nat} {ld : Option (List Nat)} {ls : zLs} {st : List Value} {M : zM} 
    (hok : zOk own cc nL rt ini (pc, .iand, nxt, aux, ld) = true) (h : stp sc cal (pc, .iand, nxt, aux, ld) ls st M k = some rr) : zW p l e R s m args below meth c Q D cA fv A ad0 M0 nL pc ls st M := by
  obtain ⟨hx, hb, hml, hown, hts, hK, hA, hini, hX, hfv, hfr, hlo⟩ := C
  obtain ⟨y, st, rfl, h⟩ := pI_some h
  obtain ⟨x, st, rfl, h⟩ := pI_some h
  obtain ⟨hdg, rfl⟩ := zchk_of hok
  intro ad H locs L had hn1 hn2 hwf hP hD hS hl
  refine lv_iand hx hb hdg ?_
  exact hk _ _ _ _ h ad H locs L had hn1 hn2 hwf hP hD hS hl
theorem ss_ior {p : Program} {l : Launch} {e : Env} {R : Room} {s : State} {m : MethodId} {args : Array Value} {below : List Frame} {meth : Method} {c : Code} {own : String} {cc : ByteArray} {nL : Nat} {ini : Bool} {D : va_G} {cA : Nat → ClassId} {fv : Value} {A : Nat → Prop} {ad0 : Nat → Nat} {d : Nat} {Q : State → Prop} {rr : zR} {M0 : zM} {rt : Option FieldType} {sc : Option (Nat × (Nat → Int32))} {cal : zC} {k : zK}
    (C : zCx p R s m args meth c own cc nL ini D cA fv A ad0 d) (hk : ∀ pc' ls' st' M', k pc' ls' st' M' = some rr → zW p l e R s m args below meth c Q D cA fv A ad0 M0 nL pc' ls' st' M') {pc nxt : Nat} {aux : List Nat} {ld : Option (List Nat)} {ls : zLs} {st : List Value} {M : zM} 
    (hok : zOk own cc nL rt ini (pc, .ior, nxt, aux, ld) = true) (h : stp sc cal (pc, .ior, nxt, aux, ld) ls st M k = some rr) : zW p l e R s m args below meth c Q D cA fv A ad0 M0 nL pc ls st M := by
  obtain ⟨hx, hb, hml, hown, hts, hK, hA, hini, hX, hfv, hfr, hlo⟩ := C
  obtain ⟨y, st, rfl, h⟩ := pI_some h
  obtain ⟨x, st, rfl, h⟩ := pI_some h
  obtain ⟨hdg, rfl⟩ := zchk_of hok
  intro ad H locs L had hn1 hn2 hwf hP hD hS hl
  refine lv_ior hx hb hdg ?_
  exact hk _ _ _ _ h ad H locs L had hn1 hn2 hwf hP hD hS hl
theorem ss_ixor {p : Program} {l : Launch} {e : Env} {R : Room} {s : State} {m : MethodId} {args : Array Value} {below : List Frame} {meth : Method} {c : Code} {own : String} {cc : ByteArray} {nL : Nat} {ini : Bool} {D : va_G} {cA : Nat → ClassId} {fv : Value} {A : Nat → Prop} {ad0 : Nat → Nat} {d : Nat} {Q : State → Prop} {rr : zR} {M0 : zM} {rt : Option FieldType} {sc : Option (Nat × (Nat → Int32))} {cal : zC} {k : zK}
    (C : zCx p R s m args meth c own cc nL ini D cA fv A ad0 d) (hk : ∀ pc' ls' st' M', k pc' ls' st' M' = some rr → zW p l e R s m args below meth c Q D cA fv A ad0 M0 nL pc' ls' st' M') {pc nxt : Nat} {aux : List Nat} {ld : Option (List Nat)} {ls : zLs} {st : List Value} {M : zM} 
    (hok : zOk own cc nL rt ini (pc, .ixor, nxt, aux, ld) = true) (h : stp sc cal (pc, .ixor, nxt, aux, ld) ls st M k = some rr) : zW p l e R s m args below meth c Q D cA fv A ad0 M0 nL pc ls st M := by
  obtain ⟨hx, hb, hml, hown, hts, hK, hA, hini, hX, hfv, hfr, hlo⟩ := C
  obtain ⟨y, st, rfl, h⟩ := pI_some h
  obtain ⟨x, st, rfl, h⟩ := pI_some h
  obtain ⟨hdg, rfl⟩ := zchk_of hok
  intro ad H locs L had hn1 hn2 hwf hP hD hS hl
  refine lv_ixor hx hb hdg ?_
  exact hk _ _ _ _ h ad H locs L had hn1 hn2 hwf hP hD hS hl
theorem ss_ishl {p : Program} {l : Launch} {e : Env} {R : Room} {s : State} {m : MethodId} {args : Array Value} {below : List Frame} {meth : Method} {c : Code} {own : String} {cc : ByteArray} {nL : Nat} {ini : Bool} {D : va_G} {cA : Nat → ClassId} {fv : Value} {A : Nat → Prop} {ad0 : Nat → Nat} {d : Nat} {Q : State → Prop} {rr : zR} {M0 : zM} {rt : Option FieldType} {sc : Option (Nat × (Nat → Int32))} {cal : zC} {k : zK}
    (C : zCx p R s m args meth c own cc nL ini D cA fv A ad0 d) (hk : ∀ pc' ls' st' M', k pc' ls' st' M' = some rr → zW p l e R s m args below meth c Q D cA fv A ad0 M0 nL pc' ls' st' M') {pc nxt : Nat} {aux : List Nat} {ld : Option (List Nat)} {ls : zLs} {st : List Value} {M : zM} 
    (hok : zOk own cc nL rt ini (pc, .ishl, nxt, aux, ld) = true) (h : stp sc cal (pc, .ishl, nxt, aux, ld) ls st M k = some rr) : zW p l e R s m args below meth c Q D cA fv A ad0 M0 nL pc ls st M := by
  obtain ⟨hx, hb, hml, hown, hts, hK, hA, hini, hX, hfv, hfr, hlo⟩ := C
  obtain ⟨y, st, rfl, h⟩ := pI_some h
  obtain ⟨x, st, rfl, h⟩ := pI_some h
  obtain ⟨hdg, rfl⟩ := zchk_of hok
  intro ad H locs L had hn1 hn2 hwf hP hD hS hl
  refine lv_ishl hx hb hdg ?_
  exact hk _ _ _ _ h ad H locs L had hn1 hn2 hwf hP hD hS hl
theorem ss_ishr {p : Program} {l : Launch} {e : Env} {R : Room} {s : State} {m : MethodId} {args : Array Value} {below : List Frame} {meth : Method} {c : Code} {own : String} {cc : ByteArray} {nL : Nat} {ini : Bool} {D : va_G} {cA : Nat → ClassId} {fv : Value} {A : Nat → Prop} {ad0 : Nat → Nat} {d : Nat} {Q : State → Prop} {rr : zR} {M0 : zM} {rt : Option FieldType} {sc : Option (Nat × (Nat → Int32))} {cal : zC} {k : zK}
    (C : zCx p R s m args meth c own cc nL ini D cA fv A ad0 d) (hk : ∀ pc' ls' st' M', k pc' ls' st' M' = some rr → zW p l e R s m args below meth c Q D cA fv A ad0 M0 nL pc' ls' st' M') {pc nxt : Nat} {aux : List Nat} {ld : Option (List Nat)} {ls : zLs} {st : List Value} {M : zM} 
    (hok : zOk own cc nL rt ini (pc, .ishr, nxt, aux, ld) = true) (h : stp sc cal (pc, .ishr, nxt, aux, ld) ls st M k = some rr) : zW p l e R s m args below meth c Q D cA fv A ad0 M0 nL pc ls st M := by
  obtain ⟨hx, hb, hml, hown, hts, hK, hA, hini, hX, hfv, hfr, hlo⟩ := C
  obtain ⟨y, st, rfl, h⟩ := pI_some h
  obtain ⟨x, st, rfl, h⟩ := pI_some h
  obtain ⟨hdg, rfl⟩ := zchk_of hok
  intro ad H locs L had hn1 hn2 hwf hP hD hS hl
  refine lv_ishr hx hb hdg ?_
  exact hk _ _ _ _ h ad H locs L had hn1 hn2 hwf hP hD hS hl
theorem ss_iushr {p : Program} {l : Launch} {e : Env} {R : Room} {s : State} {m : MethodId} {args : Array Value} {below : List Frame} {meth : Method} {c : Code} {own : String} {cc : ByteArray} {nL : Nat} {ini : Bool} {D : va_G} {cA : Nat → ClassId} {fv : Value} {A : Nat → Prop} {ad0 : Nat → Nat} {d : Nat} {Q : State → Prop} {rr : zR} {M0 : zM} {rt : Option FieldType} {sc : Option (Nat × (Nat → Int32))} {cal : zC} {k : zK}
    (C : zCx p R s m args meth c own cc nL ini D cA fv A ad0 d) (hk : ∀ pc' ls' st' M', k pc' ls' st' M' = some rr → zW p l e R s m args below meth c Q D cA fv A ad0 M0 nL pc' ls' st' M') {pc nxt : Nat} {aux : List Nat} {ld : Option (List Nat)} {ls : zLs} {st : List Value} {M : zM} 
    (hok : zOk own cc nL rt ini (pc, .iushr, nxt, aux, ld) = true) (h : stp sc cal (pc, .iushr, nxt, aux, ld) ls st M k = some rr) : zW p l e R s m args below meth c Q D cA fv A ad0 M0 nL pc ls st M := by
  obtain ⟨hx, hb, hml, hown, hts, hK, hA, hini, hX, hfv, hfr, hlo⟩ := C
  obtain ⟨y, st, rfl, h⟩ := pI_some h
  obtain ⟨x, st, rfl, h⟩ := pI_some h
  obtain ⟨hdg, rfl⟩ := zchk_of hok
  intro ad H locs L had hn1 hn2 hwf hP hD hS hl
  refine lv_iushr (v := (x.toUInt32 >>> (y.toUInt32 &&& 31)).toInt32) hx hb hdg rfl ?_
  exact hk _ _ _ _ h ad H locs L had hn1 hn2 hwf hP hD hS hl
theorem ss_idiv {p : Program} {l : Launch} {e : Env} {R : Room} {s : State} {m : MethodId} {args : Array Value} {below : List Frame} {meth : Method} {c : Code} {own : String} {cc : ByteArray} {nL : Nat} {ini : Bool} {D : va_G} {cA : Nat → ClassId} {fv : Value} {A : Nat → Prop} {ad0 : Nat → Nat} {d : Nat} {Q : State → Prop} {rr : zR} {M0 : zM} {rt : Option FieldType} {sc : Option (Nat × (Nat → Int32))} {cal : zC} {k : zK}
    (C : zCx p R s m args meth c own cc nL ini D cA fv A ad0 d) (hk : ∀ pc' ls' st' M', k pc' ls' st' M' = some rr → zW p l e R s m args below meth c Q D cA fv A ad0 M0 nL pc' ls' st' M') {pc nxt : Nat} {aux : List Nat} {ld : Option (List Nat)} {ls : zLs} {st : List Value} {M : zM} 
    (hok : zOk own cc nL rt ini (pc, .idiv, nxt, aux, ld) = true) (h : stp sc cal (pc, .idiv, nxt, aux, ld) ls st M k = some rr) : zW p l e R s m args below meth c Q D cA fv A ad0 M0 nL pc ls st M := by
  obtain ⟨hx, hb, hml, hown, hts, hK, hA, hini, hX, hfv, hfr, hlo⟩ := C
  obtain ⟨y, st, rfl, h1⟩ := pI_some h
  obtain ⟨x, st, rfl, h2⟩ := pI_some h1
  obtain ⟨hdg, rfl⟩ := zchk_of hok
  clear h h1
  have hne : ¬ y = 0 := fun q => by rw [if_pos q] at h2; cases h2
  rw [if_neg hne] at h2
  intro ad H locs L had hn1 hn2 hwf hP hD hS hl
  refine lv_idiv hx hb hdg hne ?_
  exact hk _ _ _ _ h2 ad H locs L had hn1 hn2 hwf hP hD hS hl
theorem ss_irem {p : Program} {l : Launch} {e : Env} {R : Room} {s : State} {m : MethodId} {args : Array Value} {below : List Frame} {meth : Method} {c : Code} {own : String} {cc : ByteArray} {nL : Nat} {ini : Bool} {D : va_G} {cA : Nat → ClassId} {fv : Value} {A : Nat → Prop} {ad0 : Nat → Nat} {d : Nat} {Q : State → Prop} {rr : zR} {M0 : zM} {rt : Option FieldType} {sc : Option (Nat × (Nat → Int32))} {cal : zC} {k : zK}
    (C : zCx p R s m args meth c own cc nL ini D cA fv A ad0 d) (hk : ∀ pc' ls' st' M', k pc' ls' st' M' = some rr → zW p l e R s m args below meth c Q D cA fv A ad0 M0 nL pc' ls' st' M') {pc nxt : Nat} {aux : List Nat} {ld : Option (List Nat)} {ls : zLs} {st : List Value} {M : zM} 
    (hok : zOk own cc nL rt ini (pc, .irem, nxt, aux, ld) = true) (h : stp sc cal (pc, .irem, nxt, aux, ld) ls st M k = some rr) : zW p l e R s m args below meth c Q D cA fv A ad0 M0 nL pc ls st M := by
  obtain ⟨hx, hb, hml, hown, hts, hK, hA, hini, hX, hfv, hfr, hlo⟩ := C
  obtain ⟨y, st, rfl, h1⟩ := pI_some h
  obtain ⟨x, st, rfl, h2⟩ := pI_some h1
  obtain ⟨hdg, rfl⟩ := zchk_of hok
  clear h h1
  have hne : ¬ y = 0 := fun q => by rw [if_pos q] at h2; cases h2
  rw [if_neg hne] at h2
  intro ad H locs L had hn1 hn2 hwf hP hD hS hl
  refine lv_irem hx hb hdg hne ?_
  exact hk _ _ _ _ h2 ad H locs L had hn1 hn2 hwf hP hD hS hl
theorem ss_ineg {p : Program} {l : Launch} {e : Env} {R : Room} {s : State} {m : MethodId} {args : Array Value} {below : List Frame} {meth : Method} {c : Code} {own : String} {cc : ByteArray} {nL : Nat} {ini : Bool} {D : va_G} {cA : Nat → ClassId} {fv : Value} {A : Nat → Prop} {ad0 : Nat → Nat} {d : Nat} {Q : State → Prop} {rr : zR} {M0 : zM} {rt : Option FieldType} {sc : Option (Nat × (Nat → Int32))} {cal : zC} {k : zK}
    (C : zCx p R s m args meth c own cc nL ini D cA fv A ad0 d) (hk : ∀ pc' ls' st' M', k pc' ls' st' M' = some rr → zW p l e R s m args below meth c Q D cA fv A ad0 M0 nL pc' ls' st' M') {pc nxt : Nat} {aux : List Nat} {ld : Option (List Nat)} {ls : zLs} {st : List Value} {M : zM} 
    (hok : zOk own cc nL rt ini (pc, .ineg, nxt, aux, ld) = true) (h : stp sc cal (pc, .ineg, nxt, aux, ld) ls st M k = some rr) : zW p l e R s m args below meth c Q D cA fv A ad0 M0 nL pc ls st M := by
  obtain ⟨hx, hb, hml, hown, hts, hK, hA, hini, hX, hfv, hfr, hlo⟩ := C
  obtain ⟨x, st, rfl, h⟩ := pI_some h
  obtain ⟨hdg, rfl⟩ := zchk_of hok
  intro ad H locs L had hn1 hn2 hwf hP hD hS hl
  refine lv_ineg hx hb hdg ?_
  exact hk _ _ _ _ h ad H locs L had hn1 hn2 hwf hP hD hS hl
theorem ss_i2b {p : Program} {l : Launch} {e : Env} {R : Room} {s : State} {m : MethodId} {args : Array Value} {below : List Frame} {meth : Method} {c : Code} {own : String} {cc : ByteArray} {nL : Nat} {ini : Bool} {D : va_G} {cA : Nat → ClassId} {fv : Value} {A : Nat → Prop} {ad0 : Nat → Nat} {d : Nat} {Q : State → Prop} {rr : zR} {M0 : zM} {rt : Option FieldType} {sc : Option (Nat × (Nat → Int32))} {cal : zC} {k : zK}
    (C : zCx p R s m args meth c own cc nL ini D cA fv A ad0 d) (hk : ∀ pc' ls' st' M', k pc' ls' st' M' = some rr → zW p l e R s m args below meth c Q D cA fv A ad0 M0 nL pc' ls' st' M') {pc nxt : Nat} {aux : List Nat} {ld : Option (List Nat)} {ls : zLs} {st : List Value} {M : zM} 
    (hok : zOk own cc nL rt ini (pc, .i2b, nxt, aux, ld) = true) (h : stp sc cal (pc, .i2b, nxt, aux, ld) ls st M k = some rr) : zW p l e R s m args below meth c Q D cA fv A ad0 M0 nL pc ls st M := by
  obtain ⟨hx, hb, hml, hown, hts, hK, hA, hini, hX, hfv, hfr, hlo⟩ := C
  obtain ⟨x, st, rfl, h⟩ := pI_some h
  obtain ⟨hdg, rfl⟩ := zchk_of hok
  intro ad H locs L had hn1 hn2 hwf hP hD hS hl
  refine lv_i2b hx hb hdg rfl ?_
  exact hk _ _ _ _ h ad H locs L had hn1 hn2 hwf hP hD hS hl
theorem ss_i2c {p : Program} {l : Launch} {e : Env} {R : Room} {s : State} {m : MethodId} {args : Array Value} {below : List Frame} {meth : Method} {c : Code} {own : String} {cc : ByteArray} {nL : Nat} {ini : Bool} {D : va_G} {cA : Nat → ClassId} {fv : Value} {A : Nat → Prop} {ad0 : Nat → Nat} {d : Nat} {Q : State → Prop} {rr : zR} {M0 : zM} {rt : Option FieldType} {sc : Option (Nat × (Nat → Int32))} {cal : zC} {k : zK}
    (C : zCx p R s m args meth c own cc nL ini D cA fv A ad0 d) (hk : ∀ pc' ls' st' M', k pc' ls' st' M' = some rr → zW p l e R s m args below meth c Q D cA fv A ad0 M0 nL pc' ls' st' M') {pc nxt : Nat} {aux : List Nat} {ld : Option (List Nat)} {ls : zLs} {st : List Value} {M : zM} 
    (hok : zOk own cc nL rt ini (pc, .i2c, nxt, aux, ld) = true) (h : stp sc cal (pc, .i2c, nxt, aux, ld) ls st M k = some rr) : zW p l e R s m args below meth c Q D cA fv A ad0 M0 nL pc ls st M := by
  obtain ⟨hx, hb, hml, hown, hts, hK, hA, hini, hX, hfv, hfr, hlo⟩ := C
  obtain ⟨x, st, rfl, h⟩ := pI_some h
  obtain ⟨hdg, rfl⟩ := zchk_of hok
  intro ad H locs L had hn1 hn2 hwf hP hD hS hl
  refine lv_i2c hx hb hdg rfl ?_
  exact hk _ _ _ _ h ad H locs L had hn1 hn2 hwf hP hD hS hl
theorem ss_i2l {p : Program} {l : Launch} {e : Env} {R : Room} {s : State} {m : MethodId} {args : Array Value} {below : List Frame} {meth : Method} {c : Code} {own : String} {cc : ByteArray} {nL : Nat} {ini : Bool} {D : va_G} {cA : Nat → ClassId} {fv : Value} {A : Nat → Prop} {ad0 : Nat → Nat} {d : Nat} {Q : State → Prop} {rr : zR} {M0 : zM} {rt : Option FieldType} {sc : Option (Nat × (Nat → Int32))} {cal : zC} {k : zK}
    (C : zCx p R s m args meth c own cc nL ini D cA fv A ad0 d) (hk : ∀ pc' ls' st' M', k pc' ls' st' M' = some rr → zW p l e R s m args below meth c Q D cA fv A ad0 M0 nL pc' ls' st' M') {pc nxt : Nat} {aux : List Nat} {ld : Option (List Nat)} {ls : zLs} {st : List Value} {M : zM} 
    (hok : zOk own cc nL rt ini (pc, .i2l, nxt, aux, ld) = true) (h : stp sc cal (pc, .i2l, nxt, aux, ld) ls st M k = some rr) : zW p l e R s m args below meth c Q D cA fv A ad0 M0 nL pc ls st M := by
  obtain ⟨hx, hb, hml, hown, hts, hK, hA, hini, hX, hfv, hfr, hlo⟩ := C
  obtain ⟨x, st, rfl, h⟩ := pI_some h
  obtain ⟨hdg, rfl⟩ := zchk_of hok
  intro ad H locs L had hn1 hn2 hwf hP hD hS hl
  refine lv_i2l hx hb hdg rfl ?_
  exact hk _ _ _ _ h ad H locs L had hn1 hn2 hwf hP hD hS hl
theorem ss_l2i {p : Program} {l : Launch} {e : Env} {R : Room} {s : State} {m : MethodId} {args : Array Value} {below : List Frame} {meth : Method} {c : Code} {own : String} {cc : ByteArray} {nL : Nat} {ini : Bool} {D : va_G} {cA : Nat → ClassId} {fv : Value} {A : Nat → Prop} {ad0 : Nat → Nat} {d : Nat} {Q : State → Prop} {rr : zR} {M0 : zM} {rt : Option FieldType} {sc : Option (Nat × (Nat → Int32))} {cal : zC} {k : zK}
    (C : zCx p R s m args meth c own cc nL ini D cA fv A ad0 d) (hk : ∀ pc' ls' st' M', k pc' ls' st' M' = some rr → zW p l e R s m args below meth c Q D cA fv A ad0 M0 nL pc' ls' st' M') {pc nxt : Nat} {aux : List Nat} {ld : Option (List Nat)} {ls : zLs} {st : List Value} {M : zM} 
    (hok : zOk own cc nL rt ini (pc, .l2i, nxt, aux, ld) = true) (h : stp sc cal (pc, .l2i, nxt, aux, ld) ls st M k = some rr) : zW p l e R s m args below meth c Q D cA fv A ad0 M0 nL pc ls st M := by
  obtain ⟨hx, hb, hml, hown, hts, hK, hA, hini, hX, hfv, hfr, hlo⟩ := C
  obtain ⟨x, st, rfl, h⟩ := pL_some h
  obtain ⟨hdg, rfl⟩ := zchk_of hok
  intro ad H locs L had hn1 hn2 hwf hP hD hS hl
  refine lv_l2i hx hb hdg rfl ?_
  exact hk _ _ _ _ h ad H locs L had hn1 hn2 hwf hP hD hS hl
theorem ss_ladd {p : Program} {l : Launch} {e : Env} {R : Room} {s : State} {m : MethodId} {args : Array Value} {below : List Frame} {meth : Method} {c : Code} {own : String} {cc : ByteArray} {nL : Nat} {ini : Bool} {D : va_G} {cA : Nat → ClassId} {fv : Value} {A : Nat → Prop} {ad0 : Nat → Nat} {d : Nat} {Q : State → Prop} {rr : zR} {M0 : zM} {rt : Option FieldType} {sc : Option (Nat × (Nat → Int32))} {cal : zC} {k : zK}
    (C : zCx p R s m args meth c own cc nL ini D cA fv A ad0 d) (hk : ∀ pc' ls' st' M', k pc' ls' st' M' = some rr → zW p l e R s m args below meth c Q D cA fv A ad0 M0 nL pc' ls' st' M') {pc nxt : Nat} {aux : List Nat} {ld : Option (List Nat)} {ls : zLs} {st : List Value} {M : zM} 
    (hok : zOk own cc nL rt ini (pc, .ladd, nxt, aux, ld) = true) (h : stp sc cal (pc, .ladd, nxt, aux, ld) ls st M k = some rr) : zW p l e R s m args below meth c Q D cA fv A ad0 M0 nL pc ls st M := by
  obtain ⟨hx, hb, hml, hown, hts, hK, hA, hini, hX, hfv, hfr, hlo⟩ := C
  obtain ⟨y, st, rfl, h⟩ := pL_some h
  obtain ⟨x, st, rfl, h⟩ := pL_some h
  obtain ⟨hdg, rfl⟩ := zchk_of hok
  intro ad H locs L had hn1 hn2 hwf hP hD hS hl
  refine lv_ladd hx hb hdg ?_
  exact hk _ _ _ _ h ad H locs L had hn1 hn2 hwf hP hD hS hl
theorem ss_lmul {p : Program} {l : Launch} {e : Env} {R : Room} {s : State} {m : MethodId} {args : Array Value} {below : List Frame} {meth : Method} {c : Code} {own : String} {cc : ByteArray} {nL : Nat} {ini : Bool} {D : va_G} {cA : Nat → ClassId} {fv : Value} {A : Nat → Prop} {ad0 : Nat → Nat} {d : Nat} {Q : State → Prop} {rr : zR} {M0 : zM} {rt : Option FieldType} {sc : Option (Nat × (Nat → Int32))} {cal : zC} {k : zK}
    (C : zCx p R s m args meth c own cc nL ini D cA fv A ad0 d) (hk : ∀ pc' ls' st' M', k pc' ls' st' M' = some rr → zW p l e R s m args below meth c Q D cA fv A ad0 M0 nL pc' ls' st' M') {pc nxt : Nat} {aux : List Nat} {ld : Option (List Nat)} {ls : zLs} {st : List Value} {M : zM} 
    (hok : zOk own cc nL rt ini (pc, .lmul, nxt, aux, ld) = true) (h : stp sc cal (pc, .lmul, nxt, aux, ld) ls st M k = some rr) : zW p l e R s m args below meth c Q D cA fv A ad0 M0 nL pc ls st M := by
  obtain ⟨hx, hb, hml, hown, hts, hK, hA, hini, hX, hfv, hfr, hlo⟩ := C
  obtain ⟨y, st, rfl, h⟩ := pL_some h
  obtain ⟨x, st, rfl, h⟩ := pL_some h
  obtain ⟨hdg, rfl⟩ := zchk_of hok
  intro ad H locs L had hn1 hn2 hwf hP hD hS hl
  refine lv_lmul hx hb hdg ?_
  exact hk _ _ _ _ h ad H locs L had hn1 hn2 hwf hP hD hS hl
theorem ss_lcmp {p : Program} {l : Launch} {e : Env} {R : Room} {s : State} {m : MethodId} {args : Array Value} {below : List Frame} {meth : Method} {c : Code} {own : String} {cc : ByteArray} {nL : Nat} {ini : Bool} {D : va_G} {cA : Nat → ClassId} {fv : Value} {A : Nat → Prop} {ad0 : Nat → Nat} {d : Nat} {Q : State → Prop} {rr : zR} {M0 : zM} {rt : Option FieldType} {sc : Option (Nat × (Nat → Int32))} {cal : zC} {k : zK}
    (C : zCx p R s m args meth c own cc nL ini D cA fv A ad0 d) (hk : ∀ pc' ls' st' M', k pc' ls' st' M' = some rr → zW p l e R s m args below meth c Q D cA fv A ad0 M0 nL pc' ls' st' M') {pc nxt : Nat} {aux : List Nat} {ld : Option (List Nat)} {ls : zLs} {st : List Value} {M : zM} 
    (hok : zOk own cc nL rt ini (pc, .lcmp, nxt, aux, ld) = true) (h : stp sc cal (pc, .lcmp, nxt, aux, ld) ls st M k = some rr) : zW p l e R s m args below meth c Q D cA fv A ad0 M0 nL pc ls st M := by
  obtain ⟨hx, hb, hml, hown, hts, hK, hA, hini, hX, hfv, hfr, hlo⟩ := C
  obtain ⟨y, st, rfl, h⟩ := pL_some h
  obtain ⟨x, st, rfl, h⟩ := pL_some h
  obtain ⟨hdg, rfl⟩ := zchk_of hok
  intro ad H locs L had hn1 hn2 hwf hP hD hS hl
  refine W.lcmp hx hb hdg ?_
  exact hk _ _ _ _ h ad H locs L had hn1 hn2 hwf hP hD hS hl
theorem ss_goto {p : Program} {l : Launch} {e : Env} {R : Room} {s : State} {m : MethodId} {args : Array Value} {below : List Frame} {meth : Method} {c : Code} {own : String} {cc : ByteArray} {nL : Nat} {ini : Bool} {D : va_G} {cA : Nat → ClassId} {fv : Value} {A : Nat → Prop} {ad0 : Nat → Nat} {d : Nat} {Q : State → Prop} {rr : zR} {M0 : zM} {rt : Option FieldType} {sc : Option (Nat × (Nat → Int32))} {cal : zC} {k : zK}
    (C : zCx p R s m args meth c own cc nL ini D cA fv A ad0 d) (hk : ∀ pc' ls' st' M', k pc' ls' st' M' = some rr → zW p l e R s m args below meth c Q D cA fv A ad0 M0 nL pc' ls' st' M') {pc nxt : Nat} {aux : List Nat} {ld : Option (List Nat)} {ls : zLs} {st : List Value} {M : zM} {n : Int} 
    (hok : zOk own cc nL rt ini (pc, .goto n, nxt, aux, ld) = true) (h : stp sc cal (pc, .goto n, nxt, aux, ld) ls st M k = some rr) : zW p l e R s m args below meth c Q D cA fv A ad0 M0 nL pc ls st M := by
  obtain ⟨hx, hb, hml, hown, hts, hK, hA, hini, hX, hfv, hfr, hlo⟩ := C
  have h : k (aux.getD 0 0) ls st M = some rr := h
  obtain ⟨hdg, rfl, hj⟩ := zchk_of2 hok
  have hj := of_decide_eq_true hj
  intro ad H locs L had hn1 hn2 hwf hP hD hS hl
  refine lv_goto hx hb hdg hj ?_
  exact hk _ _ _ _ h ad H locs L had hn1 hn2 hwf hP hD hS hl
theorem ss_ifCond_eq {p : Program} {l : Launch} {e : Env} {R : Room} {s : State} {m : MethodId} {args : Array Value} {below : List Frame} {meth : Method} {c : Code} {own : String} {cc : ByteArray} {nL : Nat} {ini : Bool} {D : va_G} {cA : Nat → ClassId} {fv : Value} {A : Nat → Prop} {ad0 : Nat → Nat} {d : Nat} {Q : State → Prop} {rr : zR} {M0 : zM} {rt : Option FieldType} {sc : Option (Nat × (Nat → Int32))} {cal : zC} {k : zK}
    (C : zCx p R s m args meth c own cc nL ini D cA fv A ad0 d) (hk : ∀ pc' ls' st' M', k pc' ls' st' M' = some rr → zW p l e R s m args below meth c Q D cA fv A ad0 M0 nL pc' ls' st' M') {pc nxt : Nat} {aux : List Nat} {ld : Option (List Nat)} {ls : zLs} {st : List Value} {M : zM} {n : Int} 
    (hok : zOk own cc nL rt ini (pc, .ifCond .eq n, nxt, aux, ld) = true) (h : stp sc cal (pc, .ifCond .eq n, nxt, aux, ld) ls st M k = some rr) : zW p l e R s m args below meth c Q D cA fv A ad0 M0 nL pc ls st M := by
  obtain ⟨hx, hb, hml, hown, hts, hK, hA, hini, hX, hfv, hfr, hlo⟩ := C
  obtain ⟨x, st, rfl, h⟩ := pI_some h
  have h : (if x = 0 then k (aux.getD 0 0) ls st M else k nxt ls st M) = some rr := h
  obtain ⟨hdg, rfl, hj⟩ := zchk_of2 hok
  have hj := of_decide_eq_true hj
  intro ad H locs L had hn1 hn2 hwf hP hD hS hl
  refine lv_if_eq hx hb hdg hj (fun q => by rw [if_pos q] at h; exact hk _ _ _ _ h ad H locs L had hn1 hn2 hwf hP hD hS hl) (fun q => by rw [if_neg q] at h; exact hk _ _ _ _ h ad H locs L had hn1 hn2 hwf hP hD hS hl)
theorem ss_if_icmp_eq {p : Program} {l : Launch} {e : Env} {R : Room} {s : State} {m : MethodId} {args : Array Value} {below : List Frame} {meth : Method} {c : Code} {own : String} {cc : ByteArray} {nL : Nat} {ini : Bool} {D : va_G} {cA : Nat → ClassId} {fv : Value} {A : Nat → Prop} {ad0 : Nat → Nat} {d : Nat} {Q : State → Prop} {rr : zR} {M0 : zM} {rt : Option FieldType} {sc : Option (Nat × (Nat → Int32))} {cal : zC} {k : zK}
    (C : zCx p R s m args meth c own cc nL ini D cA fv A ad0 d) (hk : ∀ pc' ls' st' M', k pc' ls' st' M' = some rr → zW p l e R s m args below meth c Q D cA fv A ad0 M0 nL pc' ls' st' M') {pc nxt : Nat} {aux : List Nat} {ld : Option (List Nat)} {ls : zLs} {st : List Value} {M : zM} {n : Int} 
    (hok : zOk own cc nL rt ini (pc, .if_icmp .eq n, nxt, aux, ld) = true) (h : stp sc cal (pc, .if_icmp .eq n, nxt, aux, ld) ls st M k = some rr) : zW p l e R s m args below meth c Q D cA fv A ad0 M0 nL pc ls st M := by
  obtain ⟨hx, hb, hml, hown, hts, hK, hA, hini, hX, hfv, hfr, hlo⟩ := C
  obtain ⟨y, st, rfl, h⟩ := pI_some h
  obtain ⟨x, st, rfl, h⟩ := pI_some h
  have h : (if x = y then k (aux.getD 0 0) ls st M else k nxt ls st M) = some rr := h
  obtain ⟨hdg, rfl, hj⟩ := zchk_of2 hok
  have hj := of_decide_eq_true hj
  intro ad H locs L had hn1 hn2 hwf hP hD hS hl
  refine lv_icmp_eq hx hb hdg hj (fun q => by rw [if_pos q] at h; exact hk _ _ _ _ h ad H locs L had hn1 hn2 hwf hP hD hS hl) (fun q => by rw [if_neg q] at h; exact hk _ _ _ _ h ad H locs L had hn1 hn2 hwf hP hD hS hl)
theorem ss_ifCond_ne {p : Program} {l : Launch} {e : Env} {R : Room} {s : State} {m : MethodId} {args : Array Value} {below : List Frame} {meth : Method} {c : Code} {own : String} {cc : ByteArray} {nL : Nat} {ini : Bool} {D : va_G} {cA : Nat → ClassId} {fv : Value} {A : Nat → Prop} {ad0 : Nat → Nat} {d : Nat} {Q : State → Prop} {rr : zR} {M0 : zM} {rt : Option FieldType} {sc : Option (Nat × (Nat → Int32))} {cal : zC} {k : zK}
    (C : zCx p R s m args meth c own cc nL ini D cA fv A ad0 d) (hk : ∀ pc' ls' st' M', k pc' ls' st' M' = some rr → zW p l e R s m args below meth c Q D cA fv A ad0 M0 nL pc' ls' st' M') {pc nxt : Nat} {aux : List Nat} {ld : Option (List Nat)} {ls : zLs} {st : List Value} {M : zM} {n : Int} 
    (hok : zOk own cc nL rt ini (pc, .ifCond .ne n, nxt, aux, ld) = true) (h : stp sc cal (pc, .ifCond .ne n, nxt, aux, ld) ls st M k = some rr) : zW p l e R s m args below meth c Q D cA fv A ad0 M0 nL pc ls st M := by
  obtain ⟨hx, hb, hml, hown, hts, hK, hA, hini, hX, hfv, hfr, hlo⟩ := C
  obtain ⟨x, st, rfl, h⟩ := pI_some h
  have h : (if ¬ x = 0 then k (aux.getD 0 0) ls st M else k nxt ls st M) = some rr := h
  obtain ⟨hdg, rfl, hj⟩ := zchk_of2 hok
  have hj := of_decide_eq_true hj
  intro ad H locs L had hn1 hn2 hwf hP hD hS hl
  refine lv_if_ne hx hb hdg hj (fun q => by rw [if_pos q] at h; exact hk _ _ _ _ h ad H locs L had hn1 hn2 hwf hP hD hS hl) (fun q => by rw [if_neg (fun z => z q)] at h; exact hk _ _ _ _ h ad H locs L had hn1 hn2 hwf hP hD hS hl)
theorem ss_if_icmp_ne {p : Program} {l : Launch} {e : Env} {R : Room} {s : State} {m : MethodId} {args : Array Value} {below : List Frame} {meth : Method} {c : Code} {own : String} {cc : ByteArray} {nL : Nat} {ini : Bool} {D : va_G} {cA : Nat → ClassId} {fv : Value} {A : Nat → Prop} {ad0 : Nat → Nat} {d : Nat} {Q : State → Prop} {rr : zR} {M0 : zM} {rt : Option FieldType} {sc : Option (Nat × (Nat → Int32))} {cal : zC} {k : zK}
    (C : zCx p R s m args meth c own cc nL ini D cA fv A ad0 d) (hk : ∀ pc' ls' st' M', k pc' ls' st' M' = some rr → zW p l e R s m args below meth c Q D cA fv A ad0 M0 nL pc' ls' st' M') {pc nxt : Nat} {aux : List Nat} {ld : Option (List Nat)} {ls : zLs} {st : List Value} {M : zM} {n : Int} 
    (hok : zOk own cc nL rt ini (pc, .if_icmp .ne n, nxt, aux, ld) = true) (h : stp sc cal (pc, .if_icmp .ne n, nxt, aux, ld) ls st M k = some rr) : zW p l e R s m args below meth c Q D cA fv A ad0 M0 nL pc ls st M := by
  obtain ⟨hx, hb, hml, hown, hts, hK, hA, hini, hX, hfv, hfr, hlo⟩ := C
  obtain ⟨y, st, rfl, h⟩ := pI_some h
  obtain ⟨x, st, rfl, h⟩ := pI_some h
  have h : (if ¬ x = y then k (aux.getD 0 0) ls st M else k nxt ls st M) = some rr := h
  obtain ⟨hdg, rfl, hj⟩ := zchk_of2 hok
  have hj := of_decide_eq_true hj
  intro ad H locs L had hn1 hn2 hwf hP hD hS hl
  refine lv_icmp_ne hx hb hdg hj (fun q => by rw [if_pos q] at h; exact hk _ _ _ _ h ad H locs L had hn1 hn2 hwf hP hD hS hl) (fun q => by rw [if_neg (fun z => z q)] at h; exact hk _ _ _ _ h ad H locs L had hn1 hn2 hwf hP hD hS hl)
theorem ss_ifCond_lt {p : Program} {l : Launch} {e : Env} {R : Room} {s : State} {m : MethodId} {args : Array Value} {below : List Frame} {meth : Method} {c : Code} {own : String} {cc : ByteArray} {nL : Nat} {ini : Bool} {D : va_G} {cA : Nat → ClassId} {fv : Value} {A : Nat → Prop} {ad0 : Nat → Nat} {d : Nat} {Q : State → Prop} {rr : zR} {M0 : zM} {rt : Option FieldType} {sc : Option (Nat × (Nat → Int32))} {cal : zC} {k : zK}
    (C : zCx p R s m args meth c own cc nL ini D cA fv A ad0 d) (hk : ∀ pc' ls' st' M', k pc' ls' st' M' = some rr → zW p l e R s m args below meth c Q D cA fv A ad0 M0 nL pc' ls' st' M') {pc nxt : Nat} {aux : List Nat} {ld : Option (List Nat)} {ls : zLs} {st : List Value} {M : zM} {n : Int} 
    (hok : zOk own cc nL rt ini (pc, .ifCond .lt n, nxt, aux, ld) = true) (h : stp sc cal (pc, .ifCond .lt n, nxt, aux, ld) ls st M k = some rr) : zW p l e R s m args below meth c Q D cA fv A ad0 M0 nL pc ls st M := by
  obtain ⟨hx, hb, hml, hown, hts, hK, hA, hini, hX, hfv, hfr, hlo⟩ := C
  obtain ⟨x, st, rfl, h⟩ := pI_some h
  have h : (if x < 0 then k (aux.getD 0 0) ls st M else k nxt ls st M) = some rr := h
  obtain ⟨hdg, rfl, hj⟩ := zchk_of2 hok
  have hj := of_decide_eq_true hj
  intro ad H locs L had hn1 hn2 hwf hP hD hS hl
  refine lv_if_lt hx hb hdg hj (fun q => by rw [if_pos q] at h; exact hk _ _ _ _ h ad H locs L had hn1 hn2 hwf hP hD hS hl) (fun q => by rw [if_neg q] at h; exact hk _ _ _ _ h ad H locs L had hn1 hn2 hwf hP hD hS hl)
theorem ss_if_icmp_lt {p : Program} {l : Launch} {e : Env} {R : Room} {s : State} {m : MethodId} {args : Array Value} {below : List Frame} {meth : Method} {c : Code} {own : String} {cc : ByteArray} {nL : Nat} {ini : Bool} {D : va_G} {cA : Nat → ClassId} {fv : Value} {A : Nat → Prop} {ad0 : Nat → Nat} {d : Nat} {Q : State → Prop} {rr : zR} {M0 : zM} {rt : Option FieldType} {sc : Option (Nat × (Nat → Int32))} {cal : zC} {k : zK}
    (C : zCx p R s m args meth c own cc nL ini D cA fv A ad0 d) (hk : ∀ pc' ls' st' M', k pc' ls' st' M' = some rr → zW p l e R s m args below meth c Q D cA fv A ad0 M0 nL pc' ls' st' M') {pc nxt : Nat} {aux : List Nat} {ld : Option (List Nat)} {ls : zLs} {st : List Value} {M : zM} {n : Int} 
    (hok : zOk own cc nL rt ini (pc, .if_icmp .lt n, nxt, aux, ld) = true) (h : stp sc cal (pc, .if_icmp .lt n, nxt, aux, ld) ls st M k = some rr) : zW p l e R s m args below meth c Q D cA fv A ad0 M0 nL pc ls st M := by
  obtain ⟨hx, hb, hml, hown, hts, hK, hA, hini, hX, hfv, hfr, hlo⟩ := C
  obtain ⟨y, st, rfl, h⟩ := pI_some h
  obtain ⟨x, st, rfl, h⟩ := pI_some h
  have h : (if x < y then k (aux.getD 0 0) ls st M else k nxt ls st M) = some rr := h
  obtain ⟨hdg, rfl, hj⟩ := zchk_of2 hok
  have hj := of_decide_eq_true hj
  intro ad H locs L had hn1 hn2 hwf hP hD hS hl
  refine lv_icmp_lt hx hb hdg hj (fun q => by rw [if_pos q] at h; exact hk _ _ _ _ h ad H locs L had hn1 hn2 hwf hP hD hS hl) (fun q => by rw [if_neg q] at h; exact hk _ _ _ _ h ad H locs L had hn1 hn2 hwf hP hD hS hl)
theorem ss_ifCond_ge {p : Program} {l : Launch} {e : Env} {R : Room} {s : State} {m : MethodId} {args : Array Value} {below : List Frame} {meth : Method} {c : Code} {own : String} {cc : ByteArray} {nL : Nat} {ini : Bool} {D : va_G} {cA : Nat → ClassId} {fv : Value} {A : Nat → Prop} {ad0 : Nat → Nat} {d : Nat} {Q : State → Prop} {rr : zR} {M0 : zM} {rt : Option FieldType} {sc : Option (Nat × (Nat → Int32))} {cal : zC} {k : zK}
    (C : zCx p R s m args meth c own cc nL ini D cA fv A ad0 d) (hk : ∀ pc' ls' st' M', k pc' ls' st' M' = some rr → zW p l e R s m args below meth c Q D cA fv A ad0 M0 nL pc' ls' st' M') {pc nxt : Nat} {aux : List Nat} {ld : Option (List Nat)} {ls : zLs} {st : List Value} {M : zM} {n : Int} 
    (hok : zOk own cc nL rt ini (pc, .ifCond .ge n, nxt, aux, ld) = true) (h : stp sc cal (pc, .ifCond .ge n, nxt, aux, ld) ls st M k = some rr) : zW p l e R s m args below meth c Q D cA fv A ad0 M0 nL pc ls st M := by
  obtain ⟨hx, hb, hml, hown, hts, hK, hA, hini, hX, hfv, hfr, hlo⟩ := C
  obtain ⟨x, st, rfl, h⟩ := pI_some h
  have h : (if 0 ≤ x then k (aux.getD 0 0) ls st M else k nxt ls st M) = some rr := h
  obtain ⟨hdg, rfl, hj⟩ := zchk_of2 hok
  have hj := of_decide_eq_true hj
  intro ad H locs L had hn1 hn2 hwf hP hD hS hl
  refine lv_if_ge hx hb hdg hj (fun q => by rw [if_pos q] at h; exact hk _ _ _ _ h ad H locs L had hn1 hn2 hwf hP hD hS hl) (fun q => by rw [if_neg q] at h; exact hk _ _ _ _ h ad H locs L had hn1 hn2 hwf hP hD hS hl)
theorem ss_if_icmp_ge {p : Program} {l : Launch} {e : Env} {R : Room} {s : State} {m : MethodId} {args : Array Value} {below : List Frame} {meth : Method} {c : Code} {own : String} {cc : ByteArray} {nL : Nat} {ini : Bool} {D : va_G} {cA : Nat → ClassId} {fv : Value} {A : Nat → Prop} {ad0 : Nat → Nat} {d : Nat} {Q : State → Prop} {rr : zR} {M0 : zM} {rt : Option FieldType} {sc : Option (Nat × (Nat → Int32))} {cal : zC} {k : zK}
    (C : zCx p R s m args meth c own cc nL ini D cA fv A ad0 d) (hk : ∀ pc' ls' st' M', k pc' ls' st' M' = some rr → zW p l e R s m args below meth c Q D cA fv A ad0 M0 nL pc' ls' st' M') {pc nxt : Nat} {aux : List Nat} {ld : Option (List Nat)} {ls : zLs} {st : List Value} {M : zM} {n : Int} 
    (hok : zOk own cc nL rt ini (pc, .if_icmp .ge n, nxt, aux, ld) = true) (h : stp sc cal (pc, .if_icmp .ge n, nxt, aux, ld) ls st M k = some rr) : zW p l e R s m args below meth c Q D cA fv A ad0 M0 nL pc ls st M := by
  obtain ⟨hx, hb, hml, hown, hts, hK, hA, hini, hX, hfv, hfr, hlo⟩ := C
  obtain ⟨y, st, rfl, h⟩ := pI_some h
  obtain ⟨x, st, rfl, h⟩ := pI_some h
  have h : (if y ≤ x then k (aux.getD 0 0) ls st M else k nxt ls st M) = some rr := h
  obtain ⟨hdg, rfl, hj⟩ := zchk_of2 hok
  have hj := of_decide_eq_true hj
  intro ad H locs L had hn1 hn2 hwf hP hD hS hl
  refine lv_icmp_ge hx hb hdg hj (fun q => by rw [if_pos q] at h; exact hk _ _ _ _ h ad H locs L had hn1 hn2 hwf hP hD hS hl) (fun q => by rw [if_neg q] at h; exact hk _ _ _ _ h ad H locs L had hn1 hn2 hwf hP hD hS hl)
theorem ss_ifCond_gt {p : Program} {l : Launch} {e : Env} {R : Room} {s : State} {m : MethodId} {args : Array Value} {below : List Frame} {meth : Method} {c : Code} {own : String} {cc : ByteArray} {nL : Nat} {ini : Bool} {D : va_G} {cA : Nat → ClassId} {fv : Value} {A : Nat → Prop} {ad0 : Nat → Nat} {d : Nat} {Q : State → Prop} {rr : zR} {M0 : zM} {rt : Option FieldType} {sc : Option (Nat × (Nat → Int32))} {cal : zC} {k : zK}
    (C : zCx p R s m args meth c own cc nL ini D cA fv A ad0 d) (hk : ∀ pc' ls' st' M', k pc' ls' st' M' = some rr → zW p l e R s m args below meth c Q D cA fv A ad0 M0 nL pc' ls' st' M') {pc nxt : Nat} {aux : List Nat} {ld : Option (List Nat)} {ls : zLs} {st : List Value} {M : zM} {n : Int} 
    (hok : zOk own cc nL rt ini (pc, .ifCond .gt n, nxt, aux, ld) = true) (h : stp sc cal (pc, .ifCond .gt n, nxt, aux, ld) ls st M k = some rr) : zW p l e R s m args below meth c Q D cA fv A ad0 M0 nL pc ls st M := by
  obtain ⟨hx, hb, hml, hown, hts, hK, hA, hini, hX, hfv, hfr, hlo⟩ := C
  obtain ⟨x, st, rfl, h⟩ := pI_some h
  have h : (if 0 < x then k (aux.getD 0 0) ls st M else k nxt ls st M) = some rr := h
  obtain ⟨hdg, rfl, hj⟩ := zchk_of2 hok
  have hj := of_decide_eq_true hj
  intro ad H locs L had hn1 hn2 hwf hP hD hS hl
  refine lv_if_gt hx hb hdg hj (fun q => by rw [if_pos q] at h; exact hk _ _ _ _ h ad H locs L had hn1 hn2 hwf hP hD hS hl) (fun q => by rw [if_neg q] at h; exact hk _ _ _ _ h ad H locs L had hn1 hn2 hwf hP hD hS hl)
theorem ss_if_icmp_gt {p : Program} {l : Launch} {e : Env} {R : Room} {s : State} {m : MethodId} {args : Array Value} {below : List Frame} {meth : Method} {c : Code} {own : String} {cc : ByteArray} {nL : Nat} {ini : Bool} {D : va_G} {cA : Nat → ClassId} {fv : Value} {A : Nat → Prop} {ad0 : Nat → Nat} {d : Nat} {Q : State → Prop} {rr : zR} {M0 : zM} {rt : Option FieldType} {sc : Option (Nat × (Nat → Int32))} {cal : zC} {k : zK}
    (C : zCx p R s m args meth c own cc nL ini D cA fv A ad0 d) (hk : ∀ pc' ls' st' M', k pc' ls' st' M' = some rr → zW p l e R s m args below meth c Q D cA fv A ad0 M0 nL pc' ls' st' M') {pc nxt : Nat} {aux : List Nat} {ld : Option (List Nat)} {ls : zLs} {st : List Value} {M : zM} {n : Int} 
    (hok : zOk own cc nL rt ini (pc, .if_icmp .gt n, nxt, aux, ld) = true) (h : stp sc cal (pc, .if_icmp .gt n, nxt, aux, ld) ls st M k = some rr) : zW p l e R s m args below meth c Q D cA fv A ad0 M0 nL pc ls st M := by
  obtain ⟨hx, hb, hml, hown, hts, hK, hA, hini, hX, hfv, hfr, hlo⟩ := C
  obtain ⟨y, st, rfl, h⟩ := pI_some h
  obtain ⟨x, st, rfl, h⟩ := pI_some h
  have h : (if y < x then k (aux.getD 0 0) ls st M else k nxt ls st M) = some rr := h
  obtain ⟨hdg, rfl, hj⟩ := zchk_of2 hok
  have hj := of_decide_eq_true hj
  intro ad H locs L had hn1 hn2 hwf hP hD hS hl
  refine lv_icmp_gt hx hb hdg hj (fun q => by rw [if_pos q] at h; exact hk _ _ _ _ h ad H locs L had hn1 hn2 hwf hP hD hS hl) (fun q => by rw [if_neg q] at h; exact hk _ _ _ _ h ad H locs L had hn1 hn2 hwf hP hD hS hl)
theorem ss_ifCond_le {p : Program} {l : Launch} {e : Env} {R : Room} {s : State} {m : MethodId} {args : Array Value} {below : List Frame} {meth : Method} {c : Code} {own : String} {cc : ByteArray} {nL : Nat} {ini : Bool} {D : va_G} {cA : Nat → ClassId} {fv : Value} {A : Nat → Prop} {ad0 : Nat → Nat} {d : Nat} {Q : State → Prop} {rr : zR} {M0 : zM} {rt : Option FieldType} {sc : Option (Nat × (Nat → Int32))} {cal : zC} {k : zK}
    (C : zCx p R s m args meth c own cc nL ini D cA fv A ad0 d) (hk : ∀ pc' ls' st' M', k pc' ls' st' M' = some rr → zW p l e R s m args below meth c Q D cA fv A ad0 M0 nL pc' ls' st' M') {pc nxt : Nat} {aux : List Nat} {ld : Option (List Nat)} {ls : zLs} {st : List Value} {M : zM} {n : Int} 
    (hok : zOk own cc nL rt ini (pc, .ifCond .le n, nxt, aux, ld) = true) (h : stp sc cal (pc, .ifCond .le n, nxt, aux, ld) ls st M k = some rr) : zW p l e R s m args below meth c Q D cA fv A ad0 M0 nL pc ls st M := by
  obtain ⟨hx, hb, hml, hown, hts, hK, hA, hini, hX, hfv, hfr, hlo⟩ := C
  obtain ⟨x, st, rfl, h⟩ := pI_some h
  have h : (if x ≤ 0 then k (aux.getD 0 0) ls st M else k nxt ls st M) = some rr := h
  obtain ⟨hdg, rfl, hj⟩ := zchk_of2 hok
  have hj := of_decide_eq_true hj
  intro ad H locs L had hn1 hn2 hwf hP hD hS hl
  refine lv_if_le hx hb hdg hj (fun q => by rw [if_pos q] at h; exact hk _ _ _ _ h ad H locs L had hn1 hn2 hwf hP hD hS hl) (fun q => by rw [if_neg q] at h; exact hk _ _ _ _ h ad H locs L had hn1 hn2 hwf hP hD hS hl)
theorem ss_if_icmp_le {p : Program} {l : Launch} {e : Env} {R : Room} {s : State} {m : MethodId} {args : Array Value} {below : List Frame} {meth : Method} {c : Code} {own : String} {cc : ByteArray} {nL : Nat} {ini : Bool} {D : va_G} {cA : Nat → ClassId} {fv : Value} {A : Nat → Prop} {ad0 : Nat → Nat} {d : Nat} {Q : State → Prop} {rr : zR} {M0 : zM} {rt : Option FieldType} {sc : Option (Nat × (Nat → Int32))} {cal : zC} {k : zK}
    (C : zCx p R s m args meth c own cc nL ini D cA fv A ad0 d) (hk : ∀ pc' ls' st' M', k pc' ls' st' M' = some rr → zW p l e R s m args below meth c Q D cA fv A ad0 M0 nL pc' ls' st' M') {pc nxt : Nat} {aux : List Nat} {ld : Option (List Nat)} {ls : zLs} {st : List Value} {M : zM} {n : Int} 
    (hok : zOk own cc nL rt ini (pc, .if_icmp .le n, nxt, aux, ld) = true) (h : stp sc cal (pc, .if_icmp .le n, nxt, aux, ld) ls st M k = some rr) : zW p l e R s m args below meth c Q D cA fv A ad0 M0 nL pc ls st M := by
  obtain ⟨hx, hb, hml, hown, hts, hK, hA, hini, hX, hfv, hfr, hlo⟩ := C
  obtain ⟨y, st, rfl, h⟩ := pI_some h
  obtain ⟨x, st, rfl, h⟩ := pI_some h
  have h : (if x ≤ y then k (aux.getD 0 0) ls st M else k nxt ls st M) = some rr := h
  obtain ⟨hdg, rfl, hj⟩ := zchk_of2 hok
  have hj := of_decide_eq_true hj
  intro ad H locs L had hn1 hn2 hwf hP hD hS hl
  refine lv_icmp_le hx hb hdg hj (fun q => by rw [if_pos q] at h; exact hk _ _ _ _ h ad H locs L had hn1 hn2 hwf hP hD hS hl) (fun q => by rw [if_neg q] at h; exact hk _ _ _ _ h ad H locs L had hn1 hn2 hwf hP hD hS hl)
end
section
/-! THE PURE MACHINE SAYS THE TRUTH, on: memory -/
theorem zst_ref {fv : Value} {ad : Nat → Nat} {r : Nat} (h : 0 < r) : zv fv ad (.ref r) = .ref (ad r) := by
  show rfv ad r = _
  exact if_neg (by omega)
theorem zst_rf {fv : Value} {ad : Nat → Nat} {r : Nat} : zv fv ad (.ref r) = va_rf (if r = 0 then none else some (ad r)) := by
  show rfv ad r = _
  unfold rfv
  by_cases h : r = 0
  · rw [if_pos h, if_pos h]; rfl
  · rw [if_neg h, if_neg h]; rfl
theorem zfld_of {own : String} {i pc nxt : Nat} {ins : Instr} {aux : List Nat} {ld : Option (List Nat)} (h : zfld own i (pc, ins, nxt, aux, ld) = true) : ∃ q : vw_C, zCl[aux.getD 0 0]? = some q ∧ aux.getD 1 0 < q.2.2 ∧ ztc (zTy (aux.getD 0 0) (aux.getD 1 0)) = (if aux.getD 2 0 = 3 then 0 else aux.getD 2 0) ∧ aux.getD 2 0 ≤ 3 ∧ (q.2.1 (aux.getD 1 0)).1 = q.1 ∧
    (if aux.getD 4 0 = 0 then Cond.fieldLink own i q.1 (q.2.1 (aux.getD 1 0)).2.1 (q.2.1 (aux.getD 1 0)).2.2.1 ∈ zTb else Cond.fieldLinkNest own i q.1 (q.2.1 (aux.getD 1 0)).2.1 (q.2.1 (aux.getD 1 0)).2.2.1 "SilkRise" ∈ zTb) := by
  unfold zfld at h
  split at h
  · cases h
  · rename_i q hq
    simp only [Bool.and_eq_true, decide_eq_true_eq] at h
    obtain ⟨⟨⟨⟨h1, h2⟩, h3⟩, h4⟩, h5⟩ := h
    refine ⟨q, hq, h1, h2, h3, h4, ?_⟩
    split at h5
    · rename_i h6
      rw [if_pos h6]
      exact zwd_in h5
    · rename_i h6
      rw [if_neg h6]
      exact zwd_in h5
theorem zcl_lt {ci : Nat} {q : vw_C} (h : zCl[ci]? = some q) : ci < 13 := (List.getElem?_eq_some_iff.mp h).1
theorem ss_dup {p : Program} {l : Launch} {e : Env} {R : Room} {s : State} {m : MethodId} {args : Array Value} {below : List Frame} {meth : Method} {c : Code} {own : String} {cc : ByteArray} {nL : Nat} {ini : Bool} {D : va_G} {cA : Nat → ClassId} {fv : Value} {A : Nat → Prop} {ad0 : Nat → Nat} {d : Nat} {Q : State → Prop} {rr : zR} {M0 : zM} {rt : Option FieldType} {sc : Option (Nat × (Nat → Int32))} {cal : zC} {k : zK}
    (C : zCx p R s m args meth c own cc nL ini D cA fv A ad0 d) (hk : ∀ pc' ls' st' M', k pc' ls' st' M' = some rr → zW p l e R s m args below meth c Q D cA fv A ad0 M0 nL pc' ls' st' M') {pc nxt : Nat} {aux : List Nat} {ld : Option (List Nat)} {ls : zLs} {st : List Value} {M : zM} 
    (hok : zOk own cc nL rt ini (pc, .dup, nxt, aux, ld) = true) (h : stp sc cal (pc, .dup, nxt, aux, ld) ls st M k = some rr) : zW p l e R s m args below meth c Q D cA fv A ad0 M0 nL pc ls st M := by
  obtain ⟨hx, hb, hml, hown, hts, hK, hA, hini, hX, hfv, hfr, hlo⟩ := C
  have h : p1 st (fun v st => k nxt ls (v :: v :: st) M) = some rr := h
  intro ad H locs L had hn1 hn2 hwf hP hD hS hl
  obtain ⟨v, st, rfl, hc, h1⟩ := p1_some (fv := fv) (ad := ad) h
  obtain ⟨hdg, rfl⟩ := zchk_of hok
  refine lv_dup hx hb hdg hc ?_
  exact hk _ _ _ _ h1 ad H locs L had hn1 hn2 hwf hP hD hS hl
theorem ss_pop {p : Program} {l : Launch} {e : Env} {R : Room} {s : State} {m : MethodId} {args : Array Value} {below : List Frame} {meth : Method} {c : Code} {own : String} {cc : ByteArray} {nL : Nat} {ini : Bool} {D : va_G} {cA : Nat → ClassId} {fv : Value} {A : Nat → Prop} {ad0 : Nat → Nat} {d : Nat} {Q : State → Prop} {rr : zR} {M0 : zM} {rt : Option FieldType} {sc : Option (Nat × (Nat → Int32))} {cal : zC} {k : zK}
    (C : zCx p R s m args meth c own cc nL ini D cA fv A ad0 d) (hk : ∀ pc' ls' st' M', k pc' ls' st' M' = some rr → zW p l e R s m args below meth c Q D cA fv A ad0 M0 nL pc' ls' st' M') {pc nxt : Nat} {aux : List Nat} {ld : Option (List Nat)} {ls : zLs} {st : List Value} {M : zM} 
    (hok : zOk own cc nL rt ini (pc, .pop, nxt, aux, ld) = true) (h : stp sc cal (pc, .pop, nxt, aux, ld) ls st M k = some rr) : zW p l e R s m args below meth c Q D cA fv A ad0 M0 nL pc ls st M := by
  obtain ⟨hx, hb, hml, hown, hts, hK, hA, hini, hX, hfv, hfr, hlo⟩ := C
  have h : p1 st (fun v st => k nxt ls st M) = some rr := h
  intro ad H locs L had hn1 hn2 hwf hP hD hS hl
  obtain ⟨v, st, rfl, hc, h1⟩ := p1_some (fv := fv) (ad := ad) h
  obtain ⟨hdg, rfl⟩ := zchk_of hok
  refine lv_pop hx hb hdg hc ?_
  exact hk _ _ _ _ h1 ad H locs L had hn1 hn2 hwf hP hD hS hl
theorem ss_dup2 {p : Program} {l : Launch} {e : Env} {R : Room} {s : State} {m : MethodId} {args : Array Value} {below : List Frame} {meth : Method} {c : Code} {own : String} {cc : ByteArray} {nL : Nat} {ini : Bool} {D : va_G} {cA : Nat → ClassId} {fv : Value} {A : Nat → Prop} {ad0 : Nat → Nat} {d : Nat} {Q : State → Prop} {rr : zR} {M0 : zM} {rt : Option FieldType} {sc : Option (Nat × (Nat → Int32))} {cal : zC} {k : zK}
    (C : zCx p R s m args meth c own cc nL ini D cA fv A ad0 d) (hk : ∀ pc' ls' st' M', k pc' ls' st' M' = some rr → zW p l e R s m args below meth c Q D cA fv A ad0 M0 nL pc' ls' st' M') {pc nxt : Nat} {aux : List Nat} {ld : Option (List Nat)} {ls : zLs} {st : List Value} {M : zM} 
    (hok : zOk own cc nL rt ini (pc, .dup2, nxt, aux, ld) = true) (h : stp sc cal (pc, .dup2, nxt, aux, ld) ls st M k = some rr) : zW p l e R s m args below meth c Q D cA fv A ad0 M0 nL pc ls st M := by
  obtain ⟨hx, hb, hml, hown, hts, hK, hA, hini, hX, hfv, hfr, hlo⟩ := C
  have h : p1 st (fun v st => p1 st fun w st => k nxt ls (v :: w :: v :: w :: st) M) = some rr := h
  intro ad H locs L had hn1 hn2 hwf hP hD hS hl
  obtain ⟨v, st, rfl, hc, h1⟩ := p1_some (fv := fv) (ad := ad) h
  obtain ⟨w, st, rfl, hc2, h2⟩ := p1_some (fv := fv) (ad := ad) h1
  obtain ⟨hdg, rfl⟩ := zchk_of hok
  refine lv_dup2_11 hx hb hdg hc hc2 ?_
  exact hk _ _ _ _ h2 ad H locs L had hn1 hn2 hwf hP hD hS hl
theorem ss_ldc_w {p : Program} {l : Launch} {e : Env} {R : Room} {s : State} {m : MethodId} {args : Array Value} {below : List Frame} {meth : Method} {c : Code} {own : String} {cc : ByteArray} {nL : Nat} {ini : Bool} {D : va_G} {cA : Nat → ClassId} {fv : Value} {A : Nat → Prop} {ad0 : Nat → Nat} {d : Nat} {Q : State → Prop} {rr : zR} {M0 : zM} {rt : Option FieldType} {sc : Option (Nat × (Nat → Int32))} {cal : zC} {k : zK}
    (C : zCx p R s m args meth c own cc nL ini D cA fv A ad0 d) (hk : ∀ pc' ls' st' M', k pc' ls' st' M' = some rr → zW p l e R s m args below meth c Q D cA fv A ad0 M0 nL pc' ls' st' M') {pc nxt : Nat} {aux : List Nat} {ld : Option (List Nat)} {ls : zLs} {st : List Value} {M : zM} {i : Nat} 
    (hok : zOk own cc nL rt ini (pc, .ldc_w i, nxt, aux, ld) = true) (h : stp sc cal (pc, .ldc_w i, nxt, aux, ld) ls st M k = some rr) : zW p l e R s m args below meth c Q D cA fv A ad0 M0 nL pc ls st M := by
  obtain ⟨hx, hb, hml, hown, hts, hK, hA, hini, hX, hfv, hfr, hlo⟩ := C
  have h : k nxt ls (.int (Int32.ofNat (aux.getD 1 0)) :: st) M = some rr := h
  obtain ⟨hdg, rfl, hc⟩ := zchk_of2 hok
  intro ad H locs L had hn1 hn2 hwf hP hD hS hl
  refine lv_ldcw hx hb hown (hts _ (zwd_in hc)) hdg ?_
  exact hk _ _ _ _ h ad H locs L had hn1 hn2 hwf hP hD hS hl
theorem ss_ldc2_w {p : Program} {l : Launch} {e : Env} {R : Room} {s : State} {m : MethodId} {args : Array Value} {below : List Frame} {meth : Method} {c : Code} {own : String} {cc : ByteArray} {nL : Nat} {ini : Bool} {D : va_G} {cA : Nat → ClassId} {fv : Value} {A : Nat → Prop} {ad0 : Nat → Nat} {d : Nat} {Q : State → Prop} {rr : zR} {M0 : zM} {rt : Option FieldType} {sc : Option (Nat × (Nat → Int32))} {cal : zC} {k : zK}
    (C : zCx p R s m args meth c own cc nL ini D cA fv A ad0 d) (hk : ∀ pc' ls' st' M', k pc' ls' st' M' = some rr → zW p l e R s m args below meth c Q D cA fv A ad0 M0 nL pc' ls' st' M') {pc nxt : Nat} {aux : List Nat} {ld : Option (List Nat)} {ls : zLs} {st : List Value} {M : zM} {i : Nat} 
    (hok : zOk own cc nL rt ini (pc, .ldc2_w i, nxt, aux, ld) = true) (h : stp sc cal (pc, .ldc2_w i, nxt, aux, ld) ls st M k = some rr) : zW p l e R s m args below meth c Q D cA fv A ad0 M0 nL pc ls st M := by
  obtain ⟨hx, hb, hml, hown, hts, hK, hA, hini, hX, hfv, hfr, hlo⟩ := C
  have h : k nxt ls (.long (Int64.ofNat (aux.getD 1 0)) :: st) M = some rr := h
  obtain ⟨hdg, rfl, hc⟩ := zchk_of2 hok
  intro ad H locs L had hn1 hn2 hwf hP hD hS hl
  refine lv_ldc2 hx hb hown (hts _ (zwd_in hc)) hdg ?_
  exact hk _ _ _ _ h ad H locs L had hn1 hn2 hwf hP hD hS hl
theorem ss_ldc {p : Program} {l : Launch} {e : Env} {R : Room} {s : State} {m : MethodId} {args : Array Value} {below : List Frame} {meth : Method} {c : Code} {own : String} {cc : ByteArray} {nL : Nat} {ini : Bool} {D : va_G} {cA : Nat → ClassId} {fv : Value} {A : Nat → Prop} {ad0 : Nat → Nat} {d : Nat} {Q : State → Prop} {rr : zR} {M0 : zM} {rt : Option FieldType} {sc : Option (Nat × (Nat → Int32))} {cal : zC} {k : zK}
    (C : zCx p R s m args meth c own cc nL ini D cA fv A ad0 d) (hk : ∀ pc' ls' st' M', k pc' ls' st' M' = some rr → zW p l e R s m args below meth c Q D cA fv A ad0 M0 nL pc' ls' st' M') {pc nxt : Nat} {aux : List Nat} {ld : Option (List Nat)} {ls : zLs} {st : List Value} {M : zM} {i : Nat} 
    (hok : zOk own cc nL rt ini (pc, .ldc i, nxt, aux, ld) = true) (h : stp sc cal (pc, .ldc i, nxt, aux, ld) ls st M k = some rr) : zW p l e R s m args below meth c Q D cA fv A ad0 M0 nL pc ls st M := by
  obtain ⟨hx, hb, hml, hown, hts, hK, hA, hini, hX, hfv, hfr, hlo⟩ := C
  have h : (if aux.getD 0 0 = 0 then k nxt ls (.int (Int32.ofNat (aux.getD 1 0)) :: st) M else k nxt ls (.ref (aux.getD 1 0 + 2) :: st) M) = some rr := h
  obtain ⟨hdg, rfl, hc⟩ := zchk_of2 hok
  have hc : (if aux.getD 0 0 = 0 then _ else _) = true := hc
  by_cases h0 : aux.getD 0 0 = 0
  · rw [if_pos h0] at h hc
    intro ad H locs L had hn1 hn2 hwf hP hD hS hl
    refine lv_ldc hx hb hown (hts _ (zwd_in hc)) hdg ?_
    exact hk _ _ _ _ h ad H locs L had hn1 hn2 hwf hP hD hS hl
  · rw [if_neg h0] at h hc
    have hc1 : own = "SilkRise$Tokens" ∧ (aux.getD 1 0 = 0 ∧ i = 39 ∨ aux.getD 1 0 = 1 ∧ i = 88) := of_decide_eq_true hc
    obtain ⟨ho, hc2⟩ := hc1
    clear hc
    subst ho
    intro ad H locs L had hn1 hn2 hwf hP hD hS hl
    have hq := hk _ _ _ _ h ad H locs L had hn1 hn2 hwf hP hD hS hl
    rw [List.map_cons, zst_ref (by omega), had _ (Or.inl (by rcases hc2 with ⟨e1, _⟩ | ⟨e1, _⟩ <;> omega))] at hq
    rcases hc2 with ⟨e1, rfl⟩ | ⟨e1, rfl⟩
    · refine va_ldcS hx hb hown hX.2.1 hdg ?_
      rw [e1] at hq
      exact hq
    · refine va_ldcS hx hb hown hX.2.2.1 hdg ?_
      rw [e1] at hq
      exact hq
theorem zsw_some {x : Int32} {f : Nat → Option zR} {dflt : Nat} {r : zR} : ∀ (ts : List Nat) (lo : Int), -1000 ≤ lo → lo + ts.length ≤ 1001 → zsw x f dflt lo ts = some r →
    ((x.toInt < lo ∨ lo + ts.length ≤ x.toInt) ∧ f dflt = some r) ∨ ∃ (i : Nat) (t : Nat), ts[i]? = some t ∧ x.toInt = lo + i ∧ f t = some r
  | [], lo, _, _, h => Or.inl ⟨by simp only [List.length_nil]; omega, h⟩
  | t :: ts, lo, h1, h2, h => by
    rw [List.length_cons] at h2
    unfold zsw at h
    have ho : (Int32.ofInt lo).toInt = lo := by
      rw [Int32.toInt_ofInt_of_le (by omega) (by omega)]
    split at h
    · rename_i hx
      refine Or.inr ⟨0, t, rfl, ?_, h⟩
      rw [hx, ho]
      omega
    · rename_i hx
      have hne : x.toInt ≠ lo := fun q => hx (Int32.toInt_inj.mp (q.trans ho.symm))
      rcases zsw_some ts (lo + 1) (by omega) (by omega) h with ⟨h3, h4⟩ | ⟨i, t', h3, h4, h5⟩
      · refine Or.inl ⟨?_, h4⟩
        rw [List.length_cons]
        omega
      · refine Or.inr ⟨i + 1, t', h3, ?_, h5⟩
        omega
theorem ss_tableswitch {p : Program} {l : Launch} {e : Env} {R : Room} {s : State} {m : MethodId} {args : Array Value} {below : List Frame} {meth : Method} {c : Code} {own : String} {cc : ByteArray} {nL : Nat} {ini : Bool} {D : va_G} {cA : Nat → ClassId} {fv : Value} {A : Nat → Prop} {ad0 : Nat → Nat} {d : Nat} {Q : State → Prop} {rr : zR} {M0 : zM} {rt : Option FieldType} {sc : Option (Nat × (Nat → Int32))} {cal : zC} {k : zK}
    (C : zCx p R s m args meth c own cc nL ini D cA fv A ad0 d) (hk : ∀ pc' ls' st' M', k pc' ls' st' M' = some rr → zW p l e R s m args below meth c Q D cA fv A ad0 M0 nL pc' ls' st' M') {pc nxt : Nat} {aux : List Nat} {ld : Option (List Nat)} {ls : zLs} {st : List Value} {M : zM} {df lo hi : Int} {offs : Array Int} 
    (hok : zOk own cc nL rt ini (pc, .tableswitch df lo hi offs, nxt, aux, ld) = true) (h : stp sc cal (pc, .tableswitch df lo hi offs, nxt, aux, ld) ls st M k = some rr) : zW p l e R s m args below meth c Q D cA fv A ad0 M0 nL pc ls st M := by
  obtain ⟨hx, hb, hml, hown, hts, hK, hA, hini, hX, hfv, hfr, hlo⟩ := C
  obtain ⟨x, st, rfl, h1⟩ := pI_some h
  clear h
  have h1 : zsw x (fun t => k t ls st M) (aux.getD 0 0) lo (aux.drop 1) = some rr := h1
  have hok : (decide (decode cc pc = .ok (.tableswitch df lo hi offs, nxt - pc)) && zjmp (pc, .tableswitch df lo hi offs, nxt, aux, ld) df && decide (offs.toList.map (fun o => (pc : Int) + o) = (aux.drop 1).map (fun t => ((t : Nat) : Int))) && decide (hi - lo + 1 = (offs.size : Int)) && decide (-1000 ≤ lo) && decide (hi ≤ 1000)) = true := hok
  simp only [Bool.and_eq_true, decide_eq_true_eq] at hok
  obtain ⟨⟨⟨⟨⟨hdg, hj⟩, hm⟩, hs⟩, hlo1⟩, hhi⟩ := hok
  have hj := of_decide_eq_true hj
  have hlen : offs.size = (aux.drop 1).length := by
    have := congrArg List.length hm
    rw [List.length_map, List.length_map, Array.length_toList] at this
    exact this
  intro ad H locs L had hn1 hn2 hwf hP hD hS hl
  rcases zsw_some _ lo hlo1 (by omega) h1 with ⟨h3, h4⟩ | ⟨i, t, h3, h4, h5⟩
  · refine lv_tableOut hx hb hdg (by omega) hj ?_
    exact hk _ _ _ _ h4 ad H locs L had hn1 hn2 hwf hP hD hS hl
  · have hi1 : i < (aux.drop 1).length := (List.getElem?_eq_some_iff.mp h3).1
    have ho : offs[i]? = some (offs[i]'(by omega)) := Array.getElem?_eq_getElem _
    have hz : (pc : Int) + offs[i]'(by omega) = (t : Int) := by
      have h6 := congrArg (fun l => l[i]?) hm
      simp only [List.getElem?_map, h3, Array.getElem?_toList, ho, Option.map_some] at h6
      exact Option.some.inj h6
    refine lv_tableIn hx hb hdg (by omega) (by omega) (by rw [show (x.toInt - lo).toNat = i by omega]; exact ho) hz ?_
    exact hk _ _ _ _ h5 ad H locs L had hn1 hn2 hwf hP hD hS hl
theorem ss_getfield {p : Program} {l : Launch} {e : Env} {R : Room} {s : State} {m : MethodId} {args : Array Value} {below : List Frame} {meth : Method} {c : Code} {own : String} {cc : ByteArray} {nL : Nat} {ini : Bool} {D : va_G} {cA : Nat → ClassId} {fv : Value} {A : Nat → Prop} {ad0 : Nat → Nat} {d : Nat} {Q : State → Prop} {rr : zR} {M0 : zM} {rt : Option FieldType} {sc : Option (Nat × (Nat → Int32))} {cal : zC} {k : zK}
    (C : zCx p R s m args meth c own cc nL ini D cA fv A ad0 d) (hk : ∀ pc' ls' st' M', k pc' ls' st' M' = some rr → zW p l e R s m args below meth c Q D cA fv A ad0 M0 nL pc' ls' st' M') {pc nxt : Nat} {aux : List Nat} {ld : Option (List Nat)} {ls : zLs} {st : List Value} {M : zM} {i : Nat} 
    (hok : zOk own cc nL rt ini (pc, .getfield i, nxt, aux, ld) = true) (h : stp sc cal (pc, .getfield i, nxt, aux, ld) ls st M k = some rr) : zW p l e R s m args below meth c Q D cA fv A ad0 M0 nL pc ls st M := by
  obtain ⟨hx, hb, hml, hown, hts, hK, hA, hini, hX, hfv, hfr, hlo⟩ := C
  obtain ⟨hdg, rfl, hc⟩ := zchk_of2 hok
  have hc : (if aux.getD 0 0 = 30 then (if aux.getD 1 0 = 0 then zwd (aux.getD 3 0) (.fieldLink own i "java/lang/String" "value" "[B") else zwd (aux.getD 3 0) (.fieldLink own i "java/lang/String" "coder" "B")) else zfld own i (pc, .getfield i, pc + 3, aux, ld) && decide (aux.getD 2 0 ≤ 2)) = true := hc
  have h : (if aux.getD 0 0 = 30 then (if aux.getD 1 0 = 0 then _ else _) else _) = some rr := h
  by_cases h30 : aux.getD 0 0 = 30
  · rw [if_pos h30] at h hc
    by_cases h0 : aux.getD 1 0 = 0
    · rw [if_pos h0] at h hc
      obtain ⟨r, st, rfl, h1⟩ := pA_some h
      obtain ⟨hg, h2⟩ := ite_some h1
      clear h h1
      intro ad H locs L had hn1 hn2 hwf hP hD hS hl
      have hr := zgk30 hg (fun a => by have := hwf.2 a; omega)
      have hq := hk _ _ _ _ h2 ad H locs L had hn1 hn2 hwf hP hD hS hl
      rw [List.map_cons, zst_ref (by omega), had _ (Or.inl (by omega))] at hq
      rw [List.map_cons, zst_ref (by omega), had _ (Or.inl (by omega))]
      rcases hr with rfl | rfl
      · exact vk_getf hx hb (hX.1.1 0 (by omega)).2.2.1 hS hown (hts _ (zwd_in hc)) (fun _ z => z) hdg hq
      · exact vk_getf hx hb (hX.1.1 1 (by omega)).2.2.1 hS hown (hts _ (zwd_in hc)) (fun _ z => z) hdg hq
    · rw [if_neg h0] at h hc
      obtain ⟨r, st, rfl, h1⟩ := pA_some h
      obtain ⟨hg, h2⟩ := ite_some h1
      clear h h1
      intro ad H locs L had hn1 hn2 hwf hP hD hS hl
      have hr := zgk30 hg (fun a => by have := hwf.2 a; omega)
      have hq := hk _ _ _ _ h2 ad H locs L had hn1 hn2 hwf hP hD hS hl
      rw [List.map_cons, zst_ref (by omega), had _ (Or.inl (by omega))]
      rcases hr with rfl | rfl
      · exact vk_getf hx hb (hX.1.1 0 (by omega)).2.1 hS hown (hts _ (zwd_in hc)) (fun _ z => z) hdg hq
      · exact vk_getf hx hb (hX.1.1 1 (by omega)).2.1 hS hown (hts _ (zwd_in hc)) (fun _ z => z) hdg hq
  · rw [if_neg h30] at h hc
    rw [Bool.and_eq_true] at hc
    have ht2 := of_decide_eq_true hc.2
    obtain ⟨q, hq, hj, ht, -, hown2, hlk⟩ := zfld_of hc.1
    rw [if_neg (by omega)] at ht
    obtain ⟨hin, hty, hnm, hN⟩ := zcl_ok2 _ q hq
    have hci := zcl_lt hq
    have key : ∀ (r : Nat) (st : List Value), gK M r = aux.getD 0 0 → (∀ (ad : Nat → Nat) (H : Heap) (locs : List Loc) (L : Array Slot), (∀ r, (r < M0.1.1 + 7 ∨ M.1.1 + 7 ≤ r) → ad r = ad0 r) → M0.1.1 ≤ M.1.1 → M0.1.2.1 ≤ M.1.2.1 → zwf M → va_P D zCl (zws ad cA M) H → va_D A (zws ad cA M) → va_S A s.heap H locs → lv_has L nL (ls.map (zq fv ad)) → W p l e R s m args below meth c H locs (M.1.1 - M0.1.1) (M.1.2.1 - M0.1.2.1) Q (F0 m (pc + 3) L (zsv ad M r (aux.getD 0 0) (aux.getD 1 0) :: st.map (zv fv ad)))) → zW p l e R s m args below meth c Q D cA fv A ad0 M0 nL pc ls (.ref r :: st) M := by
      intro r st hg kk
      intro ad H locs L had hn1 hn2 hwf hP hD hS hl
      obtain ⟨g1, g2, g3⟩ := zgk hg (by omega) (by omega) (by omega)
      have hget := zws_get (ad := ad) (cA := cA) g1 g2
      rw [zce_obj g3 hci] at hget
      have hv := zfs_get (ad := ad) (M := M) (r := r) (ci := aux.getD 0 0) (j := aux.getD 1 0) (by rw [hN]; exact hj)
      rw [List.map_cons, zst_ref (by omega)]
      have kk := kk ad H locs L had hn1 hn2 hwf hP hD hS hl
      by_cases h4 : aux.getD 4 0 = 0
      · rw [if_pos h4] at hlk
        exact va_get hx hb hts hin hown hK hP (r - 7) hget hq (aux.getD 1 0) hj (hts _ hlk) (fun x hx => by rw [hown2] at hx; exact hx) hv hdg kk
      · rw [if_neg h4] at hlk
        exact va_getN hx hb hts hin hown hK hP (r - 7) hget hq (aux.getD 1 0) hj (hts _ hlk) (fun x hx => by rw [hown2] at hx; exact hx) hv hdg kk
    have h : (if aux.getD 2 0 = 0 then _ else if aux.getD 2 0 = 1 then _ else _) = some rr := h
    by_cases h0 : aux.getD 2 0 = 0
    · rw [if_pos h0] at h
      obtain ⟨r, st, rfl, h1⟩ := pA_some h
      obtain ⟨hg, h2⟩ := ite_some h1
      clear h h1
      refine key r st hg fun ad H locs L had hn1 hn2 hwf hP hD hS hl => ?_
      have e1 : zsv ad M r (aux.getD 0 0) (aux.getD 1 0) = .int (gI M r (aux.getD 1 0)) := if_pos (by omega)
      rw [e1]
      exact hk _ _ _ _ h2 ad H locs L had hn1 hn2 hwf hP hD hS hl
    · rw [if_neg h0] at h
      by_cases h1 : aux.getD 2 0 = 1
      · rw [if_pos h1] at h
        obtain ⟨r, st, rfl, h3⟩ := pA_some h
        obtain ⟨hg, h2⟩ := ite_some h3
        clear h h3
        refine key r st hg fun ad H locs L had hn1 hn2 hwf hP hD hS hl => ?_
        have e1 : zsv ad M r (aux.getD 0 0) (aux.getD 1 0) = .long (gL M r (aux.getD 1 0)) := by unfold zsv; rw [if_neg (by omega), if_pos (by omega)]
        rw [e1]
        exact hk _ _ _ _ h2 ad H locs L had hn1 hn2 hwf hP hD hS hl
      · rw [if_neg h1] at h
        obtain ⟨r, st, rfl, h3⟩ := pA_some h
        obtain ⟨hg, h2⟩ := ite_some h3
        clear h h3
        refine key r st hg fun ad H locs L had hn1 hn2 hwf hP hD hS hl => ?_
        have e1 : zsv ad M r (aux.getD 0 0) (aux.getD 1 0) = rfv ad (gR M r (aux.getD 1 0)) := by unfold zsv; rw [if_neg (by omega), if_neg (by omega)]
        rw [e1]
        exact hk _ _ _ _ h2 ad H locs L had hn1 hn2 hwf hP hD hS hl
theorem ztc_fit0 {ty : FieldType} (h : ztc ty = 0) (hb : ty ≠ .boolean) (x : Int32) : narrow ty (.int x) = .int x ∧ fits ty (.int x) = true := by
  cases ty <;> first | exact ⟨rfl, rfl⟩ | exact absurd rfl hb | cases h
theorem ztc_fitB {ty : FieldType} (h : ztc ty = 0) {x : Int32} (hx : x = 0 ∨ x = 1) : narrow ty (.int x) = .int x ∧ fits ty (.int x) = true := by
  rcases hx with rfl | rfl
  · cases ty <;> first | exact ⟨rfl, rfl⟩ | cases h
  · cases ty <;> first | exact ⟨rfl, rfl⟩ | cases h
theorem ztc_fit1 {ty : FieldType} (h : ztc ty = 1) (x : Int64) : narrow ty (.long x) = .long x ∧ fits ty (.long x) = true := by
  cases ty <;> first | exact ⟨rfl, rfl⟩ | cases h
theorem ztc_fit2 {ty : FieldType} (h : ztc ty = 2) (ad : Nat → Nat) (x : Nat) : narrow ty (rfv ad x) = rfv ad x ∧ fits ty (rfv ad x) = true := by
  by_cases hx : x = 0
  · rw [show rfv ad x = .null from if_pos hx]
    cases ty <;> first | exact ⟨rfl, rfl⟩ | cases h
  · rw [show rfv ad x = .ref (ad x) from if_neg hx]
    cases ty <;> first | exact ⟨rfl, rfl⟩ | cases h
theorem ss_putfield {p : Program} {l : Launch} {e : Env} {R : Room} {s : State} {m : MethodId} {args : Array Value} {below : List Frame} {meth : Method} {c : Code} {own : String} {cc : ByteArray} {nL : Nat} {ini : Bool} {D : va_G} {cA : Nat → ClassId} {fv : Value} {A : Nat → Prop} {ad0 : Nat → Nat} {d : Nat} {Q : State → Prop} {rr : zR} {M0 : zM} {rt : Option FieldType} {sc : Option (Nat × (Nat → Int32))} {cal : zC} {k : zK}
    (C : zCx p R s m args meth c own cc nL ini D cA fv A ad0 d) (hk : ∀ pc' ls' st' M', k pc' ls' st' M' = some rr → zW p l e R s m args below meth c Q D cA fv A ad0 M0 nL pc' ls' st' M') {pc nxt : Nat} {aux : List Nat} {ld : Option (List Nat)} {ls : zLs} {st : List Value} {M : zM} {i : Nat} 
    (hok : zOk own cc nL rt ini (pc, .putfield i, nxt, aux, ld) = true) (h : stp sc cal (pc, .putfield i, nxt, aux, ld) ls st M k = some rr) : zW p l e R s m args below meth c Q D cA fv A ad0 M0 nL pc ls st M := by
  obtain ⟨hx, hb, hml, hown, hts, hK, hA, hini, hX, hfv, hfr, hlo⟩ := C
  have hok : (zchk cc (pc, .putfield i, nxt, aux, ld) 3 && zfld own i (pc, .putfield i, nxt, aux, ld) && zfin own ini (pc, .putfield i, nxt, aux, ld) && decide (zTy (aux.getD 0 0) (aux.getD 1 0) = .boolean → aux.getD 2 0 = 3)) = true := hok
  simp only [Bool.and_eq_true] at hok
  obtain ⟨⟨⟨hok, hc⟩, hfin⟩, hbo⟩ := hok
  have hbo := of_decide_eq_true hbo
  obtain ⟨hdg, rfl⟩ := zchk_of hok
  obtain ⟨q, hq, hj, ht, ht2, hown2, hlk⟩ := zfld_of hc
  obtain ⟨hin, hty, hnm, hN⟩ := zcl_ok2 _ q hq
  have hci := zcl_lt hq
  have hfin : (if (q.2.1 (aux.getD 1 0)).2.2.2 = true then ini && decide (q.1 = own) && decide (aux.getD 4 0 = 0) else true) = true := by
    unfold zfin at hfin
    dsimp only [ax] at hfin
    rw [hq] at hfin
    exact hfin
  have h : (if aux.getD 2 0 = 3 then _ else if aux.getD 2 0 = 0 then _ else if aux.getD 2 0 = 1 then _ else _) = some rr := h
  by_cases hb3 : aux.getD 2 0 = 3
  · rw [if_pos hb3] at h ht
    obtain ⟨x, st, rfl, h3⟩ := pI_some h
    obtain ⟨r, st, rfl, h4⟩ := pA_some h3
    obtain ⟨hg, h2⟩ := ite_some h4
    clear h h3 h4
    have hg : gK M r = aux.getD 0 0 ∧ (x = 0 ∨ x = 1) := hg
    intro ad H locs L had hn1 hn2 hwf hP hD hS hl
    obtain ⟨g1, g2, g3⟩ := zgk hg.1 (by omega) (by omega) (by omega)
    have hget := zws_get (ad := ad) (cA := cA) g1 g2
    rw [zce_obj g3 hci] at hget
    rw [List.map_cons, List.map_cons, zst_ref (r := r) (by omega)]
    have kk : ∀ (H1 : Heap) (locs1 : List Loc), va_P D zCl ((zws ad cA M).set (r - 7) (ad r, .inr (aux.getD 0 0, (zfs ad M r (aux.getD 0 0)).set (aux.getD 1 0) (.int x)))) H1 → va_D A ((zws ad cA M).set (r - 7) (ad r, .inr (aux.getD 0 0, (zfs ad M r (aux.getD 0 0)).set (aux.getD 1 0) (.int x)))) → va_S A s.heap H1 locs1 → W p l e R s m args below meth c H1 locs1 (M.1.1 - M0.1.1) (M.1.2.1 - M0.1.2.1) Q (F0 m (pc + 3) L (st.map (zv fv ad))) := by
      intro H1 locs1 hP hD hS
      rw [← zws_sIf g1 g2 g3 hci (j := aux.getD 1 0) (x := x) (by rw [hN]; exact hj) (ht.trans (by omega))] at hP hD
      exact hk _ _ _ _ h2 ad H1 locs1 L had hn1 hn2 hwf hP hD hS hl
    have hft := ztc_fitB (ty := zTy (aux.getD 0 0) (aux.getD 1 0)) (ht.trans (by omega)) hg.2
    have hlen : aux.getD 1 0 < (zfs ad M r (aux.getD 0 0)).length := by rw [zfs_len, hN]; exact hj
    by_cases h4 : aux.getD 4 0 = 0
    · rw [if_pos h4] at hlk
      by_cases h5 : (q.2.1 (aux.getD 1 0)).2.2.2 = true
      · rw [if_pos h5] at hfin
        simp only [Bool.and_eq_true, decide_eq_true_eq] at hfin
        exact va_putF hx hb hts hin (zTy (aux.getD 0 0)) hty hnm hown hK hP hD hS (r - 7) hget hq (aux.getD 1 0) hj (hts _ hlk) (fun x hx => by rw [hown2] at hx; exact hx) h5 (hini hfin.1.1) (hown2.trans hfin.1.2) (hty _ hj) hft.1 hft.2 hlen hdg kk
      · exact va_put hx hb hts hin (zTy (aux.getD 0 0)) hty hnm hown hK hP hD hS (r - 7) hget hq (aux.getD 1 0) hj (hts _ hlk) (fun x hx => by rw [hown2] at hx; exact hx) (by simpa using h5) (hty _ hj) hft.1 hft.2 hlen hdg kk
    · rw [if_neg h4] at hlk
      have h5 : (q.2.1 (aux.getD 1 0)).2.2.2 = false := by
        cases hv : (q.2.1 (aux.getD 1 0)).2.2.2 with
        | false => rfl
        | true =>
          rw [if_pos hv] at hfin
          simp only [Bool.and_eq_true, decide_eq_true_eq] at hfin
          exact absurd hfin.2 h4
      exact va_putN hx hb hts hin (zTy (aux.getD 0 0)) hty hnm hown hK hP hD hS (r - 7) hget hq (aux.getD 1 0) hj (hts _ hlk) (fun x hx => by rw [hown2] at hx; exact hx) h5 (hty _ hj) hft.1 hft.2 hlen hdg kk
  · rw [if_neg hb3] at h ht
    by_cases h0 : aux.getD 2 0 = 0
    · rw [if_pos h0] at h
      obtain ⟨x, st, rfl, h3⟩ := pI_some h
      obtain ⟨r, st, rfl, h4⟩ := pA_some h3
      obtain ⟨hg, h2⟩ := ite_some h4
      clear h h3 h4
      have hg : gK M r = aux.getD 0 0 := hg
      intro ad H locs L had hn1 hn2 hwf hP hD hS hl
      obtain ⟨g1, g2, g3⟩ := zgk hg (by omega) (by omega) (by omega)
      have hget := zws_get (ad := ad) (cA := cA) g1 g2
      rw [zce_obj g3 hci] at hget
      rw [List.map_cons, List.map_cons, zst_ref (r := r) (by omega)]
      have kk : ∀ (H1 : Heap) (locs1 : List Loc), va_P D zCl ((zws ad cA M).set (r - 7) (ad r, .inr (aux.getD 0 0, (zfs ad M r (aux.getD 0 0)).set (aux.getD 1 0) (.int x)))) H1 → va_D A ((zws ad cA M).set (r - 7) (ad r, .inr (aux.getD 0 0, (zfs ad M r (aux.getD 0 0)).set (aux.getD 1 0) (.int x)))) → va_S A s.heap H1 locs1 → W p l e R s m args below meth c H1 locs1 (M.1.1 - M0.1.1) (M.1.2.1 - M0.1.2.1) Q (F0 m (pc + 3) L (st.map (zv fv ad))) := by
        intro H1 locs1 hP hD hS
        rw [← zws_sIf g1 g2 g3 hci (j := aux.getD 1 0) (x := x) (by rw [hN]; exact hj) (ht.trans (by omega))] at hP hD
        exact hk _ _ _ _ h2 ad H1 locs1 L had hn1 hn2 hwf hP hD hS hl
      have hft := ztc_fit0 (ty := zTy (aux.getD 0 0) (aux.getD 1 0)) (ht.trans (by omega)) (fun q => by have := hbo q; omega) x
      have hlen : aux.getD 1 0 < (zfs ad M r (aux.getD 0 0)).length := by rw [zfs_len, hN]; exact hj
      by_cases h4 : aux.getD 4 0 = 0
      · rw [if_pos h4] at hlk
        by_cases h5 : (q.2.1 (aux.getD 1 0)).2.2.2 = true
        · rw [if_pos h5] at hfin
          simp only [Bool.and_eq_true, decide_eq_true_eq] at hfin
          exact va_putF hx hb hts hin (zTy (aux.getD 0 0)) hty hnm hown hK hP hD hS (r - 7) hget hq (aux.getD 1 0) hj (hts _ hlk) (fun x hx => by rw [hown2] at hx; exact hx) h5 (hini hfin.1.1) (hown2.trans hfin.1.2) (hty _ hj) hft.1 hft.2 hlen hdg kk
        · exact va_put hx hb hts hin (zTy (aux.getD 0 0)) hty hnm hown hK hP hD hS (r - 7) hget hq (aux.getD 1 0) hj (hts _ hlk) (fun x hx => by rw [hown2] at hx; exact hx) (by simpa using h5) (hty _ hj) hft.1 hft.2 hlen hdg kk
      · rw [if_neg h4] at hlk
        have h5 : (q.2.1 (aux.getD 1 0)).2.2.2 = false := by
          cases hv : (q.2.1 (aux.getD 1 0)).2.2.2 with
          | false => rfl
          | true =>
            rw [if_pos hv] at hfin
            simp only [Bool.and_eq_true, decide_eq_true_eq] at hfin
            exact absurd hfin.2 h4
        exact va_putN hx hb hts hin (zTy (aux.getD 0 0)) hty hnm hown hK hP hD hS (r - 7) hget hq (aux.getD 1 0) hj (hts _ hlk) (fun x hx => by rw [hown2] at hx; exact hx) h5 (hty _ hj) hft.1 hft.2 hlen hdg kk
    · rw [if_neg h0] at h
      by_cases h1 : aux.getD 2 0 = 1
      · rw [if_pos h1] at h
        obtain ⟨x, st, rfl, h3⟩ := pL_some h
        obtain ⟨r, st, rfl, h4⟩ := pA_some h3
        obtain ⟨hg, h2⟩ := ite_some h4
        clear h h3 h4
        have hg : gK M r = aux.getD 0 0 := hg
        intro ad H locs L had hn1 hn2 hwf hP hD hS hl
        obtain ⟨g1, g2, g3⟩ := zgk hg (by omega) (by omega) (by omega)
        have hget := zws_get (ad := ad) (cA := cA) g1 g2
        rw [zce_obj g3 hci] at hget
        rw [List.map_cons, List.map_cons, zst_ref (r := r) (by omega)]
        have kk : ∀ (H1 : Heap) (locs1 : List Loc), va_P D zCl ((zws ad cA M).set (r - 7) (ad r, .inr (aux.getD 0 0, (zfs ad M r (aux.getD 0 0)).set (aux.getD 1 0) (.long x)))) H1 → va_D A ((zws ad cA M).set (r - 7) (ad r, .inr (aux.getD 0 0, (zfs ad M r (aux.getD 0 0)).set (aux.getD 1 0) (.long x)))) → va_S A s.heap H1 locs1 → W p l e R s m args below meth c H1 locs1 (M.1.1 - M0.1.1) (M.1.2.1 - M0.1.2.1) Q (F0 m (pc + 3) L (st.map (zv fv ad))) := by
          intro H1 locs1 hP hD hS
          rw [← zws_sLf g1 g2 g3 hci (j := aux.getD 1 0) (x := x) (by rw [hN]; exact hj) (ht.trans (by omega))] at hP hD
          exact hk _ _ _ _ h2 ad H1 locs1 L had hn1 hn2 hwf hP hD hS hl
        have hft := ztc_fit1 (ty := zTy (aux.getD 0 0) (aux.getD 1 0)) (ht.trans (by omega)) x
        have hlen : aux.getD 1 0 < (zfs ad M r (aux.getD 0 0)).length := by rw [zfs_len, hN]; exact hj
        by_cases h4 : aux.getD 4 0 = 0
        · rw [if_pos h4] at hlk
          by_cases h5 : (q.2.1 (aux.getD 1 0)).2.2.2 = true
          · rw [if_pos h5] at hfin
            simp only [Bool.and_eq_true, decide_eq_true_eq] at hfin
            exact va_putF hx hb hts hin (zTy (aux.getD 0 0)) hty hnm hown hK hP hD hS (r - 7) hget hq (aux.getD 1 0) hj (hts _ hlk) (fun x hx => by rw [hown2] at hx; exact hx) h5 (hini hfin.1.1) (hown2.trans hfin.1.2) (hty _ hj) hft.1 hft.2 hlen hdg kk
          · exact va_put hx hb hts hin (zTy (aux.getD 0 0)) hty hnm hown hK hP hD hS (r - 7) hget hq (aux.getD 1 0) hj (hts _ hlk) (fun x hx => by rw [hown2] at hx; exact hx) (by simpa using h5) (hty _ hj) hft.1 hft.2 hlen hdg kk
        · rw [if_neg h4] at hlk
          have h5 : (q.2.1 (aux.getD 1 0)).2.2.2 = false := by
            cases hv : (q.2.1 (aux.getD 1 0)).2.2.2 with
            | false => rfl
            | true =>
              rw [if_pos hv] at hfin
              simp only [Bool.and_eq_true, decide_eq_true_eq] at hfin
              exact absurd hfin.2 h4
          exact va_putN hx hb hts hin (zTy (aux.getD 0 0)) hty hnm hown hK hP hD hS (r - 7) hget hq (aux.getD 1 0) hj (hts _ hlk) (fun x hx => by rw [hown2] at hx; exact hx) h5 (hty _ hj) hft.1 hft.2 hlen hdg kk
      · rw [if_neg h1] at h
        obtain ⟨x, st, rfl, h3⟩ := pA_some h
        obtain ⟨r, st, rfl, h4⟩ := pA_some h3
        obtain ⟨hg, h2⟩ := ite_some h4
        clear h h3 h4
        have hg : gK M r = aux.getD 0 0 ∧ x < M.1.1 + 7 := hg
        intro ad H locs L had hn1 hn2 hwf hP hD hS hl
        obtain ⟨g1, g2, g3⟩ := zgk hg.1 (by omega) (by omega) (by omega)
        have hget := zws_get (ad := ad) (cA := cA) g1 g2
        rw [zce_obj g3 hci] at hget
        rw [List.map_cons, List.map_cons, zst_ref (r := r) (by omega)]
        have kk : ∀ (H1 : Heap) (locs1 : List Loc), va_P D zCl ((zws ad cA M).set (r - 7) (ad r, .inr (aux.getD 0 0, (zfs ad M r (aux.getD 0 0)).set (aux.getD 1 0) (rfv ad x)))) H1 → va_D A ((zws ad cA M).set (r - 7) (ad r, .inr (aux.getD 0 0, (zfs ad M r (aux.getD 0 0)).set (aux.getD 1 0) (rfv ad x)))) → va_S A s.heap H1 locs1 → W p l e R s m args below meth c H1 locs1 (M.1.1 - M0.1.1) (M.1.2.1 - M0.1.2.1) Q (F0 m (pc + 3) L (st.map (zv fv ad))) := by
          intro H1 locs1 hP hD hS
          rw [← zws_sRf g1 g2 g3 hci (j := aux.getD 1 0) (x := x) (by rw [hN]; exact hj) (ht.trans (by omega))] at hP hD
          exact hk _ _ _ _ h2 ad H1 locs1 L had hn1 hn2 (zwf_sR hwf hg.2) hP hD hS hl
        have hft := ztc_fit2 (ty := zTy (aux.getD 0 0) (aux.getD 1 0)) (ht.trans (by omega)) ad x
        have hlen : aux.getD 1 0 < (zfs ad M r (aux.getD 0 0)).length := by rw [zfs_len, hN]; exact hj
        by_cases h4 : aux.getD 4 0 = 0
        · rw [if_pos h4] at hlk
          by_cases h5 : (q.2.1 (aux.getD 1 0)).2.2.2 = true
          · rw [if_pos h5] at hfin
            simp only [Bool.and_eq_true, decide_eq_true_eq] at hfin
            exact va_putF hx hb hts hin (zTy (aux.getD 0 0)) hty hnm hown hK hP hD hS (r - 7) hget hq (aux.getD 1 0) hj (hts _ hlk) (fun x hx => by rw [hown2] at hx; exact hx) h5 (hini hfin.1.1) (hown2.trans hfin.1.2) (hty _ hj) hft.1 hft.2 hlen hdg kk
          · exact va_put hx hb hts hin (zTy (aux.getD 0 0)) hty hnm hown hK hP hD hS (r - 7) hget hq (aux.getD 1 0) hj (hts _ hlk) (fun x hx => by rw [hown2] at hx; exact hx) (by simpa using h5) (hty _ hj) hft.1 hft.2 hlen hdg kk
        · rw [if_neg h4] at hlk
          have h5 : (q.2.1 (aux.getD 1 0)).2.2.2 = false := by
            cases hv : (q.2.1 (aux.getD 1 0)).2.2.2 with
            | false => rfl
            | true =>
              rw [if_pos hv] at hfin
              simp only [Bool.and_eq_true, decide_eq_true_eq] at hfin
              exact absurd hfin.2 h4
          exact va_putN hx hb hts hin (zTy (aux.getD 0 0)) hty hnm hown hK hP hD hS (r - 7) hget hq (aux.getD 1 0) hj (hts _ hlk) (fun x hx => by rw [hown2] at hx; exact hx) h5 (hty _ hj) hft.1 hft.2 hlen hdg kk
theorem ss_getstatic {p : Program} {l : Launch} {e : Env} {R : Room} {s : State} {m : MethodId} {args : Array Value} {below : List Frame} {meth : Method} {c : Code} {own : String} {cc : ByteArray} {nL : Nat} {ini : Bool} {D : va_G} {cA : Nat → ClassId} {fv : Value} {A : Nat → Prop} {ad0 : Nat → Nat} {d : Nat} {Q : State → Prop} {rr : zR} {M0 : zM} {rt : Option FieldType} {sc : Option (Nat × (Nat → Int32))} {cal : zC} {k : zK}
    (C : zCx p R s m args meth c own cc nL ini D cA fv A ad0 d) (hk : ∀ pc' ls' st' M', k pc' ls' st' M' = some rr → zW p l e R s m args below meth c Q D cA fv A ad0 M0 nL pc' ls' st' M') {pc nxt : Nat} {aux : List Nat} {ld : Option (List Nat)} {ls : zLs} {st : List Value} {M : zM} {i : Nat} 
    (hok : zOk own cc nL rt ini (pc, .getstatic i, nxt, aux, ld) = true) (h : stp sc cal (pc, .getstatic i, nxt, aux, ld) ls st M k = some rr) : zW p l e R s m args below meth c Q D cA fv A ad0 M0 nL pc ls st M := by
  obtain ⟨hx, hb, hml, hown, hts, hK, hA, hini, hX, hfv, hfr, hlo⟩ := C
  obtain ⟨hdg, rfl, hc⟩ := zchk_of2 hok
  have hc : (if aux.getD 0 0 = 0 then _ else _) = true := hc
  have h : (if aux.getD 0 0 = 0 then k (pc + 3) ls (.int 1 :: st) M else k (pc + 3) ls (.retAddr 0 :: st) M) = some rr := h
  by_cases h0 : aux.getD 0 0 = 0
  · rw [if_pos h0] at h hc
    intro ad H locs L had hn1 hn2 hwf hP hD hS hl
    refine va_gets hx hb hX.2.2.2.1 hS hown (hts _ (zwd_in hc)) (fun _ z => z) hdg ?_
    exact hk _ _ _ _ h ad H locs L had hn1 hn2 hwf hP hD hS hl
  · rw [if_neg h0] at h hc
    intro ad H locs L had hn1 hn2 hwf hP hD hS hl
    refine va_gets hx hb hX.2.2.2.2 hS hown (hts _ (zwd_in hc)) (fun _ z => z) hdg ?_
    exact hk _ _ _ _ h ad H locs L had hn1 hn2 hwf hP hD hS hl
end
section
/-! THE PURE MACHINE SAYS THE TRUTH, on: arrays and makings -/
theorem ztys_at (cA : Nat → ClassId) : (ztys cA)[0]? = some (cA 20, .int) ∧ (ztys cA)[1]? = some (cA 21, .byte) ∧ (ztys cA)[2]? = some (cA 22, .boolean) ∧ (ztys cA)[3]? = some (cA 23, .long) ∧ (ztys cA)[4]? = some (cA 24, .object "SilkRise$State") ∧ (ztys cA)[5]? = some (cA 25, .array .int) := ⟨rfl, rfl, rfl, rfl, rfl, rfl⟩
theorem ss_iaload {p : Program} {l : Launch} {e : Env} {R : Room} {s : State} {m : MethodId} {args : Array Value} {below : List Frame} {meth : Method} {c : Code} {own : String} {cc : ByteArray} {nL : Nat} {ini : Bool} {D : va_G} {cA : Nat → ClassId} {fv : Value} {A : Nat → Prop} {ad0 : Nat → Nat} {d : Nat} {Q : State → Prop} {rr : zR} {M0 : zM} {rt : Option FieldType} {sc : Option (Nat × (Nat → Int32))} {cal : zC} {k : zK}
    (C : zCx p R s m args meth c own cc nL ini D cA fv A ad0 d) (hk : ∀ pc' ls' st' M', k pc' ls' st' M' = some rr → zW p l e R s m args below meth c Q D cA fv A ad0 M0 nL pc' ls' st' M') {pc nxt : Nat} {aux : List Nat} {ld : Option (List Nat)} {ls : zLs} {st : List Value} {M : zM} (hsc : ∀ L xs, sc = some (L, xs) → va_X (ad0 1) L xs s s.heap ∧ ad0 1 < s.heap.size ∧ ¬ A (ad0 1))
    (hok : zOk own cc nL rt ini (pc, .iaload, nxt, aux, ld) = true) (h : stp sc cal (pc, .iaload, nxt, aux, ld) ls st M k = some rr) : zW p l e R s m args below meth c Q D cA fv A ad0 M0 nL pc ls st M := by
  obtain ⟨hx, hb, hml, hown, hts, hK, hA, hini, hX, hfv, hfr, hlo⟩ := C
  obtain ⟨hdg, rfl⟩ := zchk_of hok
  have h : (if aux.getD 0 0 = 40 then pS sc (fun L xs => pI st fun i st => pA st fun r st => if r = 1 ∧ zin i L then k (pc + 1) ls (.int (xs (zix i)) :: st) M else none) else pI st fun i st => pA st fun r st => if gK M r = 20 ∧ zin i (gN M r) then k (pc + 1) ls (.int (gI M r (zix i)) :: st) M else none) = some rr := h
  by_cases h4 : aux.getD 0 0 = 40
  · rw [if_pos h4] at h
    obtain ⟨sl, xs, hs, h1⟩ := pS_some h
    obtain ⟨i, st, rfl, h3⟩ := pI_some h1
    obtain ⟨r, st, rfl, h5⟩ := pA_some h3
    obtain ⟨hg, h2⟩ := ite_some h5
    clear h h1 h3 h5
    obtain ⟨y1, y2, y3⟩ := hsc sl xs hs
    intro ad H locs L had hn1 hn2 hwf hP hD hS hl
    rw [List.map_cons, List.map_cons, zst_ref (r := r) (by omega), hg.1, had 1 (Or.inl (by omega))]
    refine va_sld hx hb y1 y2 y3 hS (zin_vp hg.2) hdg ?_
    exact hk _ _ _ _ h2 ad H locs L had hn1 hn2 hwf hP hD hS hl
  · rw [if_neg h4] at h
    obtain ⟨i, st, rfl, h3⟩ := pI_some h
    obtain ⟨r, st, rfl, h5⟩ := pA_some h3
    obtain ⟨hg, h2⟩ := ite_some h5
    clear h h3 h5
    intro ad H locs L had hn1 hn2 hwf hP hD hS hl
    obtain ⟨g1, g2, g3⟩ := zgk hg.1 (by omega) (by omega) (by omega)
    have hget := zws_get (ad := ad) (cA := cA) g1 g2
    rw [zce_int g3 (by omega)] at hget
    rw [List.map_cons, List.map_cons, zst_ref (r := r) (by omega)]
    refine va_iald hx hb hK hP (r - 7) 0 hget rfl (zin_vp hg.2) hdg ?_
    exact hk _ _ _ _ h2 ad H locs L had hn1 hn2 hwf hP hD hS hl
theorem ss_laload {p : Program} {l : Launch} {e : Env} {R : Room} {s : State} {m : MethodId} {args : Array Value} {below : List Frame} {meth : Method} {c : Code} {own : String} {cc : ByteArray} {nL : Nat} {ini : Bool} {D : va_G} {cA : Nat → ClassId} {fv : Value} {A : Nat → Prop} {ad0 : Nat → Nat} {d : Nat} {Q : State → Prop} {rr : zR} {M0 : zM} {rt : Option FieldType} {sc : Option (Nat × (Nat → Int32))} {cal : zC} {k : zK}
    (C : zCx p R s m args meth c own cc nL ini D cA fv A ad0 d) (hk : ∀ pc' ls' st' M', k pc' ls' st' M' = some rr → zW p l e R s m args below meth c Q D cA fv A ad0 M0 nL pc' ls' st' M') {pc nxt : Nat} {aux : List Nat} {ld : Option (List Nat)} {ls : zLs} {st : List Value} {M : zM} 
    (hok : zOk own cc nL rt ini (pc, .laload, nxt, aux, ld) = true) (h : stp sc cal (pc, .laload, nxt, aux, ld) ls st M k = some rr) : zW p l e R s m args below meth c Q D cA fv A ad0 M0 nL pc ls st M := by
  obtain ⟨hx, hb, hml, hown, hts, hK, hA, hini, hX, hfv, hfr, hlo⟩ := C
  obtain ⟨hdg, rfl⟩ := zchk_of hok
  obtain ⟨i, st, rfl, h3⟩ := pI_some h
  obtain ⟨r, st, rfl, h5⟩ := pA_some h3
  obtain ⟨hg, h2⟩ := ite_some h5
  clear h h3 h5
  intro ad H locs L had hn1 hn2 hwf hP hD hS hl
  obtain ⟨g1, g2, g3⟩ := zgk hg.1 (by omega) (by omega) (by omega)
  have hget := zws_get (ad := ad) (cA := cA) g1 g2
  rw [zce_long g3] at hget
  rw [List.map_cons, List.map_cons, zst_ref (r := r) (by omega)]
  refine va_lald hx hb hK hP (r - 7) 3 hget rfl (zin_vp hg.2) hdg ?_
  exact hk _ _ _ _ h2 ad H locs L had hn1 hn2 hwf hP hD hS hl
theorem ss_baload {p : Program} {l : Launch} {e : Env} {R : Room} {s : State} {m : MethodId} {args : Array Value} {below : List Frame} {meth : Method} {c : Code} {own : String} {cc : ByteArray} {nL : Nat} {ini : Bool} {D : va_G} {cA : Nat → ClassId} {fv : Value} {A : Nat → Prop} {ad0 : Nat → Nat} {d : Nat} {Q : State → Prop} {rr : zR} {M0 : zM} {rt : Option FieldType} {sc : Option (Nat × (Nat → Int32))} {cal : zC} {k : zK}
    (C : zCx p R s m args meth c own cc nL ini D cA fv A ad0 d) (hk : ∀ pc' ls' st' M', k pc' ls' st' M' = some rr → zW p l e R s m args below meth c Q D cA fv A ad0 M0 nL pc' ls' st' M') {pc nxt : Nat} {aux : List Nat} {ld : Option (List Nat)} {ls : zLs} {st : List Value} {M : zM} 
    (hok : zOk own cc nL rt ini (pc, .baload, nxt, aux, ld) = true) (h : stp sc cal (pc, .baload, nxt, aux, ld) ls st M k = some rr) : zW p l e R s m args below meth c Q D cA fv A ad0 M0 nL pc ls st M := by
  obtain ⟨hx, hb, hml, hown, hts, hK, hA, hini, hX, hfv, hfr, hlo⟩ := C
  obtain ⟨hdg, rfl, hc⟩ := zchk_of2 hok
  have hc : aux.getD 0 0 = 21 ∨ aux.getD 0 0 = 22 ∨ aux.getD 0 0 = 31 := of_decide_eq_true hc
  have h : (if aux.getD 0 0 = 31 then pI st fun i st => pA st fun r st => if gK M r = 31 ∧ zin i (zby r).length then k (pc + 1) ls (.int ((zby r).getD (zix i) 0) :: st) M else none else pI st fun i st => pA st fun r st => if gK M r = aux.getD 0 0 ∧ zin i (gN M r) then k (pc + 1) ls (.int (gI M r (zix i)) :: st) M else none) = some rr := h
  by_cases h4 : aux.getD 0 0 = 31
  · rw [if_pos h4] at h
    obtain ⟨i, st, rfl, h3⟩ := pI_some h
    obtain ⟨r, st, rfl, h5⟩ := pA_some h3
    obtain ⟨hg, h2⟩ := ite_some h5
    clear h h3 h5
    intro ad H locs L had hn1 hn2 hwf hP hD hS hl
    have hr := zgk31 hg.1 (fun a => by have := hwf.2 a; omega)
    have hq := hk _ _ _ _ h2 ad H locs L had hn1 hn2 hwf hP hD hS hl
    rw [List.map_cons, List.map_cons, zst_ref (r := r) (by omega), had r (Or.inl (by omega))]
    rcases hr with rfl | rfl
    · exact va_tb hx hb (hX.1.1 0 (by omega)).2.2.2 hS (zin_vp (n := 112) hg.2) rfl hdg hq
    · exact va_tb hx hb (hX.1.1 1 (by omega)).2.2.2 hS (zin_vp (n := 9) hg.2) rfl hdg hq
  · rw [if_neg h4] at h
    obtain ⟨i, st, rfl, h3⟩ := pI_some h
    obtain ⟨r, st, rfl, h5⟩ := pA_some h3
    obtain ⟨hg, h2⟩ := ite_some h5
    clear h h3 h5
    have hc : aux.getD 0 0 = 21 ∨ aux.getD 0 0 = 22 := by omega
    intro ad H locs L had hn1 hn2 hwf hP hD hS hl
    obtain ⟨g1, g2, g3⟩ := zgk hg.1 (by omega) (by omega) (by omega)
    have hget := zws_get (ad := ad) (cA := cA) g1 g2
    rw [zce_int g3 (by omega)] at hget
    rw [List.map_cons, List.map_cons, zst_ref (r := r) (by omega)]
    rcases hc with hc | hc
    · rw [hc] at hget
      refine va_bald hx hb hK hP (r - 7) 1 hget rfl (zin_vp hg.2) hdg ?_
      exact hk _ _ _ _ h2 ad H locs L had hn1 hn2 hwf hP hD hS hl
    · rw [hc] at hget
      refine va_zald hx hb hK hP (r - 7) 2 hget rfl (zin_vp hg.2) hdg ?_
      exact hk _ _ _ _ h2 ad H locs L had hn1 hn2 hwf hP hD hS hl
theorem zaf_rf {ad : Nat → Nat} {M : zM} {r j : Nat} : va_rf (zaf ad M r j) = rfv ad (gR M r j) := by
  unfold zaf rfv
  by_cases h : gR M r j = 0
  · rw [if_pos h, if_pos h]; rfl
  · rw [if_neg h, if_neg h]; rfl
/-- an int[][]'s row is read -/
theorem za_ald {p : Program} {l : Launch} {e : Env} {R : Room} {s : State} {m : MethodId} {args : Array Value} {below : List Frame} {meth : Method} {c : Code} {H : Heap} {locs : List Loc} {cells slots : Nat} {Q : State → Prop} {cc : ByteArray} {pc : Nat} {ls : Array Slot} {rest : List Value} {D : va_G} {cl : List vw_C} {a : Nat} {tys : List (ClassId × FieldType)} {ws : va_W} (hexec : p.tables.exec = Jvm.exec) (hb : c.code = cc) (hK : va_K D cl tys s) (hP : va_P D cl ws H) (q0 t0 : Nat) {cA : ClassId} {n : Nat} {f : Nat → Option Nat} (ha : ws[q0]? = some (a, .inl (cA, n, .inr (.inr (.inr (.inr f)))))) (ht : tys[t0]? = some (cA, .array .int)) {i : Int32} (hin : vp_in i n) (hdg : decode cc pc = .ok (.aaload, 1))
    (kk : W p l e R s m args below meth c H locs cells slots Q (F0 m (pc + 1) ls (va_rf (f i.toNatClampNeg) :: rest))) : W p l e R s m args below meth c H locs cells slots Q (F0 m pc ls (.int i :: .ref a :: rest)) := by
  have hlt : i.toNatClampNeg < n := Nat.not_le.mp fun q => hin (Or.inr q)
  exact W.aald (v := va_rf (f i.toNatClampNeg)) (ty := .array .int) hexec hb (hP q0 _ ha) ((hK.2 t0 _ ht).1 n (fun j => va_rf (f j))) rfl (fun q => by cases q) (by show ¬ (i < 0 ∨ (arrV _ _ _).slots.size ≤ _); rw [arrV_size]; exact hin) (by show (arrV _ _ _).slots[_]? = _; rw [arrV_read _ _ hlt]) rfl rfl hdg kk
theorem ss_aaload {p : Program} {l : Launch} {e : Env} {R : Room} {s : State} {m : MethodId} {args : Array Value} {below : List Frame} {meth : Method} {c : Code} {own : String} {cc : ByteArray} {nL : Nat} {ini : Bool} {D : va_G} {cA : Nat → ClassId} {fv : Value} {A : Nat → Prop} {ad0 : Nat → Nat} {d : Nat} {Q : State → Prop} {rr : zR} {M0 : zM} {rt : Option FieldType} {sc : Option (Nat × (Nat → Int32))} {cal : zC} {k : zK}
    (C : zCx p R s m args meth c own cc nL ini D cA fv A ad0 d) (hk : ∀ pc' ls' st' M', k pc' ls' st' M' = some rr → zW p l e R s m args below meth c Q D cA fv A ad0 M0 nL pc' ls' st' M') {pc nxt : Nat} {aux : List Nat} {ld : Option (List Nat)} {ls : zLs} {st : List Value} {M : zM} 
    (hok : zOk own cc nL rt ini (pc, .aaload, nxt, aux, ld) = true) (h : stp sc cal (pc, .aaload, nxt, aux, ld) ls st M k = some rr) : zW p l e R s m args below meth c Q D cA fv A ad0 M0 nL pc ls st M := by
  obtain ⟨hx, hb, hml, hown, hts, hK, hA, hini, hX, hfv, hfr, hlo⟩ := C
  obtain ⟨hdg, rfl, hc⟩ := zchk_of2 hok
  have hc : aux.getD 0 0 = 24 ∨ aux.getD 0 0 = 25 := of_decide_eq_true hc
  obtain ⟨i, st, rfl, h3⟩ := pI_some h
  obtain ⟨r, st, rfl, h5⟩ := pA_some h3
  obtain ⟨hg, h2⟩ := ite_some h5
  clear h h3 h5
  have hg : gK M r = aux.getD 0 0 ∧ zin i (gN M r) := hg
  intro ad H locs L had hn1 hn2 hwf hP hD hS hl
  obtain ⟨g1, g2, g3⟩ := zgk hg.1 (by omega) (by omega) (by omega)
  have hget := zws_get (ad := ad) (cA := cA) g1 g2
  rw [zce_refs g3 hc] at hget
  rw [List.map_cons, List.map_cons, zst_ref (r := r) (by omega)]
  have hq := hk _ _ _ _ h2 ad H locs L had hn1 hn2 hwf hP hD hS hl
  have hq : W p l e R s m args below meth c H locs (M.1.1 - M0.1.1) (M.1.2.1 - M0.1.2.1) Q (F0 m (pc + 1) L (va_rf (zaf ad M r (zix i)) :: st.map (zv fv ad))) := by rw [zaf_rf]; exact hq
  rcases hc with hc | hc
  · rw [hc] at hget
    exact va_aldq hx hb hK hP (r - 7) 4 hget rfl (zin_vp hg.2) hdg hq
  · rw [hc] at hget
    exact za_ald hx hb hK hP (r - 7) 5 hget rfl (zin_vp hg.2) hdg hq
theorem ss_iastore {p : Program} {l : Launch} {e : Env} {R : Room} {s : State} {m : MethodId} {args : Array Value} {below : List Frame} {meth : Method} {c : Code} {own : String} {cc : ByteArray} {nL : Nat} {ini : Bool} {D : va_G} {cA : Nat → ClassId} {fv : Value} {A : Nat → Prop} {ad0 : Nat → Nat} {d : Nat} {Q : State → Prop} {rr : zR} {M0 : zM} {rt : Option FieldType} {sc : Option (Nat × (Nat → Int32))} {cal : zC} {k : zK}
    (C : zCx p R s m args meth c own cc nL ini D cA fv A ad0 d) (hk : ∀ pc' ls' st' M', k pc' ls' st' M' = some rr → zW p l e R s m args below meth c Q D cA fv A ad0 M0 nL pc' ls' st' M') {pc nxt : Nat} {aux : List Nat} {ld : Option (List Nat)} {ls : zLs} {st : List Value} {M : zM} 
    (hok : zOk own cc nL rt ini (pc, .iastore, nxt, aux, ld) = true) (h : stp sc cal (pc, .iastore, nxt, aux, ld) ls st M k = some rr) : zW p l e R s m args below meth c Q D cA fv A ad0 M0 nL pc ls st M := by
  obtain ⟨hx, hb, hml, hown, hts, hK, hA, hini, hX, hfv, hfr, hlo⟩ := C
  obtain ⟨hdg, rfl⟩ := zchk_of hok
  obtain ⟨x, st, rfl, h1⟩ := pI_some h
  obtain ⟨i, st, rfl, h3⟩ := pI_some h1
  obtain ⟨r, st, rfl, h5⟩ := pA_some h3
  obtain ⟨hg, h2⟩ := ite_some h5
  clear h h1 h3 h5
  intro ad H locs L had hn1 hn2 hwf hP hD hS hl
  obtain ⟨g1, g2, g3⟩ := zgk hg.1 (by omega) (by omega) (by omega)
  have hget := zws_get (ad := ad) (cA := cA) g1 g2
  rw [zce_int g3 (by omega)] at hget
  rw [List.map_cons, List.map_cons, List.map_cons, zst_ref (r := r) (by omega)]
  refine va_iast hx hb hK hP hD hS (r - 7) 0 hget rfl (zin_vp hg.2) hdg (fun H1 locs1 hP hD hS => ?_)
  rw [← zws_sIa (j := i.toNatClampNeg) (x := x) g1 g2 g3 (by omega)] at hP hD
  exact hk _ _ _ _ h2 ad H1 locs1 L had hn1 hn2 hwf hP hD hS hl
theorem ss_lastore {p : Program} {l : Launch} {e : Env} {R : Room} {s : State} {m : MethodId} {args : Array Value} {below : List Frame} {meth : Method} {c : Code} {own : String} {cc : ByteArray} {nL : Nat} {ini : Bool} {D : va_G} {cA : Nat → ClassId} {fv : Value} {A : Nat → Prop} {ad0 : Nat → Nat} {d : Nat} {Q : State → Prop} {rr : zR} {M0 : zM} {rt : Option FieldType} {sc : Option (Nat × (Nat → Int32))} {cal : zC} {k : zK}
    (C : zCx p R s m args meth c own cc nL ini D cA fv A ad0 d) (hk : ∀ pc' ls' st' M', k pc' ls' st' M' = some rr → zW p l e R s m args below meth c Q D cA fv A ad0 M0 nL pc' ls' st' M') {pc nxt : Nat} {aux : List Nat} {ld : Option (List Nat)} {ls : zLs} {st : List Value} {M : zM} 
    (hok : zOk own cc nL rt ini (pc, .lastore, nxt, aux, ld) = true) (h : stp sc cal (pc, .lastore, nxt, aux, ld) ls st M k = some rr) : zW p l e R s m args below meth c Q D cA fv A ad0 M0 nL pc ls st M := by
  obtain ⟨hx, hb, hml, hown, hts, hK, hA, hini, hX, hfv, hfr, hlo⟩ := C
  obtain ⟨hdg, rfl⟩ := zchk_of hok
  obtain ⟨x, st, rfl, h1⟩ := pL_some h
  obtain ⟨i, st, rfl, h3⟩ := pI_some h1
  obtain ⟨r, st, rfl, h5⟩ := pA_some h3
  obtain ⟨hg, h2⟩ := ite_some h5
  clear h h1 h3 h5
  intro ad H locs L had hn1 hn2 hwf hP hD hS hl
  obtain ⟨g1, g2, g3⟩ := zgk hg.1 (by omega) (by omega) (by omega)
  have hget := zws_get (ad := ad) (cA := cA) g1 g2
  rw [zce_long g3] at hget
  rw [List.map_cons, List.map_cons, List.map_cons, zst_ref (r := r) (by omega)]
  refine va_last hx hb hK hP hD hS (r - 7) 3 hget rfl (zin_vp hg.2) hdg (fun H1 locs1 hP hD hS => ?_)
  rw [← zws_sLa (j := i.toNatClampNeg) (x := x) g1 g2 g3] at hP hD
  exact hk _ _ _ _ h2 ad H1 locs1 L had hn1 hn2 hwf hP hD hS hl
theorem zc_bool (x : Int32) : vp_nar .boolean x = x &&& 1 := rfl
theorem ss_bastore {p : Program} {l : Launch} {e : Env} {R : Room} {s : State} {m : MethodId} {args : Array Value} {below : List Frame} {meth : Method} {c : Code} {own : String} {cc : ByteArray} {nL : Nat} {ini : Bool} {D : va_G} {cA : Nat → ClassId} {fv : Value} {A : Nat → Prop} {ad0 : Nat → Nat} {d : Nat} {Q : State → Prop} {rr : zR} {M0 : zM} {rt : Option FieldType} {sc : Option (Nat × (Nat → Int32))} {cal : zC} {k : zK}
    (C : zCx p R s m args meth c own cc nL ini D cA fv A ad0 d) (hk : ∀ pc' ls' st' M', k pc' ls' st' M' = some rr → zW p l e R s m args below meth c Q D cA fv A ad0 M0 nL pc' ls' st' M') {pc nxt : Nat} {aux : List Nat} {ld : Option (List Nat)} {ls : zLs} {st : List Value} {M : zM} 
    (hok : zOk own cc nL rt ini (pc, .bastore, nxt, aux, ld) = true) (h : stp sc cal (pc, .bastore, nxt, aux, ld) ls st M k = some rr) : zW p l e R s m args below meth c Q D cA fv A ad0 M0 nL pc ls st M := by
  obtain ⟨hx, hb, hml, hown, hts, hK, hA, hini, hX, hfv, hfr, hlo⟩ := C
  obtain ⟨hdg, rfl⟩ := zchk_of hok
  have h : (if aux.getD 0 0 = 21 then _ else _) = some rr := h
  by_cases h4 : aux.getD 0 0 = 21
  · rw [if_pos h4] at h
    obtain ⟨x, st, rfl, h1⟩ := pI_some h
    obtain ⟨i, st, rfl, h3⟩ := pI_some h1
    obtain ⟨r, st, rfl, h5⟩ := pA_some h3
    obtain ⟨hg, h2⟩ := ite_some h5
    clear h h1 h3 h5
    intro ad H locs L had hn1 hn2 hwf hP hD hS hl
    obtain ⟨g1, g2, g3⟩ := zgk hg.1 (by omega) (by omega) (by omega)
    have hget := zws_get (ad := ad) (cA := cA) g1 g2
    rw [zce_int g3 (by omega)] at hget
    rw [List.map_cons, List.map_cons, List.map_cons, zst_ref (r := r) (by omega)]
    refine va_bast hx hb hK hP hD hS (r - 7) 1 hget rfl (zin_vp hg.2) hdg (fun H1 locs1 hP hD hS => ?_)
    rw [← zws_sIa (j := i.toNatClampNeg) g1 g2 g3 (by omega)] at hP hD
    exact hk _ _ _ _ h2 ad H1 locs1 L had hn1 hn2 hwf hP hD hS hl
  · rw [if_neg h4] at h
    obtain ⟨x, st, rfl, h1⟩ := pI_some h
    obtain ⟨i, st, rfl, h3⟩ := pI_some h1
    obtain ⟨r, st, rfl, h5⟩ := pA_some h3
    obtain ⟨hg, h2⟩ := ite_some h5
    clear h h1 h3 h5
    intro ad H locs L had hn1 hn2 hwf hP hD hS hl
    obtain ⟨g1, g2, g3⟩ := zgk hg.1 (by omega) (by omega) (by omega)
    have hget := zws_get (ad := ad) (cA := cA) g1 g2
    rw [zce_int g3 (by omega)] at hget
    rw [List.map_cons, List.map_cons, List.map_cons, zst_ref (r := r) (by omega)]
    refine va_zast hx hb hK hP hD hS (r - 7) 2 hget rfl (zin_vp hg.2) hdg (fun H1 locs1 hP hD hS => ?_)
    rw [← zws_sIa (j := i.toNatClampNeg) g1 g2 g3 (by omega)] at hP hD
    exact hk _ _ _ _ h2 ad H1 locs1 L had hn1 hn2 hwf hP hD hS hl
theorem ss_aastore {p : Program} {l : Launch} {e : Env} {R : Room} {s : State} {m : MethodId} {args : Array Value} {below : List Frame} {meth : Method} {c : Code} {own : String} {cc : ByteArray} {nL : Nat} {ini : Bool} {D : va_G} {cA : Nat → ClassId} {fv : Value} {A : Nat → Prop} {ad0 : Nat → Nat} {d : Nat} {Q : State → Prop} {rr : zR} {M0 : zM} {rt : Option FieldType} {sc : Option (Nat × (Nat → Int32))} {cal : zC} {k : zK}
    (C : zCx p R s m args meth c own cc nL ini D cA fv A ad0 d) (hk : ∀ pc' ls' st' M', k pc' ls' st' M' = some rr → zW p l e R s m args below meth c Q D cA fv A ad0 M0 nL pc' ls' st' M') {pc nxt : Nat} {aux : List Nat} {ld : Option (List Nat)} {ls : zLs} {st : List Value} {M : zM} 
    (hok : zOk own cc nL rt ini (pc, .aastore, nxt, aux, ld) = true) (h : stp sc cal (pc, .aastore, nxt, aux, ld) ls st M k = some rr) : zW p l e R s m args below meth c Q D cA fv A ad0 M0 nL pc ls st M := by
  obtain ⟨hx, hb, hml, hown, hts, hK, hA, hini, hX, hfv, hfr, hlo⟩ := C
  obtain ⟨hdg, rfl⟩ := zchk_of hok
  obtain ⟨x, st, rfl, h1⟩ := pA_some h
  obtain ⟨i, st, rfl, h3⟩ := pI_some h1
  obtain ⟨r, st, rfl, h5⟩ := pA_some h3
  obtain ⟨hg, h2⟩ := ite_some h5
  clear h h1 h3 h5
  intro ad H locs L had hn1 hn2 hwf hP hD hS hl
  obtain ⟨g1, g2, g3⟩ := zgk hg.1 (by omega) (by omega) (by omega)
  obtain ⟨f1, f2, f3⟩ := zgk hg.2.2 (by omega) (by omega) (by omega)
  have hget := zws_get (ad := ad) (cA := cA) g1 g2
  rw [zce_refs g3 (by omega)] at hget
  have hgx := zws_get (ad := ad) (cA := cA) f1 f2
  rw [zce_obj f3 (by omega)] at hgx
  rw [List.map_cons, List.map_cons, List.map_cons, zst_ref (r := r) (by omega), zst_ref (r := x) (by omega)]
  refine va_astq hx hb hK hP hD hS (r - 7) 4 (x - 7) 8 hget (r := (RX8, TX8, 6)) rfl hgx rfl (zin_vp hg.2.1) hdg (fun H1 locs1 hP hD hS => ?_)
  rw [← zws_sRa (j := i.toNatClampNeg) (x := x) g1 g2 g3 (by omega) (by omega)] at hP hD
  exact hk _ _ _ _ h2 ad H1 locs1 L had hn1 hn2 (zwf_sR hwf f2) hP hD hS hl
theorem ss_arraylength {p : Program} {l : Launch} {e : Env} {R : Room} {s : State} {m : MethodId} {args : Array Value} {below : List Frame} {meth : Method} {c : Code} {own : String} {cc : ByteArray} {nL : Nat} {ini : Bool} {D : va_G} {cA : Nat → ClassId} {fv : Value} {A : Nat → Prop} {ad0 : Nat → Nat} {d : Nat} {Q : State → Prop} {rr : zR} {M0 : zM} {rt : Option FieldType} {sc : Option (Nat × (Nat → Int32))} {cal : zC} {k : zK}
    (C : zCx p R s m args meth c own cc nL ini D cA fv A ad0 d) (hk : ∀ pc' ls' st' M', k pc' ls' st' M' = some rr → zW p l e R s m args below meth c Q D cA fv A ad0 M0 nL pc' ls' st' M') {pc nxt : Nat} {aux : List Nat} {ld : Option (List Nat)} {ls : zLs} {st : List Value} {M : zM} (hsc : ∀ L xs, sc = some (L, xs) → va_X (ad0 1) L xs s s.heap ∧ ad0 1 < s.heap.size ∧ ¬ A (ad0 1))
    (hok : zOk own cc nL rt ini (pc, .arraylength, nxt, aux, ld) = true) (h : stp sc cal (pc, .arraylength, nxt, aux, ld) ls st M k = some rr) : zW p l e R s m args below meth c Q D cA fv A ad0 M0 nL pc ls st M := by
  obtain ⟨hx, hb, hml, hown, hts, hK, hA, hini, hX, hfv, hfr, hlo⟩ := C
  obtain ⟨hdg, rfl, hc⟩ := zchk_of2 hok
  have hc : 20 ≤ aux.getD 0 0 ∧ aux.getD 0 0 ≤ 25 ∨ aux.getD 0 0 = 31 ∨ aux.getD 0 0 = 40 := of_decide_eq_true hc
  have h : (if aux.getD 0 0 = 40 then _ else if aux.getD 0 0 = 31 then _ else _) = some rr := h
  by_cases h4 : aux.getD 0 0 = 40
  · rw [if_pos h4] at h
    obtain ⟨sl, xs, hs, h1⟩ := pS_some h
    obtain ⟨r, st, rfl, h5⟩ := pA_some h1
    obtain ⟨hg, h2⟩ := ite_some h5
    clear h h1 h5
    obtain ⟨y1, y2, y3⟩ := hsc sl xs hs
    intro ad H locs L had hn1 hn2 hwf hP hD hS hl
    rw [List.map_cons, zst_ref (r := r) (by omega), hg, had 1 (Or.inl (by omega))]
    refine va_slen hx hb y1 y2 y3 hS hdg ?_
    exact hk _ _ _ _ h2 ad H locs L had hn1 hn2 hwf hP hD hS hl
  · rw [if_neg h4] at h
    by_cases h6 : aux.getD 0 0 = 31
    · rw [if_pos h6] at h
      obtain ⟨r, st, rfl, h5⟩ := pA_some h
      obtain ⟨hg, h2⟩ := ite_some h5
      clear h h5
      intro ad H locs L had hn1 hn2 hwf hP hD hS hl
      have hr := zgk31 hg (fun a => by have := hwf.2 a; omega)
      have hq := hk _ _ _ _ h2 ad H locs L had hn1 hn2 hwf hP hD hS hl
      rw [List.map_cons, zst_ref (r := r) (by omega), had r (Or.inl (by omega))]
      rcases hr with rfl | rfl
      · exact va_tlen hx hb (hX.1.1 0 (by omega)).2.2.2 hS rfl hdg hq
      · exact va_tlen hx hb (hX.1.1 1 (by omega)).2.2.2 hS rfl hdg hq
    · rw [if_neg h6] at h
      obtain ⟨r, st, rfl, h5⟩ := pA_some h
      obtain ⟨hg, h2⟩ := ite_some h5
      clear h h5
      have hg : gK M r = aux.getD 0 0 := hg
      intro ad H locs L had hn1 hn2 hwf hP hD hS hl
      obtain ⟨g1, g2, g3⟩ := zgk hg (by omega) (by omega) (by omega)
      have hget := zws_get (ad := ad) (cA := cA) g1 g2
      have hq := hk _ _ _ _ h2 ad H locs L had hn1 hn2 hwf hP hD hS hl
      rw [List.map_cons, zst_ref (r := r) (by omega)]
      have key : ∀ (t : Nat) (ty : FieldType) (ca : ClassId) (v : (Nat → Int32) ⊕ (Nat → Int64) ⊕ (Nat → UInt32) ⊕ (Nat → UInt64) ⊕ (Nat → Option Nat)), (ztys cA)[t]? = some (ca, ty) → zce ad cA M r = .inl (ca, gN M r, v) → W p l e R s m args below meth c H locs (M.1.1 - M0.1.1) (M.1.2.1 - M0.1.2.1) Q (F0 m pc L (.ref (ad r) :: st.map (zv fv ad))) := by
        intro t ty ca v e1 e2
        rw [e2] at hget
        exact va_alen hx hb hK hP (r - 7) t hget e1 rfl hdg hq
      by_cases h7 : aux.getD 0 0 = 23
      · exact key 3 _ _ _ rfl (zce_long (by omega))
      · by_cases h8 : aux.getD 0 0 ≤ 22
        · have e2 := zce_int (ad := ad) (cA := cA) g3 (by omega)
          obtain e3 | e3 | e3 : aux.getD 0 0 = 20 ∨ aux.getD 0 0 = 21 ∨ aux.getD 0 0 = 22 := by omega
          · rw [e3] at e2; exact key 0 _ _ _ rfl e2
          · rw [e3] at e2; exact key 1 _ _ _ rfl e2
          · rw [e3] at e2; exact key 2 _ _ _ rfl e2
        · have e2 := zce_refs (ad := ad) (cA := cA) g3 (by omega)
          obtain e3 | e3 : aux.getD 0 0 = 24 ∨ aux.getD 0 0 = 25 := by omega
          · rw [e3] at e2; exact key 4 _ _ _ rfl e2
          · rw [e3] at e2; exact key 5 _ _ _ rfl e2
end
section
/-! THE PURE MACHINE SAYS THE TRUTH, on: makings -/
theorem zty_ok : ∀ (ci : Nat) (q : vw_C), zCl[ci]? = some q → ∀ j, j < q.2.2 → ztc (zTy ci j) ≤ 2
  | 0, _, h => by cases h; decide +kernel
  | 1, _, h => by cases h; decide +kernel
  | 2, _, h => by cases h; decide +kernel
  | 3, _, h => by cases h; decide +kernel
  | 4, _, h => by cases h; decide +kernel
  | 5, _, h => by cases h; decide +kernel
  | 6, _, h => by cases h; decide +kernel
  | 7, _, h => by cases h; decide +kernel
  | 8, _, h => by cases h; decide +kernel
  | 9, _, h => by cases h; decide +kernel
  | 10, _, h => by cases h; decide +kernel
  | 11, _, h => by cases h; decide +kernel
  | 12, _, h => by cases h; decide +kernel
  | n + 13, q, h => by simp [zCl] at h
def zdf (ci : Nat) : List Value := (List.range (zN ci)).map (fun j => if ztc (zTy ci j) = 0 then .int 0 else if ztc (zTy ci j) = 1 then .long 0 else .null)
theorem zdf_ok {ci : Nat} {q : vw_C} (h : zCl[ci]? = some q) : ∀ j, j < q.2.2 → defaultValue (zTy ci j) = vp_V (zdf ci) j := by
  intro j hj
  have hN : zN ci = q.2.2 := (zcl_ok ci q h).2.2.2
  have h2 := zty_ok ci q h j hj
  unfold vp_V zdf
  rw [List.getD_eq_getElem?_getD, List.getElem?_map, List.getElem?_range (by omega)]
  simp only [Option.map_some, Option.getD_some]
  cases ht : zTy ci j with
  | int => rfl
  | boolean => rfl
  | long => rfl
  | object n => rfl
  | array t => rfl
  | _ => rw [ht] at h2; simp [ztc] at h2
theorem zce_new {ad : Nat → Nat} {cA : Nat → ClassId} {M : zM} {ci len : Nat} (hc : ci < 13) : zce ad cA (alc M ci len) (M.1.1 + 7) = .inr (ci, zdf ci) := by
  have hk : (alc M ci len).1.2.2.1 (M.1.1 + 7) = ci := if_pos rfl
  rw [zce_obj hk hc]
  refine congrArg (fun f => Sum.inr (ci, f)) ?_
  unfold zfs zdf
  refine List.map_congr_left fun j _ => ?_
  unfold zsv
  have e1 : gI (alc M ci len) (M.1.1 + 7) j = 0 := if_pos rfl
  have e2 : gL (alc M ci len) (M.1.1 + 7) j = 0 := if_pos rfl
  have e3 : gR (alc M ci len) (M.1.1 + 7) j = 0 := if_pos rfl
  rw [e1, e2, e3]
  rfl
def zad (ad : Nat → Nat) (n q : Nat) : Nat → Nat := fun r => if r = n + 7 then q else ad r
/-- a cell has come: the walk goes on -/
theorem zalc_go {p : Program} {l : Launch} {e : Env} {R : Room} {s : State} {m : MethodId} {args : Array Value} {below : List Frame} {meth : Method} {c : Code} {nL : Nat} {D : va_G} {cA : Nat → ClassId} {fv : Value} {A : Nat → Prop} {ad0 : Nat → Nat} {Q : State → Prop} {rr : zR} {M0 : zM} {k : zK}
    (hk : ∀ pc' ls' st' M', k pc' ls' st' M' = some rr → zW p l e R s m args below meth c Q D cA fv A ad0 M0 nL pc' ls' st' M')
    {pc : Nat} {ls : zLs} {st : List Value} {M : zM} {kd len : Nat} (hkd : kd < 30) (hok : okS M ls st = true) (h : k pc ls (.ref (M.1.1 + 7) :: st) (alc M kd len) = some rr) {ad : Nat → Nat} {H1 : Heap} {locs : List Loc} {L : Array Slot} {q : Nat} {x : va_E}
    (had : ∀ r, (r < M0.1.1 + 7 ∨ M.1.1 + 7 ≤ r) → ad r = ad0 r) (hn1 : M0.1.1 ≤ M.1.1) (hn2 : M0.1.2.1 ≤ M.1.2.1) (hwf : zwf M) (hx : zce (zad ad M.1.1 q) cA (alc M kd len) (M.1.1 + 7) = x) (hP : va_P D zCl (zws ad cA M ++ [(q, x)]) H1) (hD : va_D A (zws ad cA M ++ [(q, x)])) (hS : va_S A s.heap H1 locs) (hl : lv_has L nL (ls.map (zq fv ad))) :
    W p l e R s m args below meth c H1 locs (M.1.1 - M0.1.1 + 1) (M.1.2.1 - M0.1.2.1 + len) Q (F0 m pc L (.ref q :: st.map (zv fv ad))) := by
  have hne : ∀ r, r ≠ M.1.1 + 7 → zad ad M.1.1 q r = ad r := fun r hr => if_neg hr
  have hw := zws_alc (ad := ad) (ad' := zad ad M.1.1 q) (cA := cA) (M := M) (kd := kd) (len := len) hwf hne
  have hq : zad ad M.1.1 q (M.1.1 + 7) = q := if_pos rfl
  rw [hq, hx] at hw
  rw [← hw] at hP hD
  obtain ⟨e1, e2⟩ := okS_st (fv := fv) (ad := ad) (ad' := zad ad M.1.1 q) (fun r hr => hne r (by omega)) hok
  have hgo := hk _ _ _ _ h (zad ad M.1.1 q) H1 locs L (fun r hr => by
    have hr : r < M0.1.1 + 7 ∨ M.1.1 + 1 + 7 ≤ r := hr
    rw [hne r (by omega)]
    exact had r (by omega)) (Nat.le_succ_of_le hn1) (by show _ ≤ M.1.2.1 + len; omega) (zwf_alc hwf hkd) hP hD hS (by rw [e2]; exact hl)
  rw [List.map_cons, e1, zst_ref (by omega), hq] at hgo
  have f1 : (alc M kd len).1.1 - M0.1.1 = M.1.1 - M0.1.1 + 1 := by show M.1.1 + 1 - _ = _; omega
  have f2 : (alc M kd len).1.2.1 - M0.1.2.1 = M.1.2.1 - M0.1.2.1 + len := by show M.1.2.1 + len - _ = _; omega
  rw [f1, f2] at hgo
  exact hgo
theorem ss_new {p : Program} {l : Launch} {e : Env} {R : Room} {s : State} {m : MethodId} {args : Array Value} {below : List Frame} {meth : Method} {c : Code} {own : String} {cc : ByteArray} {nL : Nat} {ini : Bool} {D : va_G} {cA : Nat → ClassId} {fv : Value} {A : Nat → Prop} {ad0 : Nat → Nat} {d : Nat} {Q : State → Prop} {rr : zR} {M0 : zM} {rt : Option FieldType} {sc : Option (Nat × (Nat → Int32))} {cal : zC} {k : zK}
    (C : zCx p R s m args meth c own cc nL ini D cA fv A ad0 d) (hk : ∀ pc' ls' st' M', k pc' ls' st' M' = some rr → zW p l e R s m args below meth c Q D cA fv A ad0 M0 nL pc' ls' st' M') {pc nxt : Nat} {aux : List Nat} {ld : Option (List Nat)} {ls : zLs} {st : List Value} {M : zM} {i : Nat} (hkm : ∀ pc' ls' st' M', k pc' ls' st' M' = some rr → M'.1.1 ≤ rr.2.1.1 ∧ M'.1.2.1 ≤ rr.2.1.2.1) (hR : rr.2.1.1 - M0.1.1 ≤ R.cells ∧ rr.2.1.2.1 - M0.1.2.1 ≤ R.slots)
    (hok : zOk own cc nL rt ini (pc, .new i, nxt, aux, ld) = true) (h : stp sc cal (pc, .new i, nxt, aux, ld) ls st M k = some rr) : zW p l e R s m args below meth c Q D cA fv A ad0 M0 nL pc ls st M := by
  obtain ⟨hx, hb, hml, hown, hts, hK, hA, hini, hX, hfv, hfr, hlo⟩ := C
  have hok : (zchk cc (pc, .new i, nxt, aux, ld) 3 && _) = true := hok
  obtain ⟨hdg, rfl, hc⟩ := zchk_of2 hok
  dsimp only [ax] at hc
  cases hq : zCl[aux.getD 0 0]? with
  | none => rw [hq] at hc; cases hc
  | some q =>
    rw [hq] at hc
    simp only [Bool.and_eq_true, decide_eq_true_eq] at hc
    obtain ⟨⟨⟨hlen, w1⟩, w2⟩, w3⟩ := hc
    obtain ⟨hin, hty, hnm, hN⟩ := zcl_ok2 _ q hq
    have hci := zcl_lt hq
    obtain ⟨hoks, h2⟩ := ite_some h
    have h2 : k (pc + 3) ls (.ref (M.1.1 + 7) :: st) (alc M (aux.getD 0 0) (aux.getD 1 0)) = some rr := h2
    have hm := hkm _ _ _ _ h2
    have hm : M.1.1 + 1 ≤ rr.2.1.1 ∧ M.1.2.1 + aux.getD 1 0 ≤ rr.2.1.2.1 := hm
    intro ad H locs L had hn1 hn2 hwf hP hD hS hl
    refine va_new hx hb hts hin (zTy (aux.getD 0 0)) hty hown (hts _ (zwd_in w1)) (hts _ (zwd_in w2)) (hts _ (zwd_in w3)) hK hP hD hS hA hq (zdf_ok hq) (by omega) (by omega) hdg (fun q1 H1 hP hD hS => ?_)
    rw [← hlen]
    exact zalc_go hk (by omega) hoks h2 had hn1 hn2 hwf (zce_new hci) hP hD hS hl
theorem zca_eq {D : va_G} {cl : List vw_C} {tys : List (ClassId × FieldType)} {s : State} {c1 c2 : ClassId} {ty : FieldType} {t : Nat} (hK : va_K D cl (tys ++ [(c1, ty)]) s) (ht : tys[t]? = some (c2, ty)) : c1 = c2 := by
  have h1 : (tys ++ [(c1, ty)])[tys.length]? = some (c1, ty) := by simp
  have h2 : (tys ++ [(c1, ty)])[t]? = some (c2, ty) := by rw [List.getElem?_append_left (List.getElem?_eq_some_iff.mp ht).1]; exact ht
  have a1 := (hK.2 _ _ h1).2
  have a2 := (hK.2 _ _ h2).2
  have key : ∀ (ca : ClassId), va_RA s ca ty → s.vm.findClass ("[" ++ ty.toString) = some ca := fun ca h => by
    cases ty with
    | object n => obtain ⟨_, _, _, _, _, h⟩ := h; exact h
    | _ => exact h
  have f := (key _ a1).symm.trans (key _ a2)
  exact Option.some.inj f
theorem zce_newi {ad : Nat → Nat} {cA : Nat → ClassId} {M : zM} {kd len : Nat} (hc : 20 ≤ kd ∧ kd ≤ 22) : zce ad cA (alc M kd len) (M.1.1 + 7) = .inl (cA kd, len, .inl (fun _ => 0)) := by
  have hk : (alc M kd len).1.2.2.1 (M.1.1 + 7) = kd := if_pos rfl
  have e1 : gN (alc M kd len) (M.1.1 + 7) = len := if_pos rfl
  have e2 : gI (alc M kd len) (M.1.1 + 7) = fun _ => 0 := funext fun j => if_pos rfl
  rw [zce_int hk hc, e1, e2]
theorem zce_newl {ad : Nat → Nat} {cA : Nat → ClassId} {M : zM} {len : Nat} : zce ad cA (alc M 23 len) (M.1.1 + 7) = .inl (cA 23, len, .inr (.inl (fun _ => 0))) := by
  have hk : (alc M 23 len).1.2.2.1 (M.1.1 + 7) = 23 := if_pos rfl
  have e1 : gN (alc M 23 len) (M.1.1 + 7) = len := if_pos rfl
  have e2 : gL (alc M 23 len) (M.1.1 + 7) = fun _ => 0 := funext fun j => if_pos rfl
  rw [zce_long hk, e1, e2]
theorem zce_newq {ad : Nat → Nat} {cA : Nat → ClassId} {M : zM} {len : Nat} : zce ad cA (alc M 24 len) (M.1.1 + 7) = .inl (cA 24, len, .inr (.inr (.inr (.inr (fun _ => none))))) := by
  have hk : (alc M 24 len).1.2.2.1 (M.1.1 + 7) = 24 := if_pos rfl
  have e1 : gN (alc M 24 len) (M.1.1 + 7) = len := if_pos rfl
  have e2 : zaf ad (alc M 24 len) (M.1.1 + 7) = fun _ => none := funext fun j => if_pos (if_pos rfl)
  rw [zce_refs hk (Or.inl rfl), e1, e2]
theorem z_neg {n : Int32} (h : 0 ≤ n.toInt) : ¬ n < 0 := fun q => by
  have := Int32.lt_iff_toInt_lt.mp q
  have e : (0 : Int32).toInt = 0 := rfl
  omega
theorem ss_newarray {p : Program} {l : Launch} {e : Env} {R : Room} {s : State} {m : MethodId} {args : Array Value} {below : List Frame} {meth : Method} {c : Code} {own : String} {cc : ByteArray} {nL : Nat} {ini : Bool} {D : va_G} {cA : Nat → ClassId} {fv : Value} {A : Nat → Prop} {ad0 : Nat → Nat} {d : Nat} {Q : State → Prop} {rr : zR} {M0 : zM} {rt : Option FieldType} {sc : Option (Nat × (Nat → Int32))} {cal : zC} {k : zK}
    (C : zCx p R s m args meth c own cc nL ini D cA fv A ad0 d) (hk : ∀ pc' ls' st' M', k pc' ls' st' M' = some rr → zW p l e R s m args below meth c Q D cA fv A ad0 M0 nL pc' ls' st' M') {pc nxt : Nat} {aux : List Nat} {ld : Option (List Nat)} {ls : zLs} {st : List Value} {M : zM} {t : ArrayType} (hkm : ∀ pc' ls' st' M', k pc' ls' st' M' = some rr → M'.1.1 ≤ rr.2.1.1 ∧ M'.1.2.1 ≤ rr.2.1.2.1) (hR : rr.2.1.1 - M0.1.1 ≤ R.cells ∧ rr.2.1.2.1 - M0.1.2.1 ≤ R.slots)
    (hok : zOk own cc nL rt ini (pc, .newarray t, nxt, aux, ld) = true) (h : stp sc cal (pc, .newarray t, nxt, aux, ld) ls st M k = some rr) : zW p l e R s m args below meth c Q D cA fv A ad0 M0 nL pc ls st M := by
  obtain ⟨hx, hb, hml, hown, hts, hK, hA, hini, hX, hfv, hfr, hlo⟩ := C
  have hok : (zchk cc (pc, .newarray t, nxt, aux, ld) 2 && zwd (aux.getD 1 0) (.arrayClass (newarray.typeOf t)) && decide (zat t = aux.getD 0 0) && decide (aux.getD 0 0 < 30)) = true := hok
  simp only [Bool.and_eq_true, decide_eq_true_eq] at hok
  obtain ⟨⟨⟨hch, w1⟩, hz⟩, h30⟩ := hok
  obtain ⟨hdg, rfl⟩ := zchk_of hch
  obtain ⟨n, st, rfl, h1⟩ := pI_some h
  obtain ⟨⟨hn, hoks⟩, h2⟩ := ite_some h1
  clear h h1
  have h2 : k (pc + 2) ls (.ref (M.1.1 + 7) :: st) (alc M (aux.getD 0 0) n.toInt.toNat) = some rr := h2
  rw [← hz] at h2 h30
  have hm := hkm _ _ _ _ h2
  have hm : M.1.1 + 1 ≤ rr.2.1.1 ∧ M.1.2.1 + n.toInt.toNat ≤ rr.2.1.2.1 := hm
  intro ad H locs L had hn1 hn2 hwf hP hD hS hl
  cases t with
  | int =>
    refine va_newa (atype := .int) (ty := .int) (N' := n.toInt.toNat) (a0 := (n.toInt.toNat, .inl (fun _ => 0))) hx hb (hts _ (zwd_in w1)) rfl hK hP hD hS hA (fun _ => rfl) (z_neg hn.1) rfl (by show _ * 4 ≤ _; omega) (by omega) (by omega) hdg (fun q1 ca H1 hK1 hP hD hS => ?_)
    have hca := zca_eq hK1 (t := 0) rfl
    subst hca
    exact zalc_go hk (by omega) hoks h2 had hn1 hn2 hwf (zce_newi (kd := 20) (by omega)) hP hD hS hl
  | byte =>
    refine va_newa (atype := .byte) (ty := .byte) (N' := n.toInt.toNat) (a0 := (n.toInt.toNat, .inl (fun _ => 0))) hx hb (hts _ (zwd_in w1)) rfl hK hP hD hS hA (fun _ => rfl) (z_neg hn.1) rfl (by show _ * 1 ≤ _; omega) (by omega) (by omega) hdg (fun q1 ca H1 hK1 hP hD hS => ?_)
    have hca := zca_eq hK1 (t := 1) rfl
    subst hca
    exact zalc_go hk (by omega) hoks h2 had hn1 hn2 hwf (zce_newi (kd := 21) (by omega)) hP hD hS hl
  | boolean =>
    refine va_newa (atype := .boolean) (ty := .boolean) (N' := n.toInt.toNat) (a0 := (n.toInt.toNat, .inl (fun _ => 0))) hx hb (hts _ (zwd_in w1)) rfl hK hP hD hS hA (fun _ => rfl) (z_neg hn.1) rfl (by show _ * 1 ≤ _; omega) (by omega) (by omega) hdg (fun q1 ca H1 hK1 hP hD hS => ?_)
    have hca := zca_eq hK1 (t := 2) rfl
    subst hca
    exact zalc_go hk (by omega) hoks h2 had hn1 hn2 hwf (zce_newi (kd := 22) (by omega)) hP hD hS hl
  | long =>
    refine va_newa (atype := .long) (ty := .long) (N' := n.toInt.toNat) (a0 := (n.toInt.toNat, .inr (.inl (fun _ => 0)))) hx hb (hts _ (zwd_in w1)) rfl hK hP hD hS hA (fun _ => rfl) (z_neg hn.1) rfl (by show _ * 8 ≤ _; omega) (by omega) (by omega) hdg (fun q1 ca H1 hK1 hP hD hS => ?_)
    have hca := zca_eq hK1 (t := 3) rfl
    subst hca
    exact zalc_go hk (by omega) hoks h2 had hn1 hn2 hwf (zce_newl) hP hD hS hl
  | _ => exact absurd h30 (by decide)
theorem ss_anewarray {p : Program} {l : Launch} {e : Env} {R : Room} {s : State} {m : MethodId} {args : Array Value} {below : List Frame} {meth : Method} {c : Code} {own : String} {cc : ByteArray} {nL : Nat} {ini : Bool} {D : va_G} {cA : Nat → ClassId} {fv : Value} {A : Nat → Prop} {ad0 : Nat → Nat} {d : Nat} {Q : State → Prop} {rr : zR} {M0 : zM} {rt : Option FieldType} {sc : Option (Nat × (Nat → Int32))} {cal : zC} {k : zK}
    (C : zCx p R s m args meth c own cc nL ini D cA fv A ad0 d) (hk : ∀ pc' ls' st' M', k pc' ls' st' M' = some rr → zW p l e R s m args below meth c Q D cA fv A ad0 M0 nL pc' ls' st' M') {pc nxt : Nat} {aux : List Nat} {ld : Option (List Nat)} {ls : zLs} {st : List Value} {M : zM} {i : Nat} (hkm : ∀ pc' ls' st' M', k pc' ls' st' M' = some rr → M'.1.1 ≤ rr.2.1.1 ∧ M'.1.2.1 ≤ rr.2.1.2.1) (hR : rr.2.1.1 - M0.1.1 ≤ R.cells ∧ rr.2.1.2.1 - M0.1.2.1 ≤ R.slots)
    (hok : zOk own cc nL rt ini (pc, .anewarray i, nxt, aux, ld) = true) (h : stp sc cal (pc, .anewarray i, nxt, aux, ld) ls st M k = some rr) : zW p l e R s m args below meth c Q D cA fv A ad0 M0 nL pc ls st M := by
  obtain ⟨hx, hb, hml, hown, hts, hK, hA, hini, hX, hfv, hfr, hlo⟩ := C
  have hok : (zchk cc (pc, .anewarray i, nxt, aux, ld) 3 && zwd (aux.getD 1 0) (.classLink own i "SilkRise$State") && zwd (aux.getD 2 0) (.arrayOver (.object "SilkRise$State"))) = true := hok
  simp only [Bool.and_eq_true] at hok
  obtain ⟨⟨hch, w1⟩, w2⟩ := hok
  obtain ⟨hdg, rfl⟩ := zchk_of hch
  obtain ⟨n, st, rfl, h1⟩ := pI_some h
  obtain ⟨⟨hn, hoks⟩, h2⟩ := ite_some h1
  clear h h1
  have h2 : k (pc + 3) ls (.ref (M.1.1 + 7) :: st) (alc M 24 n.toInt.toNat) = some rr := h2
  have hm := hkm _ _ _ _ h2
  have hm : M.1.1 + 1 ≤ rr.2.1.1 ∧ M.1.2.1 + n.toInt.toNat ≤ rr.2.1.2.1 := hm
  intro ad H locs L had hn1 hn2 hwf hP hD hS hl
  refine va_newq (N' := n.toInt.toNat) hx hb hown (hts _ (zwd_in w1)) (va_AO.of (hts _ (zwd_in w2))) hK hP hD hS hA (z_neg hn.1) rfl (by omega) (by omega) (by omega) hdg (fun q1 ca H1 hK1 hP hD hS => ?_)
  have hca := zca_eq hK1 (t := 4) rfl
  subst hca
  exact zalc_go hk (by omega) hoks h2 had hn1 hn2 hwf zce_newq hP hD hS hl
def zadg (ad : Nat → Nat) (n q N : Nat) (r : Nat → Nat) : Nat → Nat := fun a => if a = n + 7 then q else if n + 7 < a ∧ a ≤ n + 7 + N then r (a - (n + 8)) else ad a
theorem zws_alg {ad : Nat → Nat} {cA : Nat → ClassId} {M : zM} {q N K : Nat} {r : Nat → Nat} (hw : zwf M) :
    zws (zadg ad M.1.1 q N r) cA (alg M N K) = (zws ad cA M ++ [(q, .inl (cA 25, N, .inr (.inr (.inr (.inr (fun i => if i < N then some (r i) else none))))))]) ++ (List.range N).map (fun i => (r i, .inl (cA 20, K, .inl (fun _ => 0)))) := by
  unfold zws
  rw [show (alg M N K).1.1 = M.1.1 + 1 + N from rfl, List.range_add, List.map_append, List.range_succ, List.map_append, List.map_map]
  congr 1
  · congr 1
    · apply List.map_congr_left
      intro i hi
      have hi : i < M.1.1 := List.mem_range.mp hi
      have hne : ∀ {α : Type} (x y z : α), (if i + 7 = M.1.1 + 7 then x else if M.1.1 + 7 ≤ i + 7 then y else z) = z := fun x y z => by rw [if_neg (by omega), if_neg (by omega)]
      have hne2 : ∀ {α : Type} (y z : α), (if M.1.1 + 7 ≤ i + 7 then y else z) = z := fun y z => if_neg (by omega)
      have had : ∀ a, a < M.1.1 + 7 → zadg ad M.1.1 q N r a = ad a := fun a ha => by
        unfold zadg
        rw [if_neg (by omega), if_neg (by omega)]
      rw [had _ (by omega)]
      congr 1
      have e1 : zce (zadg ad M.1.1 q N r) cA (alg M N K) (i + 7) = zce (zadg ad M.1.1 q N r) cA M (i + 7) := by
        refine zce_congr ?_ ?_ (funext fun b => ?_) (funext fun b => ?_) (funext fun b => ?_)
        · exact hne _ _ _
        · exact hne _ _ _
        · exact hne2 _ _
        · exact hne2 _ _
        · exact hne _ _ _
      rw [e1]
      exact zce_ad fun j _ => had _ (by have := hw.1 (i + 7) j; omega)
    · rw [List.map_singleton]
      have hk : (alg M N K).1.2.2.1 (M.1.1 + 7) = 25 := if_pos rfl
      have e1 : gN (alg M N K) (M.1.1 + 7) = N := if_pos rfl
      have e0 : zadg ad M.1.1 q N r (M.1.1 + 7) = q := if_pos rfl
      rw [zce_refs hk (Or.inr rfl), e1, e0]
      congr 1
      congr 1
      refine congrArg (fun f => Sum.inl (cA 25, N, Sum.inr (Sum.inr (Sum.inr (Sum.inr f))))) (funext fun j => ?_)
      have e2 : gR (alg M N K) (M.1.1 + 7) j = if j < N then M.1.1 + 8 + j else 0 := if_pos rfl
      unfold zaf
      rw [e2]
      by_cases hj : j < N
      · rw [if_pos hj, if_neg (by omega), if_pos hj]
        congr 1
        unfold zadg
        rw [if_neg (by omega), if_pos (by omega), show M.1.1 + 8 + j - (M.1.1 + 8) = j by omega]
      · rw [if_neg hj, if_pos rfl, if_neg hj]
  · apply List.map_congr_left
    intro i hi
    have hi : i < N := List.mem_range.mp hi
    show (zadg ad M.1.1 q N r (M.1.1 + 1 + i + 7), zce (zadg ad M.1.1 q N r) cA (alg M N K) (M.1.1 + 1 + i + 7)) = _
    have e0 : zadg ad M.1.1 q N r (M.1.1 + 1 + i + 7) = r i := by
      unfold zadg
      rw [if_neg (by omega), if_pos (by omega), show M.1.1 + 1 + i + 7 - (M.1.1 + 8) = i by omega]
    have h2 : ∀ {α : Type} (x y z : α), (if M.1.1 + 1 + i + 7 = M.1.1 + 7 then x else if M.1.1 + 7 ≤ M.1.1 + 1 + i + 7 then y else z) = y := fun x y z => by rw [if_neg (by omega), if_pos (by omega)]
    have hk : (alg M N K).1.2.2.1 (M.1.1 + 1 + i + 7) = 20 := h2 _ _ _
    have e1 : gN (alg M N K) (M.1.1 + 1 + i + 7) = K := h2 _ _ _
    have e2 : gI (alg M N K) (M.1.1 + 1 + i + 7) = fun _ => 0 := funext fun j => if_pos (by omega)
    rw [zce_int hk (by omega), e0, e1, e2]
theorem zwf_alg {M : zM} {N K : Nat} (h : zwf M) : zwf (alg M N K) := by
  refine ⟨fun r j => ?_, fun a => ?_⟩
  · show (if r = M.1.1 + 7 then (if j < N then M.1.1 + 8 + j else 0) else if M.1.1 + 7 ≤ r then 0 else _) < M.1.1 + 1 + N + 7
    split
    · split <;> omega
    · split
      · omega
      · have := h.1 r j
        unfold gR at this
        omega
  · show (if a = M.1.1 + 7 then 25 else if M.1.1 + 7 ≤ a then 20 else _) < 30
    split
    · omega
    · split
      · omega
      · exact h.2 a
theorem ss_multianewarray {p : Program} {l : Launch} {e : Env} {R : Room} {s : State} {m : MethodId} {args : Array Value} {below : List Frame} {meth : Method} {c : Code} {own : String} {cc : ByteArray} {nL : Nat} {ini : Bool} {D : va_G} {cA : Nat → ClassId} {fv : Value} {A : Nat → Prop} {ad0 : Nat → Nat} {d : Nat} {Q : State → Prop} {rr : zR} {M0 : zM} {rt : Option FieldType} {sc : Option (Nat × (Nat → Int32))} {cal : zC} {k : zK}
    (C : zCx p R s m args meth c own cc nL ini D cA fv A ad0 d) (hk : ∀ pc' ls' st' M', k pc' ls' st' M' = some rr → zW p l e R s m args below meth c Q D cA fv A ad0 M0 nL pc' ls' st' M') {pc nxt : Nat} {aux : List Nat} {ld : Option (List Nat)} {ls : zLs} {st : List Value} {M : zM} {i : Nat} (hkm : ∀ pc' ls' st' M', k pc' ls' st' M' = some rr → M'.1.1 ≤ rr.2.1.1 ∧ M'.1.2.1 ≤ rr.2.1.2.1) (hR : rr.2.1.1 - M0.1.1 ≤ R.cells ∧ rr.2.1.2.1 - M0.1.2.1 ≤ R.slots)
    (hok : zOk own cc nL rt ini (pc, .multianewarray i 2, nxt, aux, ld) = true) (h : stp sc cal (pc, .multianewarray i 2, nxt, aux, ld) ls st M k = some rr) : zW p l e R s m args below meth c Q D cA fv A ad0 M0 nL pc ls st M := by
  obtain ⟨hx, hb, hml, hown, hts, hK, hA, hini, hX, hfv, hfr, hlo⟩ := C
  have hok : (zchk cc (pc, .multianewarray i 2, nxt, aux, ld) 4 && decide (2 = 2) && zwd (aux.getD 1 0) (.classLink own i "[[I") && zwd (aux.getD 2 0) (.arrayOver (.array .int)) && zwd (aux.getD 3 0) (.arrayClass .int)) = true := hok
  simp only [Bool.and_eq_true] at hok
  obtain ⟨⟨⟨⟨hch, -⟩, w1⟩, w2⟩, w3⟩ := hok
  obtain ⟨hdg, rfl⟩ := zchk_of hch
  obtain ⟨kk, st, rfl, h1⟩ := pI_some h
  obtain ⟨n, st, rfl, h3⟩ := pI_some h1
  obtain ⟨⟨hn, hm2, hoks⟩, h2⟩ := ite_some h3
  clear h h1 h3
  have h2 : k (pc + 4) ls (.ref (M.1.1 + 7) :: st) (alg M n.toInt.toNat kk.toInt.toNat) = some rr := h2
  generalize hN : n.toInt.toNat = N at h2
  generalize hKK : kk.toInt.toNat = K at h2
  have hm := hkm _ _ _ _ h2
  have hm : M.1.1 + 1 + N ≤ rr.2.1.1 ∧ M.1.2.1 + N + N * K ≤ rr.2.1.2.1 := hm
  intro ad H locs L had hn1 hn2 hwf hP hD hS hl
  have hNL : N < 1000 := by omega
  have hKL : K < 1000 := by omega
  have hfc := (hK.2 0 (cA 20, .int) rfl).2
  refine va_mna (X := zws ad cA M) (L := []) (f := fun _ => .inr (0, [])) (ty := .int) (cy := cA 20) (N' := N) (K' := K) (z := (K, .inl (fun _ => 0))) hx hb hown (hts _ (zwd_in w1)) (hts _ (zwd_in w2)) (hts _ (zwd_in w3)) hfc hK (by simpa [va_pl] using hP) (by simpa [va_pl] using hD) hS hA (z_neg hn.1) (z_neg hm2.1) hN hKK (by omega) (by show K * 4 ≤ _; omega) (by omega) rfl rfl (by omega) (by omega) (fun cc0 => by show ({ cls := cc0, slots := Array.replicate K (.int 0), vm := .none } : Cell) = _; rw [arrV_new]; rfl) hdg (fun q r ca H1 hr1 hr2 hK1 hP hD hS => ?_)
  have hca := zca_eq hK1 (t := 5) rfl
  subst hca
  have hpl : va_pl ([] ++ (List.range N).map r) (vr_up (fun _ => .inr (0, [])) ((List.range N).map r) (.inl (cA 20, (K, .inl (fun _ => 0))))) = (List.range N).map (fun i => (r i, .inl (cA 20, K, .inl (fun _ => 0)))) := by
    unfold va_pl
    rw [List.nil_append, List.map_map]
    refine List.map_congr_left fun i hi => ?_
    show (r i, vr_up _ _ _ (r i)) = _
    rw [vr_up_in (List.mem_map.mpr ⟨i, hi, rfl⟩)]
  rw [hpl, ← zws_alg (K := K) hwf] at hP hD
  have hlow : ∀ a, a < M.1.1 + 7 → zadg ad M.1.1 q N r a = ad a := fun a ha => by unfold zadg; rw [if_neg (by omega), if_neg (by omega)]
  obtain ⟨e1, e2⟩ := okS_st (fv := fv) (ad := ad) (ad' := zadg ad M.1.1 q N r) hlow hoks
  have hgo := hk _ _ _ _ h2 (zadg ad M.1.1 q N r) H1 locs L (fun a ha => by
    have ha : a < M0.1.1 + 7 ∨ M.1.1 + 1 + N + 7 ≤ a := ha
    have : zadg ad M.1.1 q N r a = ad a := by unfold zadg; rw [if_neg (by omega), if_neg (by omega)]
    rw [this]
    exact had a (by omega)) (by show _ ≤ M.1.1 + 1 + N; omega) (by show _ ≤ M.1.2.1 + N + N * K; omega) (zwf_alg hwf) hP hD hS (by rw [e2]; exact hl)
  have hq : zadg ad M.1.1 q N r (M.1.1 + 7) = q := if_pos rfl
  rw [List.map_cons, e1, zst_ref (by omega), hq] at hgo
  have f1 : (alg M N K).1.1 - M0.1.1 = M.1.1 - M0.1.1 + 1 + N := by show M.1.1 + 1 + N - _ = _; omega
  have f2 : (alg M N K).1.2.1 - M0.1.2.1 = M.1.2.1 - M0.1.2.1 + N + N * K := by show M.1.2.1 + N + N * K - _ = _; omega
  rw [f1, f2] at hgo
  exact hgo
end
section
/-! THE PURE MACHINE SAYS THE TRUTH, on: calls and ends -/
theorem zblind {D : va_G} {cA : Nat → ClassId} {fv : Value} {ad : Nat → Nat} {M : zM} {sz : Nat} {av : List Value} : FrameBlind (va_Pc av (zPre D cA fv ad M sz)) := fun a U g mk q => by
  obtain ⟨q1, hsz, hwf, hP, hK, hD, hX, hN⟩ := q
  exact ⟨q1, hsz, hwf, hP, va_K.moved (u := U) (U := U.calling g mk a) (Vm.Alike.refl U.vm) hK, hD, ⟨vk_S.moved (u := U) (U := U.calling g mk a) (Vm.Alike.refl U.vm) hX.1, vk_R.same (u := U) (U := U.calling g mk a) rfl hX.2.1, vk_R.same (u := U) (U := U.calling g mk a) rfl hX.2.2.1, va_Z.moved (u := U) (U := U.calling g mk a) (Vm.Alike.refl U.vm) hX.2.2.2.1, va_Z.moved (u := U) (U := U.calling g mk a) (Vm.Alike.refl U.vm) hX.2.2.2.2⟩, fun w hw hn => nest_same hn (u := U) (U := U.calling g mk a) rfl (hN w hw hn)⟩
theorem zX_ad {ad ad0 : Nat → Nat} {fv : Value} {A : Nat → Prop} {U : State} {H : Heap} (h : zX ad0 fv A U H) (had : ∀ r, r < 7 → ad r = ad0 r) : zX ad fv A U H := by
  unfold zX at h ⊢
  rw [had 2 (by omega), had 3 (by omega), had 4 (by omega), had 5 (by omega)]
  exact h
theorem zX_call {ad : Nat → Nat} {fv : Value} {A A1 : Nat → Prop} {s U : State} {H : Heap} {locs : List Loc} (h : zX ad fv A s s.heap) (hS : va_S A s.heap H locs) (hA : ∀ q, A1 q → A q) (hU : U.heap = H) (hW : s.WarmedH U.vm) : zX ad fv A1 U U.heap := by
  rw [hU]
  exact ⟨((h.1.kept hS.2.1).narrow hA).moved hW.alike, vk_R.warm hW h.2.1, vk_R.warm hW h.2.2.1, ((h.2.2.2.1.kept hS.2.1).narrow hA).moved hW.alike, ((h.2.2.2.2.kept hS.2.1).narrow hA).moved hW.alike⟩
theorem zgood {z : Nat} (hz : z < 278) : GoodIn zTb (zw z) := by
  intro w hw
  rcases List.mem_cons.mp hw with rfl | h
  · exact ⟨zcode_in hz, good_of_word rfl⟩
  · have h2 := List.mem_filter.mp h
    exact ⟨h2.1, good_of_word h2.2⟩
theorem zMok_of {z n : Nat} (hz : zMok z = true) (hp : zpar z n = true) : ((zinf z).1.cls ≠ "java/lang/invoke/MethodHandle" ∧ (zinf z).1.cls ≠ "java/lang/invoke/VarHandle" ∧ (parseMethodDescriptor (zinf z).1.desc).map (fun d => d.parameters.length) = some n) ∧ (zinf z).2.2.1 ≤ 40 := by
  unfold zMok at hz
  unfold zpar at hp
  simp only [Bool.and_eq_true, decide_eq_true_eq] at hz hp
  exact ⟨⟨hz.1.1.1.2, hz.1.1.2, hp.2⟩, hz.1.2⟩
theorem cBack_some {ret : Nat} {oo : Option zR} {f : List Value → zM → Option zR} {r : zR} (h : cBack ret oo f = some r) : ∃ v M1, oo = some (v, M1) ∧ f v.toList M1 = some r := by
  unfold cBack at h
  split at h
  · obtain ⟨M1, h1, h2⟩ := bV_some h
    exact ⟨none, M1, h1, h2⟩
  · split at h
    · obtain ⟨x, M1, h1, h2⟩ := bI_some h
      exact ⟨some (.int x), M1, h1, h2⟩
    · obtain ⟨x, M1, h1, h2⟩ := bL_some h
      exact ⟨some (.long x), M1, h1, h2⟩
/-- behind a call: the walk goes on -/
theorem zcall_go {p : Program} {l : Launch} {e : Env} {R : Room} {s : State} {m : MethodId} {args : Array Value} {below : List Frame} {meth : Method} {c : Code} {own : String} {cc : ByteArray} {nL : Nat} {ini : Bool} {D : va_G} {cA : Nat → ClassId} {fv : Value} {A : Nat → Prop} {ad0 : Nat → Nat} {d : Nat} {Q : State → Prop} {rr : zR} {M0 : zM} {k : zK}
    (C : zCx p R s m args meth c own cc nL ini D cA fv A ad0 d) (hk : ∀ pc' ls' st' M', k pc' ls' st' M' = some rr → zW p l e R s m args below meth c Q D cA fv A ad0 M0 nL pc' ls' st' M')
    {pc : Nat} {ls : zLs} {st : List Value} {M M1 : zM} {v : Option Value} {ad : Nat → Nat} {H : Heap} {locs : List Loc} {L : Array Slot} {st0 : List Value} {av : Array Value}
    (had : ∀ r, (r < M0.1.1 + 7 ∨ M.1.1 + 7 ≤ r) → ad r = ad0 r) (hn1 : M0.1.1 ≤ M.1.1) (hn2 : M0.1.2.1 ≤ M.1.2.1) (hD : va_D A (zws ad cA M)) (hS : va_S A s.heap H locs) (hl : lv_has L nL (ls.map (zq fv ad)))
    (hag : M1.1.1 = M.1.1 ∨ okS M ls st = true) (hmo : M.1.1 ≤ M1.1.1 ∧ M.1.2.1 ≤ M1.1.2.1)
    (hr : va_Run p l e R s m args below meth c H locs (M.1.1 - M0.1.1) (M.1.2.1 - M0.1.2.1) (M1.1.1 - M.1.1) (M1.1.2.1 - M.1.2.1) (F0 m pc L st0) (st.map (zv fv ad)) (zQc D cA fv ad M H.size v M1 av) (va_A (zws ad cA M) H.size))
    (h : k (pc + 3) ls (v.toList ++ st) M1 = some rr) : W p l e R s m args below meth c H locs (M.1.1 - M0.1.1) (M.1.2.1 - M0.1.2.1) Q (F0 m pc L st0) := by
  obtain ⟨hx, hb, hml, hown, hts, hK, hA, hini, hX, hfv, hfr, hlo⟩ := C
  have hA1 : ∀ q, va_A (zws ad cA M) H.size q → A q := fun q hq => by
    rcases hq with ⟨i, x, hi⟩ | hq
    · exact hD.2 i (q, x) hi
    · exact hA q (Nat.le_trans hS.1 hq)
  intro T hT X
  obtain ⟨v', st₀, t, T', L', h0, X', hL, e1, e2, ⟨⟨ad', hag', hwf1, hv, hP1, hD1⟩, hz, hkp⟩, hst⟩ := hr T hT X
  cases hv
  rw [h0] at hz hkp
  have hm : st.map (zv fv ad') = st.map (zv fv ad) ∧ ls.map (zq fv ad') = ls.map (zq fv ad) := by
    rcases hag with h1 | h1
    · have : ad' = ad := funext fun r => hag' r (by omega)
      rw [this]
      exact ⟨rfl, rfl⟩
    · exact okS_st (fun r hr => hag' r (Or.inl hr)) h1
  have hgo := hk _ _ _ _ h ad' T'.heap (locs ++ L') L (fun r hr => by rw [hag' r (by omega)]; exact had r (by omega)) (by omega) (by omega) hwf1 (by rw [e1]; exact hP1) (hD1.weaken (fun _ q _ hq => hA1 q.1 hq))
    ⟨Nat.le_trans hS.1 (by rw [e1]; exact hz), fun q h1 h2 => by rw [e1, hkp q (Nat.lt_of_lt_of_le h1 hS.1) (fun z => h2 (hA1 q z))]; exact hS.2.1 q h1 h2, fun q hq => by
      rcases List.mem_append.mp hq with h | h
      · exact hS.2.2 q h
      · exact hA1 _ (hL q h)⟩ (by rw [hm.2]; exact hl)
  have f1 : M.1.1 - M0.1.1 + (M1.1.1 - M.1.1) = M1.1.1 - M0.1.1 := by omega
  have f2 : M.1.2.1 - M0.1.2.1 + (M1.1.2.1 - M.1.2.1) = M1.1.2.1 - M0.1.2.1 := by omega
  rw [f1, f2] at X'
  have f3 : (v.toList ++ st).map (zv fv ad') = (v.map (zv fv ad')).toList ++ st.map (zv fv ad) := by
    rw [List.map_append, hm.1]
    cases v <;> rfl
  rw [f3] at hgo
  obtain ⟨t2, a1, b1⟩ := hgo T' rfl X'
  exact ⟨t2, hst t2 a1, b1⟩
theorem zstk {fv : Value} {ad : Nat → Nat} (as st : List Value) : (as.reverse ++ st).map (zv fv ad) = (as.map (zv fv ad)).reverse ++ st.map (zv fv ad) := by
  rw [List.map_append, List.map_reverse]
theorem ss_invokestatic {p : Program} {l : Launch} {e : Env} {R : Room} {s : State} {m : MethodId} {args : Array Value} {below : List Frame} {meth : Method} {c : Code} {own : String} {cc : ByteArray} {nL : Nat} {ini : Bool} {D : va_G} {cA : Nat → ClassId} {fv : Value} {A : Nat → Prop} {ad0 : Nat → Nat} {d : Nat} {Q : State → Prop} {rr : zR} {M0 : zM} {rt : Option FieldType} {sc : Option (Nat × (Nat → Int32))} {cal : zC} {k : zK}
    (C : zCx p R s m args meth c own cc nL ini D cA fv A ad0 d) (hk : ∀ pc' ls' st' M', k pc' ls' st' M' = some rr → zW p l e R s m args below meth c Q D cA fv A ad0 M0 nL pc' ls' st' M') {pc nxt : Nat} {aux : List Nat} {ld : Option (List Nat)} {ls : zLs} {st : List Value} {M : zM} {i : Nat} (hcal : ∀ z as M v M1, cal z as M = some (v, M1) → (M.1.1 ≤ M1.1.1 ∧ M.1.2.1 ≤ M1.1.2.1) ∧ zMet l d z as M v M1) (hkm : ∀ pc' ls' st' M', k pc' ls' st' M' = some rr → M'.1.1 ≤ rr.2.1.1 ∧ M'.1.2.1 ≤ rr.2.1.2.1) (hR : rr.2.1.1 - M0.1.1 ≤ R.cells ∧ rr.2.1.2.1 - M0.1.2.1 ≤ R.slots) (hzm : ∀ z, z < 278 → zMok z = true)
    (hok : zOk own cc nL rt ini (pc, .invokestatic i, nxt, aux, ld) = true) (h : stp sc cal (pc, .invokestatic i, nxt, aux, ld) ls st M k = some rr) : zW p l e R s m args below meth c Q D cA fv A ad0 M0 nL pc ls st M := by
  obtain ⟨hx, hb, hml, hown, hts, hK, hA, hini, hX, hfv, hfr, hlo⟩ := C
  have C : zCx p R s m args meth c own cc nL ini D cA fv A ad0 d := ⟨hx, hb, hml, hown, hts, hK, hA, hini, hX, hfv, hfr, hlo⟩
  obtain ⟨hdg, rfl, hc⟩ := zchk_of2 hok
  have hc : (if aux.getD 0 0 = 9999 then zwd (aux.getD 1 0) (.methodLink own i arraycopyName) && zwd (aux.getD 2 0) (.native arraycopyName) && zwd (aux.getD 3 0) (.static arraycopyName) && zwd (aux.getD 4 0) (.initialized "java/lang/System") else zpar (aux.getD 0 0) (aux.getD 1 0) && zwd (aux.getD 5 0) (.static (zinf (aux.getD 0 0)).1) && zwd (aux.getD 6 0) (.initialized (zinf (aux.getD 0 0)).1.cls) && (if aux.getD 3 0 = 0 then zwd (aux.getD 4 0) (.methodLink own i (zinf (aux.getD 0 0)).1) else zwd (aux.getD 4 0) (.methodLinkNest own i (zinf (aux.getD 0 0)).1 "SilkRise"))) = true := hc
  have h : (if aux.getD 0 0 = 9999 then _ else _) = some rr := h
  by_cases h9 : aux.getD 0 0 = 9999
  · rw [if_pos h9] at h hc
    simp only [Bool.and_eq_true] at hc
    obtain ⟨⟨⟨w1, w2⟩, w3⟩, w4⟩ := hc
    obtain ⟨n, st, rfl, h1⟩ := pI_some h
    obtain ⟨dp, st, rfl, h2⟩ := pI_some h1
    obtain ⟨dd, st, rfl, h3⟩ := pA_some h2
    obtain ⟨sp, st, rfl, h4⟩ := pI_some h3
    obtain ⟨ss, st, rfl, h5⟩ := pA_some h4
    obtain ⟨⟨k1, k2, k3, k4, k5, k6, k7⟩, h6⟩ := ite_some h5
    obtain ⟨rfl, h7⟩ := pN_some h6
    clear h h1 h2 h3 h4 h5 h6
    intro ad H locs L had hn1 hn2 hwf hP hD hS hl
    obtain ⟨g1, g2, g3⟩ := zgk k1 (by omega) (by omega) (by omega)
    obtain ⟨f1, f2, f3⟩ := zgk k2 (by omega) (by omega) (by omega)
    have hgs := zws_get (ad := ad) (cA := cA) g1 g2
    rw [zce_int g3 (by omega)] at hgs
    have hgd := zws_get (ad := ad) (cA := cA) f1 f2
    rw [zce_int f3 (by omega)] at hgd
    rw [List.map_cons, List.map_cons, List.map_cons, List.map_cons, List.map_cons, zst_ref (r := ss) (by omega), zst_ref (r := dd) (by omega)]
    refine va_copyi hx hb (hml.trans hl.1.symm) hown (hts _ (zwd_in w1)) (hts _ (zwd_in w2)) (hts _ (zwd_in w3)) (hts _ (zwd_in w4)) hK hP hD hS (ss - 7) (dd - 7) 0 0 hgs hgd rfl rfl rfl (z_neg k3) (z_neg k4) (z_neg k5) (by show sp.toInt.toNat + n.toInt.toNat ≤ _; omega) (by show dp.toInt.toNat + n.toInt.toNat ≤ _; omega) (fun _ _ => rfl) (by omega) (Nat.le_trans (Nat.le_of_ble_eq_true rfl : _ ≤ 60) (by omega)) hdg (fun H1 locs1 hP hD hS => ?_)
    rw [← zws_cI (s := ss) (sp := sp.toNatClampNeg) (dp := dp.toNatClampNeg) (n := n.toNatClampNeg) f1 f2 f3] at hP hD
    exact hk _ _ _ _ h7 ad H1 locs1 L had hn1 hn2 hwf hP hD hS hl
  · rw [if_neg h9] at h hc
    simp only [Bool.and_eq_true] at hc
    obtain ⟨⟨⟨hp, w1⟩, w2⟩, w3⟩ := hc
    obtain ⟨as, st, rfl, hlen, hsum, h1⟩ := pop_some h
    obtain ⟨v, M1, hc1, h2⟩ := cBack_some h1
    obtain ⟨hnn, h3⟩ := ite_some h2
    clear h h1 h2
    have h3 : k (pc + 3) ls (v.toList ++ st) M1 = some rr := h3
    have hm1 := hkm _ _ _ _ h3
    obtain ⟨hmo, hM⟩ := hcal _ _ _ _ _ hc1
    have hz : aux.getD 0 0 < 278 := by unfold zpar at hp; rw [Bool.and_eq_true] at hp; exact of_decide_eq_true hp.1
    obtain ⟨hd3, hml40⟩ := zMok_of (hzm _ hz) hp
    have hf1 : fv.category = 1 := by rcases hfv with rfl | ⟨t, rfl⟩ <;> rfl
    intro ad H locs L had hn1 hn2 hwf hP hD hS hl
    have hA1 : ∀ q, va_A (zws ad cA M) H.size q → A q := fun q hq => by
      rcases hq with ⟨i, x, hi⟩ | hq
      · exact hD.2 i (q, x) hi
      · exact hA q (Nat.le_trans hS.1 hq)
    have hMet := hM D cA fv ad H.size hfv
    have hst : (as.reverse ++ st).map (zv fv ad) = (as.map (zv fv ad)).reverse ++ st.map (zv fv ad) := zstk as st
    have hrm : 2 * (F0 m pc L ((as.reverse ++ st).map (zv fv ad))).monitorRoom + ((st.map (zv fv ad)).map fun v => v.category).sum ≤ 8 := by rw [zsum_map hf1]; show 2 * 0 + _ ≤ 8; omega
    have hGW := zgood hz
    have hlr : 8 + ((zinf (aux.getD 0 0)).2.2.1 + 11) + (zrm d M M1).locals ≤ R.locals := by show 8 + (_ + 11) + 60 * d ≤ _; omega
    by_cases h30 : aux.getD 3 0 = 0
    · rw [if_pos h30] at w3
      exact zcall_go C hk had hn1 hn2 hD hS hl (Or.inl hnn) hmo (va_runS ⟨hx, hb, hml, hown, hts⟩ hMet ⟨callB_of (aux.getD 1 0) hts hGW rfl rfl rfl (hts _ (zwd_in w2)) (hts _ (zwd_in w3)) hd3 ⟨hfr, hlr⟩, hts _ (zwd_in w1)⟩ ⟨zblind, fun U hU hW => ⟨rfl, by rw [hU], hwf, by rw [hU]; exact hP, va_K.moved hW.alike hK, hD.weaken (fun _ _ _ _ => trivial), zX_call (zX_ad hX (fun r hr => had r (by omega))) hS hA1 hU hW, fun w hw hn => nest_warm hn hW (nest_same hn rfl (hts w hw))⟩⟩ rfl (by rw [List.length_map]; exact hlen) hl.1 hst hrm hdg ⟨by omega, by omega⟩) h3
    · rw [if_neg h30] at w3
      exact zcall_go C hk had hn1 hn2 hD hS hl (Or.inl hnn) hmo (va_runSN ⟨hx, hb, hml, hown, hts⟩ hMet ⟨va_cnB (aux.getD 1 0) hts hGW rfl rfl rfl (va_Nw.of rfl (hts _ (zwd_in w3))) (hts _ (zwd_in w2)) hd3 ⟨hfr, hlr⟩, hts _ (zwd_in w1), trivial⟩ ⟨zblind, fun U hU hW => ⟨rfl, by rw [hU], hwf, by rw [hU]; exact hP, va_K.moved hW.alike hK, hD.weaken (fun _ _ _ _ => trivial), zX_call (zX_ad hX (fun r hr => had r (by omega))) hS hA1 hU hW, fun w hw hn => nest_warm hn hW (nest_same hn rfl (hts w hw))⟩⟩ rfl (by rw [List.length_map]; exact hlen) hl.1 hst hrm hdg ⟨by omega, by omega⟩) h3
theorem ss_invokevirtual {p : Program} {l : Launch} {e : Env} {R : Room} {s : State} {m : MethodId} {args : Array Value} {below : List Frame} {meth : Method} {c : Code} {own : String} {cc : ByteArray} {nL : Nat} {ini : Bool} {D : va_G} {cA : Nat → ClassId} {fv : Value} {A : Nat → Prop} {ad0 : Nat → Nat} {d : Nat} {Q : State → Prop} {rr : zR} {M0 : zM} {rt : Option FieldType} {sc : Option (Nat × (Nat → Int32))} {cal : zC} {k : zK}
    (C : zCx p R s m args meth c own cc nL ini D cA fv A ad0 d) (hk : ∀ pc' ls' st' M', k pc' ls' st' M' = some rr → zW p l e R s m args below meth c Q D cA fv A ad0 M0 nL pc' ls' st' M') {pc nxt : Nat} {aux : List Nat} {ld : Option (List Nat)} {ls : zLs} {st : List Value} {M : zM} {i : Nat} (hcal : ∀ z as M v M1, cal z as M = some (v, M1) → (M.1.1 ≤ M1.1.1 ∧ M.1.2.1 ≤ M1.1.2.1) ∧ zMet l d z as M v M1) (hkm : ∀ pc' ls' st' M', k pc' ls' st' M' = some rr → M'.1.1 ≤ rr.2.1.1 ∧ M'.1.2.1 ≤ rr.2.1.2.1) (hR : rr.2.1.1 - M0.1.1 ≤ R.cells ∧ rr.2.1.2.1 - M0.1.2.1 ≤ R.slots) (hzm : ∀ z, z < 278 → zMok z = true)
    (hok : zOk own cc nL rt ini (pc, .invokevirtual i, nxt, aux, ld) = true) (h : stp sc cal (pc, .invokevirtual i, nxt, aux, ld) ls st M k = some rr) : zW p l e R s m args below meth c Q D cA fv A ad0 M0 nL pc ls st M := by
  obtain ⟨hx, hb, hml, hown, hts, hK, hA, hini, hX, hfv, hfr, hlo⟩ := C
  have C : zCx p R s m args meth c own cc nL ini D cA fv A ad0 d := ⟨hx, hb, hml, hown, hts, hK, hA, hini, hX, hfv, hfr, hlo⟩
  have hok : (zchk cc (pc, .invokevirtual i, nxt, aux, ld) 3 && zpar (aux.getD 0 0) (aux.getD 1 0) && zwd (aux.getD 4 0) (.methodLink own i (zinf (aux.getD 0 0)).1) && zwd (aux.getD 5 0) (.instanceMethod (zinf (aux.getD 0 0)).1) && zwd (aux.getD 6 0) (.selects (zinf (aux.getD 0 0)).1.cls (zinf (aux.getD 0 0)).1 (zinf (aux.getD 0 0)).1) && zwd (aux.getD 7 0) (.initialized (zinf (aux.getD 0 0)).1.cls) && (if aux.getD 3 0 = 30 then decide ((zinf (aux.getD 0 0)).1.cls = "java/lang/String") else match zCl[aux.getD 3 0]? with | none => false | some q => decide ((zinf (aux.getD 0 0)).1.cls = q.1))) = true := hok
  simp only [Bool.and_eq_true] at hok
  obtain ⟨⟨⟨⟨⟨⟨hch, hp⟩, w1⟩, w2⟩, w3⟩, w4⟩, hcc⟩ := hok
  obtain ⟨hdg, rfl⟩ := zchk_of hch
  have h : pop (aux.getD 1 0) st (fun as st => pA st fun r st => if gK M r = aux.getD 3 0 then cBack (aux.getD 2 0) (cal (aux.getD 0 0) (.ref r :: as) M) fun v M1 => if M1.1.1 = M.1.1 then k (pc + 3) ls (v ++ st) M1 else none else none) = some rr := h
  obtain ⟨as, st, rfl, hlen, hsum, h1⟩ := pop_some h
  obtain ⟨r, st, rfl, h2⟩ := pA_some h1
  obtain ⟨hg, h4⟩ := ite_some h2
  obtain ⟨v, M1, hc1, h5⟩ := cBack_some h4
  obtain ⟨hnn, h3⟩ := ite_some h5
  clear h h1 h2 h4 h5
  have hg : gK M r = aux.getD 3 0 := hg
  have h3 : k (pc + 3) ls (v.toList ++ st) M1 = some rr := h3
  have hm1 := hkm _ _ _ _ h3
  obtain ⟨hmo, hM⟩ := hcal _ _ _ _ _ hc1
  have hz : aux.getD 0 0 < 278 := by unfold zpar at hp; rw [Bool.and_eq_true] at hp; exact of_decide_eq_true hp.1
  obtain ⟨hd3, hml40⟩ := zMok_of (hzm _ hz) hp
  have hf1 : fv.category = 1 := by rcases hfv with rfl | ⟨t, rfl⟩ <;> rfl
  intro ad H locs L had hn1 hn2 hwf hP hD hS hl
  have hA1 : ∀ q, va_A (zws ad cA M) H.size q → A q := fun q hq => by
    rcases hq with ⟨i, x, hi⟩ | hq
    · exact hD.2 i (q, x) hi
    · exact hA q (Nat.le_trans hS.1 hq)
  have hr0 : 0 < r := by
    rcases Nat.eq_zero_or_pos r with h0 | h0
    · subst h0
      have h99 : gK M 0 = 99 := rfl
      rw [h99] at hg
      rw [← hg] at hcc
      simp [zCl] at hcc
    · exact h0
  have hMet := hM D cA fv ad H.size hfv
  rw [List.map_cons, zst_ref hr0] at hMet
  have hst : (as.reverse ++ .ref r :: st).map (zv fv ad) = (as.map (zv fv ad)).reverse ++ .ref (ad r) :: st.map (zv fv ad) := by rw [zstk, List.map_cons, zst_ref hr0]
  have hsum : zsum (.ref r :: st) ≤ 8 := hsum
  have hsum2 : zsum (.ref r :: st) = 1 + zsum st := by unfold zsum; rw [List.map_cons, List.sum_cons]; rfl
  have hrm : 2 * (F0 m pc L ((as.reverse ++ .ref r :: st).map (zv fv ad))).monitorRoom + ((st.map (zv fv ad)).map fun v => v.category).sum ≤ 8 := by rw [zsum_map hf1]; show 2 * 0 + _ ≤ 8; omega
  have hGW := zgood hz
  have hlr : 8 + ((zinf (aux.getD 0 0)).2.2.1 + 11) + (zrm d M M1).locals ≤ R.locals := by show 8 + (_ + 11) + 60 * d ≤ _; omega
  have hrecv : ∃ cell : Cell, H[ad r]? = some cell ∧ cell.vm.isStatics = false ∧ s.vm.findClass (zinf (aux.getD 0 0)).1.cls = some cell.cls := by
    by_cases h30 : aux.getD 3 0 = 30
    · rw [if_pos h30] at hcc
      rw [of_decide_eq_true hcc]
      have hr2 := zgk30 (hg.trans h30) (fun a => by have := hwf.2 a; omega)
      rw [had r (Or.inl (by omega))]
      rcases hr2 with rfl | rfl
      · exact vk_recv hX.1 (i := 0) (by omega) hS
      · exact vk_recv hX.1 (i := 1) (by omega) hS
    · rw [if_neg h30] at hcc
      cases hq : zCl[aux.getD 3 0]? with
      | none => rw [hq] at hcc; cases hcc
      | some q =>
        rw [hq] at hcc
        have hcc : (zinf (aux.getD 0 0)).1.cls = q.1 := of_decide_eq_true hcc
        rw [hcc]
        have hci := zcl_lt hq
        obtain ⟨g1, g2, g3⟩ := zgk hg (by omega) (by omega) (by omega)
        have hget := zws_get (ad := ad) (cA := cA) g1 g2
        rw [zce_obj g3 hci] at hget
        exact va_recv hK hP hq hget
  exact zcall_go C hk had hn1 hn2 hD hS hl (Or.inl hnn) hmo (va_runV ⟨hx, hb, hml, hown, hts⟩ hMet ⟨callB_of (aux.getD 1 0) hts hGW rfl rfl rfl (hts _ (zwd_in w4)) (hts _ (zwd_in w1)) hd3 ⟨hfr, hlr⟩, hts _ (zwd_in w2), hts _ (zwd_in w3)⟩ ⟨zblind, hrecv, fun U hU hW => ⟨rfl, by rw [hU], hwf, by rw [hU]; exact hP, va_K.moved hW.alike hK, hD.weaken (fun _ _ _ _ => trivial), zX_call (zX_ad hX (fun r hr => had r (by omega))) hS hA1 hU hW, fun w hw hn => nest_warm hn hW (nest_same hn rfl (hts w hw))⟩⟩ rfl (by rw [List.length_map]; exact hlen) hl.1 hst hrm hdg ⟨by omega, by omega⟩) h3
theorem ss_invokespecial {p : Program} {l : Launch} {e : Env} {R : Room} {s : State} {m : MethodId} {args : Array Value} {below : List Frame} {meth : Method} {c : Code} {own : String} {cc : ByteArray} {nL : Nat} {ini : Bool} {D : va_G} {cA : Nat → ClassId} {fv : Value} {A : Nat → Prop} {ad0 : Nat → Nat} {d : Nat} {Q : State → Prop} {rr : zR} {M0 : zM} {rt : Option FieldType} {sc : Option (Nat × (Nat → Int32))} {cal : zC} {k : zK}
    (C : zCx p R s m args meth c own cc nL ini D cA fv A ad0 d) (hk : ∀ pc' ls' st' M', k pc' ls' st' M' = some rr → zW p l e R s m args below meth c Q D cA fv A ad0 M0 nL pc' ls' st' M') {pc nxt : Nat} {aux : List Nat} {ld : Option (List Nat)} {ls : zLs} {st : List Value} {M : zM} {i : Nat} (hcal : ∀ z as M v M1, cal z as M = some (v, M1) → (M.1.1 ≤ M1.1.1 ∧ M.1.2.1 ≤ M1.1.2.1) ∧ zMet l d z as M v M1) (hkm : ∀ pc' ls' st' M', k pc' ls' st' M' = some rr → M'.1.1 ≤ rr.2.1.1 ∧ M'.1.2.1 ≤ rr.2.1.2.1) (hR : rr.2.1.1 - M0.1.1 ≤ R.cells ∧ rr.2.1.2.1 - M0.1.2.1 ≤ R.slots) (hzm : ∀ z, z < 278 → zMok z = true)
    (hok : zOk own cc nL rt ini (pc, .invokespecial i, nxt, aux, ld) = true) (h : stp sc cal (pc, .invokespecial i, nxt, aux, ld) ls st M k = some rr) : zW p l e R s m args below meth c Q D cA fv A ad0 M0 nL pc ls st M := by
  obtain ⟨hx, hb, hml, hown, hts, hK, hA, hini, hX, hfv, hfr, hlo⟩ := C
  have C : zCx p R s m args meth c own cc nL ini D cA fv A ad0 d := ⟨hx, hb, hml, hown, hts, hK, hA, hini, hX, hfv, hfr, hlo⟩
  obtain ⟨hdg, rfl, hc⟩ := zchk_of2 hok
  have hc : (if aux.getD 0 0 = 9998 then zwd (aux.getD 1 0) (.methodLink own i Lib.objectInit) && zwd (aux.getD 2 0) (.instanceMethod Lib.objectInit) && zwd (aux.getD 3 0) (.code Lib.objectInit ⟨#[0xb1]⟩ 1 none) else zpar (aux.getD 0 0) (aux.getD 1 0) && zwd (aux.getD 3 0) (.methodLink own i (zinf (aux.getD 0 0)).1) && zwd (aux.getD 4 0) (.instanceMethod (zinf (aux.getD 0 0)).1) && zwd (aux.getD 5 0) (.initialized (zinf (aux.getD 0 0)).1.cls) && decide ((zinf (aux.getD 0 0)).1.name = "<init>") && decide ((zinf (aux.getD 0 0)).2.2.2 = none)) = true := hc
  have h : (if aux.getD 0 0 = 9998 then _ else _) = some rr := h
  by_cases h9 : aux.getD 0 0 = 9998
  · rw [if_pos h9] at h hc
    simp only [Bool.and_eq_true] at hc
    obtain ⟨⟨w1, w2⟩, w3⟩ := hc
    obtain ⟨r, st, rfl, h1⟩ := pA_some h
    obtain ⟨hr0, h3⟩ := ite_some h1
    obtain ⟨rfl, h2⟩ := pN_some h3
    clear h h1 h3
    intro ad H locs L had hn1 hn2 hwf hP hD hS hl
    have hgo := hk _ _ _ _ h2 ad H locs L had hn1 hn2 hwf hP hD hS hl
    rw [List.map_cons, zst_ref hr0]
    exact W.objInit hx hb hown (hts _ (zwd_in w1)) (hts _ (zwd_in w2)) (hts _ (zwd_in w3)) rfl (hl.1.trans hml.symm) rfl hdg (by omega) (by show 2 * 0 + 0 + 12 ≤ _; omega) hgo
  · rw [if_neg h9] at h hc
    simp only [Bool.and_eq_true, decide_eq_true_eq] at hc
    obtain ⟨⟨⟨⟨⟨hp, w1⟩, w2⟩, w3⟩, w4⟩, w5⟩ := hc
    obtain ⟨as, st, rfl, hlen, hsum, h1⟩ := pop_some h
    obtain ⟨r, st, rfl, h2⟩ := pA_some h1
    obtain ⟨⟨hr0, hoks⟩, h4⟩ := ite_some h2
    obtain ⟨v, M1, hc1, h3⟩ := cBack_some h4
    clear h h1 h2 h4
    have h3 : k (pc + 3) ls (v.toList ++ st) M1 = some rr := h3
    have hm1 := hkm _ _ _ _ h3
    obtain ⟨hmo, hM⟩ := hcal _ _ _ _ _ hc1
    have hz : aux.getD 0 0 < 278 := by unfold zpar at hp; rw [Bool.and_eq_true] at hp; exact of_decide_eq_true hp.1
    obtain ⟨hd3, hml40⟩ := zMok_of (hzm _ hz) hp
    have hf1 : fv.category = 1 := by rcases hfv with rfl | ⟨t, rfl⟩ <;> rfl
    intro ad H locs L had hn1 hn2 hwf hP hD hS hl
    have hA1 : ∀ q, va_A (zws ad cA M) H.size q → A q := fun q hq => by
      rcases hq with ⟨i, x, hi⟩ | hq
      · exact hD.2 i (q, x) hi
      · exact hA q (Nat.le_trans hS.1 hq)
    have hMet := hM D cA fv ad H.size hfv
    rw [List.map_cons, zst_ref hr0] at hMet
    have hst : (as.reverse ++ .ref r :: st).map (zv fv ad) = (as.map (zv fv ad)).reverse ++ .ref (ad r) :: st.map (zv fv ad) := by rw [zstk, List.map_cons, zst_ref hr0]
    have hsum : zsum (.ref r :: st) ≤ 8 := hsum
    have hsum2 : zsum (.ref r :: st) = 1 + zsum st := by unfold zsum; rw [List.map_cons, List.sum_cons]; rfl
    have hrm : 2 * (F0 m pc L ((as.reverse ++ .ref r :: st).map (zv fv ad))).monitorRoom + ((st.map (zv fv ad)).map fun v => v.category).sum ≤ 8 := by rw [zsum_map hf1]; show 2 * 0 + _ ≤ 8; omega
    have hGW := zgood hz
    have hlr : 8 + ((zinf (aux.getD 0 0)).2.2.1 + 11) + (zrm d M M1).locals ≤ R.locals := by show 8 + (_ + 11) + 60 * d ≤ _; omega
    have hwz : zw (aux.getD 0 0) = Cond.code (zinf (aux.getD 0 0)).1 (zinf (aux.getD 0 0)).2.1 (zinf (aux.getD 0 0)).2.2.1 none :: zTb.filter goodWord := by unfold zw; rw [w5]
    exact zcall_go C hk had hn1 hn2 hD hS hl (Or.inr hoks) hmo (va_runI ⟨hx, hb, hml, hown, hts⟩ hMet ⟨callB_of (aux.getD 1 0) hts hGW hwz rfl rfl (hts _ (zwd_in w3)) (hts _ (zwd_in w1)) hd3 ⟨hfr, hlr⟩, w4, hts _ (zwd_in w2)⟩ ⟨zblind, fun U hU hW => ⟨rfl, by rw [hU], hwf, by rw [hU]; exact hP, va_K.moved hW.alike hK, hD.weaken (fun _ _ _ _ => trivial), zX_call (zX_ad hX (fun r hr => had r (by omega))) hS hA1 hU hW, fun w hw hn => nest_warm hn hW (nest_same hn rfl (hts w hw))⟩⟩ rfl (by rw [List.length_map]; exact hlen) hl.1 hst hrm hdg ⟨by omega, by omega⟩) h3
theorem z_char {x : Int32} (h : 0 ≤ x.toInt ∧ x.toInt < 65536) : narrow .char (.int x) = .int x := by
  show Value.int x.toUInt32.toUInt16.toUInt32.toInt32 = .int x
  congr 1
  obtain ⟨n, hn, rfl⟩ := nI_of (x := x) (fun q => by have := Int32.lt_iff_toInt_lt.mp q; have e : (0 : Int32).toInt = 0 := rfl; omega)
  have hn2 : n < 65536 := by have := nI_toInt hn; omega
  apply Int32.toBitVec.inj
  apply BitVec.eq_of_toNat_eq
  show (((BitVec.ofNat 32 n).setWidth 16).setWidth 32).toNat = (BitVec.ofNat 32 n).toNat
  simp only [BitVec.toNat_setWidth, BitVec.toNat_ofNat]
  omega
theorem z_byte {x : Int32} (h : -128 ≤ x.toInt ∧ x.toInt < 128) : narrow .byte (.int x) = .int x := by
  show Value.int x.toInt8.toInt32 = .int x
  congr 1
  apply Int32.toInt_inj.mp
  rw [Int8.toInt_toInt32, Int32.toInt_toInt8]
  show (if x.toInt % 256 < (256 + 1) / 2 then x.toInt % 256 else x.toInt % 256 - 256) = x.toInt
  split <;> omega
theorem ss_ireturn {p : Program} {l : Launch} {e : Env} {R : Room} {s : State} {m : MethodId} {args : Array Value} {below : List Frame} {meth : Method} {c : Code} {own : String} {cc : ByteArray} {nL : Nat} {ini : Bool} {D : va_G} {cA : Nat → ClassId} {fv : Value} {A : Nat → Prop} {ad0 : Nat → Nat} {d : Nat} {Q : State → Prop} {rr : zR} {M0 : zM} {rt : Option FieldType} {sc : Option (Nat × (Nat → Int32))} {cal : zC} {k : zK}
    (C : zCx p R s m args meth c own cc nL ini D cA fv A ad0 d) (hk : ∀ pc' ls' st' M', k pc' ls' st' M' = some rr → zW p l e R s m args below meth c Q D cA fv A ad0 M0 nL pc' ls' st' M') {pc nxt : Nat} {aux : List Nat} {ld : Option (List Nat)} {ls : zLs} {st : List Value} {M : zM} (hret : ∀ (ad : Nat → Nat) (H : Heap) (locs : List Loc) (L : Array Slot) (pc : Nat) (st : List Value), (∀ r, (r < M0.1.1 + 7 ∨ rr.2.1.1 + 7 ≤ r) → ad r = ad0 r) → M0.1.1 ≤ rr.2.1.1 → M0.1.2.1 ≤ rr.2.1.2.1 → zwf rr.2 → va_P D zCl (zws ad cA rr.2) H → va_D A (zws ad cA rr.2) → va_S A s.heap H locs → zRet cc rt pc st (rr.1.map (zv fv ad)) → W p l e R s m args below meth c H locs (rr.2.1.1 - M0.1.1) (rr.2.1.2.1 - M0.1.2.1) Q (F0 m pc L st))
    (hok : zOk own cc nL rt ini (pc, .ireturn, nxt, aux, ld) = true) (h : stp sc cal (pc, .ireturn, nxt, aux, ld) ls st M k = some rr) : zW p l e R s m args below meth c Q D cA fv A ad0 M0 nL pc ls st M := by
  obtain ⟨hx, hb, hml, hown, hts, hK, hA, hini, hX, hfv, hfr, hlo⟩ := C
  obtain ⟨hdg, rfl, hc⟩ := zchk_of2 hok
  obtain ⟨x, st, rfl, h1⟩ := pI_some h
  obtain ⟨rfl, h2⟩ := pN_some h1
  clear h h1
  have hc : (if aux.getD 0 0 = 0 then decide (rt = some .int) else if aux.getD 0 0 = 1 then decide (rt = some .boolean) else if aux.getD 0 0 = 2 then decide (rt = some .char) else decide (rt = some .byte)) = true := hc
  have h2 : (if aux.getD 0 0 = 0 then some (some (.int x), M) else if aux.getD 0 0 = 1 then (if x = 0 ∨ x = 1 then some (some (.int x), M) else none) else if aux.getD 0 0 = 2 then (if 0 ≤ x.toInt ∧ x.toInt < 65536 then some (some (.int x), M) else none) else if -128 ≤ x.toInt ∧ x.toInt < 128 then some (some (.int x), M) else none) = some rr := h2
  have key : ∀ ty, rt = some ty → narrow ty (.int x) = .int x → some (some (Value.int x), M) = some rr → zW p l e R s m args below meth c Q D cA fv A ad0 M0 nL pc ls [.int x] M := by
    intro ty e1 e2 e3
    cases e3
    intro ad H locs L had hn1 hn2 hwf hP hD hS hl
    exact hret ad H locs L pc _ had hn1 hn2 hwf hP hD hS (Or.inl ⟨hdg, x, rfl, rfl, ty, e1, e2⟩)
  by_cases h0 : aux.getD 0 0 = 0
  · rw [if_pos h0] at hc h2
    exact key _ (of_decide_eq_true hc) rfl h2
  · rw [if_neg h0] at hc h2
    by_cases h1 : aux.getD 0 0 = 1
    · rw [if_pos h1] at hc h2
      obtain ⟨hx1, h3⟩ := ite_some h2
      exact key _ (of_decide_eq_true hc) (by rcases hx1 with rfl | rfl <;> rfl) h3
    · rw [if_neg h1] at hc h2
      by_cases h5 : aux.getD 0 0 = 2
      · rw [if_pos h5] at hc h2
        obtain ⟨hx1, h3⟩ := ite_some h2
        exact key _ (of_decide_eq_true hc) (z_char hx1) h3
      · rw [if_neg h5] at hc h2
        obtain ⟨hx1, h3⟩ := ite_some h2
        exact key _ (of_decide_eq_true hc) (z_byte hx1) h3
theorem ss_lreturn {p : Program} {l : Launch} {e : Env} {R : Room} {s : State} {m : MethodId} {args : Array Value} {below : List Frame} {meth : Method} {c : Code} {own : String} {cc : ByteArray} {nL : Nat} {ini : Bool} {D : va_G} {cA : Nat → ClassId} {fv : Value} {A : Nat → Prop} {ad0 : Nat → Nat} {d : Nat} {Q : State → Prop} {rr : zR} {M0 : zM} {rt : Option FieldType} {sc : Option (Nat × (Nat → Int32))} {cal : zC} {k : zK}
    (C : zCx p R s m args meth c own cc nL ini D cA fv A ad0 d) (hk : ∀ pc' ls' st' M', k pc' ls' st' M' = some rr → zW p l e R s m args below meth c Q D cA fv A ad0 M0 nL pc' ls' st' M') {pc nxt : Nat} {aux : List Nat} {ld : Option (List Nat)} {ls : zLs} {st : List Value} {M : zM} (hret : ∀ (ad : Nat → Nat) (H : Heap) (locs : List Loc) (L : Array Slot) (pc : Nat) (st : List Value), (∀ r, (r < M0.1.1 + 7 ∨ rr.2.1.1 + 7 ≤ r) → ad r = ad0 r) → M0.1.1 ≤ rr.2.1.1 → M0.1.2.1 ≤ rr.2.1.2.1 → zwf rr.2 → va_P D zCl (zws ad cA rr.2) H → va_D A (zws ad cA rr.2) → va_S A s.heap H locs → zRet cc rt pc st (rr.1.map (zv fv ad)) → W p l e R s m args below meth c H locs (rr.2.1.1 - M0.1.1) (rr.2.1.2.1 - M0.1.2.1) Q (F0 m pc L st))
    (hok : zOk own cc nL rt ini (pc, .lreturn, nxt, aux, ld) = true) (h : stp sc cal (pc, .lreturn, nxt, aux, ld) ls st M k = some rr) : zW p l e R s m args below meth c Q D cA fv A ad0 M0 nL pc ls st M := by
  obtain ⟨hx, hb, hml, hown, hts, hK, hA, hini, hX, hfv, hfr, hlo⟩ := C
  obtain ⟨hdg, rfl, hc⟩ := zchk_of2 hok
  obtain ⟨x, st, rfl, h1⟩ := pL_some h
  obtain ⟨rfl, h2⟩ := pN_some h1
  cases h2
  clear h h1
  intro ad H locs L had hn1 hn2 hwf hP hD hS hl
  exact hret ad H locs L pc _ had hn1 hn2 hwf hP hD hS (Or.inr (Or.inl ⟨hdg, x, rfl, rfl, of_decide_eq_true hc⟩))
theorem ss_return {p : Program} {l : Launch} {e : Env} {R : Room} {s : State} {m : MethodId} {args : Array Value} {below : List Frame} {meth : Method} {c : Code} {own : String} {cc : ByteArray} {nL : Nat} {ini : Bool} {D : va_G} {cA : Nat → ClassId} {fv : Value} {A : Nat → Prop} {ad0 : Nat → Nat} {d : Nat} {Q : State → Prop} {rr : zR} {M0 : zM} {rt : Option FieldType} {sc : Option (Nat × (Nat → Int32))} {cal : zC} {k : zK}
    (C : zCx p R s m args meth c own cc nL ini D cA fv A ad0 d) (hk : ∀ pc' ls' st' M', k pc' ls' st' M' = some rr → zW p l e R s m args below meth c Q D cA fv A ad0 M0 nL pc' ls' st' M') {pc nxt : Nat} {aux : List Nat} {ld : Option (List Nat)} {ls : zLs} {st : List Value} {M : zM} (hret : ∀ (ad : Nat → Nat) (H : Heap) (locs : List Loc) (L : Array Slot) (pc : Nat) (st : List Value), (∀ r, (r < M0.1.1 + 7 ∨ rr.2.1.1 + 7 ≤ r) → ad r = ad0 r) → M0.1.1 ≤ rr.2.1.1 → M0.1.2.1 ≤ rr.2.1.2.1 → zwf rr.2 → va_P D zCl (zws ad cA rr.2) H → va_D A (zws ad cA rr.2) → va_S A s.heap H locs → zRet cc rt pc st (rr.1.map (zv fv ad)) → W p l e R s m args below meth c H locs (rr.2.1.1 - M0.1.1) (rr.2.1.2.1 - M0.1.2.1) Q (F0 m pc L st))
    (hok : zOk own cc nL rt ini (pc, .return_, nxt, aux, ld) = true) (h : stp sc cal (pc, .return_, nxt, aux, ld) ls st M k = some rr) : zW p l e R s m args below meth c Q D cA fv A ad0 M0 nL pc ls st M := by
  obtain ⟨hx, hb, hml, hown, hts, hK, hA, hini, hX, hfv, hfr, hlo⟩ := C
  obtain ⟨hdg, rfl, hc⟩ := zchk_of2 hok
  obtain ⟨rfl, h2⟩ := pN_some h
  cases h2
  clear h
  intro ad H locs L had hn1 hn2 hwf hP hD hS hl
  exact hret ad H locs L pc _ had hn1 hn2 hwf hP hD hS (Or.inr (Or.inr ⟨hdg, rfl, rfl, of_decide_eq_true hc⟩))
end
section
/-! THE PURE MACHINE SAYS THE TRUTH, the whole of it -/
def Bd (n sl : Nat) (o : Option zR) : Prop := ∀ r, o = some r → n ≤ r.2.1.1 ∧ sl ≤ r.2.1.2.1
theorem Bd_none {n sl : Nat} : Bd n sl none := fun _ h => by cases h
theorem Bd_ite {n sl : Nat} {p : Prop} {_ : Decidable p} {a b : Option zR} (h1 : Bd n sl a) (h2 : Bd n sl b) : Bd n sl (if p then a else b) := by
  split
  · exact h1
  · exact h2
theorem Bd_lI {n sl : Nat} {ls : zLs} {i : Nat} {f : Int32 → Option zR} (h : ∀ x, Bd n sl (f x)) : Bd n sl (lI ls i f) := fun r e => by
  obtain ⟨x, _, e⟩ := lI_some e
  exact h x r e
theorem Bd_lL {n sl : Nat} {ls : zLs} {i : Nat} {f : Int64 → Option zR} (h : ∀ x, Bd n sl (f x)) : Bd n sl (lL ls i f) := fun r e => by
  obtain ⟨x, _, e⟩ := lL_some e
  exact h x r e
theorem Bd_lA {n sl : Nat} {ls : zLs} {i : Nat} {f : Nat → Option zR} (h : ∀ x, Bd n sl (f x)) : Bd n sl (lA ls i f) := fun r e => by
  obtain ⟨x, _, e⟩ := lA_some e
  exact h x r e
theorem Bd_pI {n sl : Nat} {st : List Value} {f : Int32 → List Value → Option zR} (h : ∀ x st, Bd n sl (f x st)) : Bd n sl (pI st f) := fun r e => by
  obtain ⟨x, st, _, e⟩ := pI_some e
  exact h x st r e
theorem Bd_pL {n sl : Nat} {st : List Value} {f : Int64 → List Value → Option zR} (h : ∀ x st, Bd n sl (f x st)) : Bd n sl (pL st f) := fun r e => by
  obtain ⟨x, st, _, e⟩ := pL_some e
  exact h x st r e
theorem Bd_pA {n sl : Nat} {st : List Value} {f : Nat → List Value → Option zR} (h : ∀ x st, Bd n sl (f x st)) : Bd n sl (pA st f) := fun r e => by
  obtain ⟨x, st, _, e⟩ := pA_some e
  exact h x st r e
theorem Bd_p1 {n sl : Nat} {st : List Value} {f : Value → List Value → Option zR} (h : ∀ x st, Bd n sl (f x st)) : Bd n sl (p1 st f) := fun r e => by
  obtain ⟨x, st, _, _, e⟩ := p1_some (fv := .null) (ad := fun a => a) e
  exact h x st r e
theorem Bd_pN {n sl : Nat} {st : List Value} {o : Option zR} (h : Bd n sl o) : Bd n sl (pN st o) := fun r e => h r (pN_some e).2
theorem Bd_pS {n sl : Nat} {sc : Option (Nat × (Nat → Int32))} {f : Nat → (Nat → Int32) → Option zR} (h : ∀ x st, Bd n sl (f x st)) : Bd n sl (pS sc f) := fun r e => by
  obtain ⟨x, st, _, e⟩ := pS_some e
  exact h x st r e
theorem Bd_pop {n sl m : Nat} {st : List Value} {f : List Value → List Value → Option zR} (h : ∀ x st, Bd n sl (f x st)) : Bd n sl (pop m st f) := fun r e => by
  obtain ⟨x, st, _, _, _, e⟩ := pop_some e
  exact h x st r e
theorem Bd_zsw {n sl : Nat} {x : Int32} {f : Nat → Option zR} {d : Nat} (h : ∀ t, Bd n sl (f t)) : ∀ (ts : List Nat) (lo : Int), Bd n sl (zsw x f d lo ts)
  | [], _ => h d
  | _ :: ts, lo => Bd_ite (h _) (Bd_zsw h ts (lo + 1))
theorem Bd_cB {n sl ret : Nat} {o : Option zR} {f : List Value → zM → Option zR} (h1 : Bd n sl o) (h : ∀ v M, Bd M.1.1 M.1.2.1 (f v M)) : Bd n sl (cBack ret o f) := fun r e => by
  obtain ⟨v, M1, e1, e2⟩ := cBack_some e
  have a := h1 _ e1
  have b := h _ M1 r e2
  exact ⟨Nat.le_trans a.1 b.1, Nat.le_trans a.2 b.2⟩
theorem Bd_up {n n' sl sl' : Nat} {o : Option zR} (h1 : n ≤ n') (h2 : sl ≤ sl') (h : Bd n' sl' o) : Bd n sl o := fun r e => ⟨Nat.le_trans h1 (h r e).1, Nat.le_trans h2 (h r e).2⟩
theorem stp_Bd {sc : Option (Nat × (Nat → Int32))} {cal : zC} {e : zE} {ls : zLs} {st : List Value} {M : zM} {k : zK} (hc : ∀ z as M, Bd M.1.1 M.1.2.1 (cal z as M)) (hk : ∀ pc ls st M, Bd M.1.1 M.1.2.1 (k pc ls st M)) : Bd M.1.1 M.1.2.1 (stp sc cal e ls st M k) := by
  obtain ⟨pc, ins, nxt, aux, ld⟩ := e
  cases ins
  case ifCond c o => cases c <;> exact Bd_pI fun _ _ => Bd_ite (hk _ _ _ _) (hk _ _ _ _)
  case if_icmp c o => cases c <;> exact Bd_pI fun _ _ => Bd_pI fun _ _ => Bd_ite (hk _ _ _ _) (hk _ _ _ _)
  case tableswitch d lo hi os => exact Bd_pI fun _ _ => Bd_zsw (fun _ => hk _ _ _ _) _ _
  case dup => exact Bd_p1 (f := fun v st => k nxt ls (v :: v :: st) M) fun _ _ => hk _ _ _ _
  case dup2 => exact Bd_p1 (f := fun v st => p1 st fun w st => k nxt ls (v :: w :: v :: w :: st) M) fun _ _ => Bd_p1 fun _ _ => hk _ _ _ _
  case pop => exact Bd_p1 (f := fun _ st => k nxt ls st M) fun _ _ => hk _ _ _ _
  case getfield i => exact Bd_ite (Bd_ite (Bd_pA fun _ _ => Bd_ite (hk _ _ _ _) Bd_none) (Bd_pA fun _ _ => Bd_ite (hk _ _ _ _) Bd_none)) (Bd_ite (Bd_pA fun _ _ => Bd_ite (hk _ _ _ _) Bd_none) (Bd_ite (Bd_pA fun _ _ => Bd_ite (hk _ _ _ _) Bd_none) (Bd_pA fun _ _ => Bd_ite (hk _ _ _ _) Bd_none)))
  case putfield i => exact Bd_ite (Bd_pI fun _ _ => Bd_pA fun _ _ => Bd_ite (hk _ _ _ (sI M _ _ _)) Bd_none) (Bd_ite (Bd_pI fun _ _ => Bd_pA fun _ _ => Bd_ite (hk _ _ _ (sI M _ _ _)) Bd_none) (Bd_ite (Bd_pL fun _ _ => Bd_pA fun _ _ => Bd_ite (hk _ _ _ (sL M _ _ _)) Bd_none) (Bd_pA fun _ _ => Bd_pA fun _ _ => Bd_ite (hk _ _ _ (sR M _ _ _)) Bd_none)))
  case iaload => exact Bd_ite (Bd_pS fun _ _ => Bd_pI fun _ _ => Bd_pA fun _ _ => Bd_ite (hk _ _ _ _) Bd_none) (Bd_pI fun _ _ => Bd_pA fun _ _ => Bd_ite (hk _ _ _ _) Bd_none)
  case laload => exact Bd_pI fun _ _ => Bd_pA fun _ _ => Bd_ite (hk _ _ _ _) Bd_none
  case aaload => exact Bd_pI fun _ _ => Bd_pA fun _ _ => Bd_ite (hk _ _ _ _) Bd_none
  case baload => exact Bd_ite (Bd_pI fun _ _ => Bd_pA fun _ _ => Bd_ite (hk _ _ _ _) Bd_none) (Bd_pI fun _ _ => Bd_pA fun _ _ => Bd_ite (hk _ _ _ _) Bd_none)
  case iastore => exact Bd_pI fun _ _ => Bd_pI fun _ _ => Bd_pA fun _ _ => Bd_ite (hk _ _ _ (sI M _ _ _)) Bd_none
  case lastore => exact Bd_pL fun _ _ => Bd_pI fun _ _ => Bd_pA fun _ _ => Bd_ite (hk _ _ _ (sL M _ _ _)) Bd_none
  case aastore => exact Bd_pA fun _ _ => Bd_pI fun _ _ => Bd_pA fun _ _ => Bd_ite (hk _ _ _ (sR M _ _ _)) Bd_none
  case bastore => exact Bd_ite (Bd_pI fun _ _ => Bd_pI fun _ _ => Bd_pA fun _ _ => Bd_ite (hk _ _ _ (sI M _ _ _)) Bd_none) (Bd_pI fun _ _ => Bd_pI fun _ _ => Bd_pA fun _ _ => Bd_ite (hk _ _ _ (sI M _ _ _)) Bd_none)
  case arraylength => exact Bd_ite (Bd_pS fun _ _ => Bd_pA fun _ _ => Bd_ite (hk _ _ _ _) Bd_none) (Bd_ite (Bd_pA fun _ _ => Bd_ite (hk _ _ _ _) Bd_none) (Bd_pA fun _ _ => Bd_ite (hk _ _ _ _) Bd_none))
  case new i => exact Bd_ite (Bd_up (Nat.le_succ _) (Nat.le_add_right _ _) (hk _ _ _ (alc M _ _))) Bd_none
  case newarray t => exact Bd_pI fun _ _ => Bd_ite (Bd_up (Nat.le_succ _) (Nat.le_add_right _ _) (hk _ _ _ (alc M _ _))) Bd_none
  case anewarray t => exact Bd_pI fun _ _ => Bd_ite (Bd_up (Nat.le_succ _) (Nat.le_add_right _ _) (hk _ _ _ (alc M _ _))) Bd_none
  case multianewarray i d => exact Bd_pI fun _ _ => Bd_pI fun _ _ => Bd_ite (Bd_up (by show M.1.1 ≤ M.1.1 + 1 + _; omega) (by show M.1.2.1 ≤ M.1.2.1 + _ + _; omega) (hk _ _ _ (alg M _ _))) Bd_none
  case invokestatic i => exact Bd_ite (Bd_pI fun _ _ => Bd_pI fun _ _ => Bd_pA fun _ _ => Bd_pI fun _ _ => Bd_pA fun _ _ => Bd_ite (Bd_pN (hk _ _ _ (cI M _ _ _ _ _))) Bd_none) (Bd_pop fun _ _ => Bd_cB (hc _ _ _) fun _ _ => Bd_ite (hk _ _ _ _) Bd_none)
  case invokevirtual i => exact Bd_pop (f := fun as st => pA st fun r st => if gK M r = aux.getD 3 0 then cBack (aux.getD 2 0) (cal (aux.getD 0 0) (.ref r :: as) M) fun v M1 => if M1.1.1 = M.1.1 then k nxt ls (v ++ st) M1 else none else none) fun _ _ => Bd_pA fun _ _ => Bd_ite (Bd_cB (hc _ _ _) fun _ _ => Bd_ite (hk _ _ _ _) Bd_none) Bd_none
  case invokespecial i => exact Bd_ite (Bd_pA fun _ _ => Bd_ite (Bd_pN (hk _ _ _ _)) Bd_none) (Bd_pop fun _ _ => Bd_pA fun _ _ => Bd_ite (Bd_cB (hc _ _ _) fun _ _ => hk _ _ _ _) Bd_none)
  case ireturn => exact Bd_pI fun _ _ => Bd_pN (Bd_ite (fun r e => by cases e; exact ⟨Nat.le_refl _, Nat.le_refl _⟩) (Bd_ite (Bd_ite (fun r e => by cases e; exact ⟨Nat.le_refl _, Nat.le_refl _⟩) Bd_none) (Bd_ite (Bd_ite (fun r e => by cases e; exact ⟨Nat.le_refl _, Nat.le_refl _⟩) Bd_none) (Bd_ite (fun r e => by cases e; exact ⟨Nat.le_refl _, Nat.le_refl _⟩) Bd_none))))
  case lreturn => exact Bd_pL fun _ _ => Bd_pN (fun r e => by cases e; exact ⟨Nat.le_refl _, Nat.le_refl _⟩)
  case return_ => exact Bd_pN (fun r e => by cases e; exact ⟨Nat.le_refl _, Nat.le_refl _⟩)
  all_goals first
    | exact Bd_none
    | exact hk _ _ _ _
    | exact Bd_lI fun _ => hk _ _ _ _
    | exact Bd_lL fun _ => hk _ _ _ _
    | exact Bd_lA fun _ => hk _ _ _ _
    | exact Bd_pI fun _ _ => hk _ _ _ _
    | exact Bd_pL fun _ _ => hk _ _ _ _
    | exact Bd_pA fun _ _ => hk _ _ _ _
    | exact Bd_pI fun _ _ => Bd_pI fun _ _ => hk _ _ _ _
    | exact Bd_pL fun _ _ => Bd_pL fun _ _ => hk _ _ _ _
    | exact Bd_pI fun _ _ => Bd_pI fun _ _ => Bd_ite Bd_none (hk _ _ _ _)
    | exact Bd_ite (hk _ _ _ _) (hk _ _ _ _)
theorem exe_Bd {sc : Option (Nat × (Nat → Int32))} {cal : zC} {cd : List zE} (hc : ∀ z as M, Bd M.1.1 M.1.2.1 (cal z as M)) : ∀ n pc ls st M, Bd M.1.1 M.1.2.1 (exe sc cal cd n pc ls st M)
  | 0, _, _, _, _ => Bd_none
  | n + 1, pc, ls, st, M => by
    unfold exe
    split
    · exact Bd_none
    · exact stp_Bd hc fun pc ls st M => exe_Bd hc n pc _ st M
theorem mth_Bd (cod : Nat → Nat × List zE) (n : Nat) : ∀ d z as M, Bd M.1.1 M.1.2.1 (mth cod n d z as M)
  | 0, _, _, _ => Bd_none
  | d + 1, z, as, M => Bd_ite (exe_Bd (mth_Bd cod n d) n 0 _ [] M) Bd_none
theorem zent_mem {cd : List zE} {pc : Nat} {e : zE} (h : zent cd pc = some e) : e ∈ cd ∧ e.1 = pc := by
  induction cd with
  | nil => cases h
  | cons a r ih =>
    unfold zent at h
    split at h
    · rename_i hb
      cases h
      exact ⟨List.mem_cons_self, Nat.eq_of_beq_eq_true hb⟩
    · exact ⟨List.mem_cons_of_mem _ (ih h).1, (ih h).2⟩
end
section
/-! THE PURE MACHINE SAYS THE TRUTH, the end of it -/
set_option maxHeartbeats 4000000 in
theorem stp_sound {p : Program} {l : Launch} {e : Env} {R : Room} {s : State} {m : MethodId} {args : Array Value} {below : List Frame} {meth : Method} {c : Code} {own : String} {cc : ByteArray} {nL : Nat} {ini : Bool} {D : va_G} {cA : Nat → ClassId} {fv : Value} {A : Nat → Prop} {ad0 : Nat → Nat} {d : Nat} {Q : State → Prop} {rr : zR} {M0 : zM} {rt : Option FieldType} {sc : Option (Nat × (Nat → Int32))} {cal : zC} {k : zK}
    (C : zCx p R s m args meth c own cc nL ini D cA fv A ad0 d) (hk : ∀ pc' ls' st' M', k pc' ls' st' M' = some rr → zW p l e R s m args below meth c Q D cA fv A ad0 M0 nL pc' ls' st' M') (hsc : ∀ L xs, sc = some (L, xs) → va_X (ad0 1) L xs s s.heap ∧ ad0 1 < s.heap.size ∧ ¬ A (ad0 1)) (hcal : ∀ z as M v M1, cal z as M = some (v, M1) → (M.1.1 ≤ M1.1.1 ∧ M.1.2.1 ≤ M1.1.2.1) ∧ zMet l d z as M v M1) (hkm : ∀ pc' ls' st' M', k pc' ls' st' M' = some rr → M'.1.1 ≤ rr.2.1.1 ∧ M'.1.2.1 ≤ rr.2.1.2.1) (hR : rr.2.1.1 - M0.1.1 ≤ R.cells ∧ rr.2.1.2.1 - M0.1.2.1 ≤ R.slots) (hzm : ∀ z, z < 278 → zMok z = true) (hret : ∀ (ad : Nat → Nat) (H : Heap) (locs : List Loc) (L : Array Slot) (pc : Nat) (st : List Value), (∀ r, (r < M0.1.1 + 7 ∨ rr.2.1.1 + 7 ≤ r) → ad r = ad0 r) → M0.1.1 ≤ rr.2.1.1 → M0.1.2.1 ≤ rr.2.1.2.1 → zwf rr.2 → va_P D zCl (zws ad cA rr.2) H → va_D A (zws ad cA rr.2) → va_S A s.heap H locs → zRet cc rt pc st (rr.1.map (zv fv ad)) → W p l e R s m args below meth c H locs (rr.2.1.1 - M0.1.1) (rr.2.1.2.1 - M0.1.2.1) Q (F0 m pc L st))
    {ee : zE} {ls : zLs} {st : List Value} {M : zM} (hok : zOk own cc nL rt ini ee = true) (h : stp sc cal ee ls st M k = some rr) : zW p l e R s m args below meth c Q D cA fv A ad0 M0 nL ee.1 ls st M := by
  obtain ⟨pc, ins, nxt, aux, ld⟩ := ee
  cases ins
  case iload_n => exact ss_iload_n C hk hok h
  case iload => exact ss_iload C hk hok h
  case lload_n => exact ss_lload_n C hk hok h
  case lload => exact ss_lload C hk hok h
  case aload_n => exact ss_aload_n C hk hok h
  case aload => exact ss_aload C hk hok h
  case istore_n => exact ss_istore_n C hk hok h
  case istore => exact ss_istore C hk hok h
  case astore_n => exact ss_astore_n C hk hok h
  case astore => exact ss_astore C hk hok h
  case lstore_n => exact ss_lstore_n C hk hok h
  case lstore => exact ss_lstore C hk hok h
  case iinc => exact ss_iinc C hk hok h
  case iconst => exact ss_iconst C hk hok h
  case bipush => exact ss_bipush C hk hok h
  case sipush => exact ss_sipush C hk hok h
  case lconst => exact ss_lconst C hk hok h
  case ldc => exact ss_ldc C hk hok h
  case ldc_w => exact ss_ldc_w C hk hok h
  case ldc2_w => exact ss_ldc2_w C hk hok h
  case dup => exact ss_dup C hk hok h
  case dup2 => exact ss_dup2 C hk hok h
  case pop => exact ss_pop C hk hok h
  case iadd => exact ss_iadd C hk hok h
  case isub => exact ss_isub C hk hok h
  case imul => exact ss_imul C hk hok h
  case iand => exact ss_iand C hk hok h
  case ior => exact ss_ior C hk hok h
  case ixor => exact ss_ixor C hk hok h
  case ishl => exact ss_ishl C hk hok h
  case ishr => exact ss_ishr C hk hok h
  case iushr => exact ss_iushr C hk hok h
  case ineg => exact ss_ineg C hk hok h
  case idiv => exact ss_idiv C hk hok h
  case irem => exact ss_irem C hk hok h
  case i2b => exact ss_i2b C hk hok h
  case i2c => exact ss_i2c C hk hok h
  case i2l => exact ss_i2l C hk hok h
  case l2i => exact ss_l2i C hk hok h
  case ladd => exact ss_ladd C hk hok h
  case lmul => exact ss_lmul C hk hok h
  case lcmp => exact ss_lcmp C hk hok h
  case goto => exact ss_goto C hk hok h
  case tableswitch => exact ss_tableswitch C hk hok h
  case getfield => exact ss_getfield C hk hok h
  case putfield => exact ss_putfield C hk hok h
  case getstatic => exact ss_getstatic C hk hok h
  case laload => exact ss_laload C hk hok h
  case baload => exact ss_baload C hk hok h
  case aaload => exact ss_aaload C hk hok h
  case iastore => exact ss_iastore C hk hok h
  case lastore => exact ss_lastore C hk hok h
  case bastore => exact ss_bastore C hk hok h
  case aastore => exact ss_aastore C hk hok h
  case ifCond c o => cases c <;> first | exact ss_ifCond_eq C hk hok h | exact ss_ifCond_ne C hk hok h | exact ss_ifCond_lt C hk hok h | exact ss_ifCond_ge C hk hok h | exact ss_ifCond_gt C hk hok h | exact ss_ifCond_le C hk hok h
  case if_icmp c o => cases c <;> first | exact ss_if_icmp_eq C hk hok h | exact ss_if_icmp_ne C hk hok h | exact ss_if_icmp_lt C hk hok h | exact ss_if_icmp_ge C hk hok h | exact ss_if_icmp_gt C hk hok h | exact ss_if_icmp_le C hk hok h
  case iaload => exact ss_iaload C hk hsc hok h
  case arraylength => exact ss_arraylength C hk hsc hok h
  case new => exact ss_new C hk hkm hR hok h
  case newarray => exact ss_newarray C hk hkm hR hok h
  case anewarray => exact ss_anewarray C hk hkm hR hok h
  case multianewarray i dd =>
    have hd2 : dd = 2 := by
      have hok : (zchk cc (pc, .multianewarray i dd, nxt, aux, ld) 4 && decide (dd = 2) && _ && _ && _) = true := hok
      simp only [Bool.and_eq_true, decide_eq_true_eq] at hok
      exact hok.1.1.1.2
    subst hd2
    exact ss_multianewarray C hk hkm hR hok h
  case invokestatic => exact ss_invokestatic C hk hcal hkm hR hzm hok h
  case invokevirtual => exact ss_invokevirtual C hk hcal hkm hR hzm hok h
  case invokespecial => exact ss_invokespecial C hk hcal hkm hR hzm hok h
  case ireturn => exact ss_ireturn C hk hret hok h
  case lreturn => exact ss_lreturn C hk hret hok h
  case return_ => exact ss_return C hk hret hok h
  all_goals exact absurd h (fun q => by cases q)
theorem exe_sound {p : Program} {l : Launch} {e : Env} {R : Room} {s : State} {m : MethodId} {args : Array Value} {below : List Frame} {meth : Method} {c : Code} {own : String} {cc : ByteArray} {nL : Nat} {ini : Bool} {D : va_G} {cA : Nat → ClassId} {fv : Value} {A : Nat → Prop} {ad0 : Nat → Nat} {d : Nat} {Q : State → Prop} {rr : zR} {M0 : zM} {rt : Option FieldType} {sc : Option (Nat × (Nat → Int32))} {cal : zC}
    (C : zCx p R s m args meth c own cc nL ini D cA fv A ad0 d)  {cd : List zE} (hsc : ∀ L xs, sc = some (L, xs) → va_X (ad0 1) L xs s s.heap ∧ ad0 1 < s.heap.size ∧ ¬ A (ad0 1)) (hcal : ∀ z as M v M1, cal z as M = some (v, M1) → (M.1.1 ≤ M1.1.1 ∧ M.1.2.1 ≤ M1.1.2.1) ∧ zMet l d z as M v M1) (hR : rr.2.1.1 - M0.1.1 ≤ R.cells ∧ rr.2.1.2.1 - M0.1.2.1 ≤ R.slots) (hzm : ∀ z, z < 278 → zMok z = true) (hret : ∀ (ad : Nat → Nat) (H : Heap) (locs : List Loc) (L : Array Slot) (pc : Nat) (st : List Value), (∀ r, (r < M0.1.1 + 7 ∨ rr.2.1.1 + 7 ≤ r) → ad r = ad0 r) → M0.1.1 ≤ rr.2.1.1 → M0.1.2.1 ≤ rr.2.1.2.1 → zwf rr.2 → va_P D zCl (zws ad cA rr.2) H → va_D A (zws ad cA rr.2) → va_S A s.heap H locs → zRet cc rt pc st (rr.1.map (zv fv ad)) → W p l e R s m args below meth c H locs (rr.2.1.1 - M0.1.1) (rr.2.1.2.1 - M0.1.2.1) Q (F0 m pc L st)) (hcd : ∀ ee ∈ cd, zOk own cc nL rt ini ee = true) (hcb : ∀ z as M, Bd M.1.1 M.1.2.1 (cal z as M)) :
    ∀ n pc ls st M, exe sc cal cd n pc ls st M = some rr → zW p l e R s m args below meth c Q D cA fv A ad0 M0 nL pc ls st M
  | 0, _, _, _, _, h => by cases h
  | n + 1, pc, ls, st, M, h => by
    unfold exe at h
    split at h
    · cases h
    · rename_i ee he
      obtain ⟨hm, rfl⟩ := zent_mem he
      refine stp_sound C (k := fun pc' ls' st' M' => exe sc cal cd n pc' (zms cd pc' ls') st' M') (fun pc' ls' st' M' hkk => ?_) hsc hcal (fun pc' ls' st' M' hkk => exe_Bd hcb n pc' _ st' M' rr hkk) hR hzm hret (hcd ee hm) h
      have ih := exe_sound C hsc hcal hR hzm hret hcd hcb n pc' _ st' M' hkk
      intro ad H locs L a1 a2 a3 a4 a5 a6 a7 a8
      exact ih ad H locs L a1 a2 a3 a4 a5 a6 a7 (lv_fewer a8 fun q hq => by
        obtain ⟨q0, h0, rfl⟩ := List.mem_map.mp hq
        exact List.mem_map.mpr ⟨q0, zms_mem h0, rfl⟩)
theorem zcodL_len : zcodL.length = 278 := by decide +kernel
theorem lg_len (vs : List Value) : (lg_sl vs).length = (vs.map fun v => v.category).sum := by
  induction vs with
  | nil => rfl
  | cons v r ih =>
    show ((if v.category = 2 then [Slot.val v, .second] else [.val v]) ++ lg_sl r).length = _
    rw [List.length_append, ih, List.map_cons, List.sum_cons]
    congr 1
    cases v <;> rfl
theorem lv_args_map {fv : Value} {ad : Nat → Nat} (hf : fv.category = 1) : ∀ (vs : List Value) (i : Nat), lv_args i (vs.map (zv fv ad)) = (lv_args i vs).map (zq fv ad)
  | [], _ => rfl
  | v :: vs, i => by
    show (i, zv fv ad v) :: lv_args (if (zv fv ad v).category = 2 then i + 2 else i + 1) (vs.map (zv fv ad)) = _
    rw [zv_cat hf, lv_args_map hf vs]
    rfl
set_option maxHeartbeats 4000000 in
theorem mth_sound (hzm : ∀ z, z < 278 → zMok z = true) (hzc : ∀ z, z < 278 → zCok z = true) (l : Launch) (n : Nat) : ∀ d z as M v M1, mth zcod n d z as M = some (v, M1) → (M.1.1 ≤ M1.1.1 ∧ M.1.2.1 ≤ M1.1.2.1) ∧ zMet l d z as M v M1
  | 0, _, _, _, _, _, h => by cases h
  | d + 1, z, as, M, v, M1, h => by
    refine ⟨mth_Bd zcod n (d + 1) z as M _ h, ?_⟩
    have hmo : M.1.1 ≤ M1.1.1 ∧ M.1.2.1 ≤ M1.1.2.1 := mth_Bd zcod n (d + 1) z as M _ h
    obtain ⟨hsl, hex⟩ := ite_some h
    have hz : z < 278 := by
      rcases Nat.lt_or_ge z 278 with q | q
      · exact q
      · have h0 : (zcod z).2 = [] := by
          show zcodL.getD z [] = []
          rw [List.getD_eq_getElem?_getD, List.getElem?_eq_none (by rw [zcodL_len]; exact q)]
          rfl
        rw [h0] at hex
        cases n <;> cases hex
    have hzmz := hzm z hz
    have hzcz := hzc z hz
    intro D cA fv ad sz hfv
    have hf1 : fv.category = 1 := by rcases hfv with rfl | ⟨t, rfl⟩ <;> rfl
    have hpl : plainFor (zinf z).1 = true := by
      unfold zMok at hzmz
      simp only [Bool.and_eq_true] at hzmz
      exact hzmz.2
    refine va_MetF (cc := (zinf z).2.1) (maxL := (zinf z).2.2.1) (ret := (zinf z).2.2.2) hpl rfl ?_
    intro p e s m args below meth c s₁ B hml hv
    obtain ⟨rfl, hsz, hwf, hP, hK, hD0, hX, hNB⟩ := hv
    subst hsz
    have hD := hD0.self (sz := s.heap.size)
    have hw := atoms_spec (ws := zw z) B.pre
    have hts : ∀ w ∈ zTb, w.before (as.map (zv fv ad)).toArray s = true := fun w hw1 => by
      rcases zTb_good w hw1 with h1 | h1
      · exact hw w (List.mem_cons_of_mem _ (List.mem_filter.mpr ⟨hw1, h1⟩))
      · exact nest_same h1 rfl (hNB w hw1 h1)
    have hini : decide ((zinf z).1.name = "<init>") = true → meth.name = "<init>" := fun q => ((name_of_methodNamed B.named B.method).1).trans (of_decide_eq_true q)
    have hlocks := B.notSynchronized
    have hA : ∀ q : Nat, s.heap.size ≤ q → va_A (zws ad cA M) s.heap.size q := fun q hq => Or.inr hq
    have C : zCx p (headSpec (zw z) (zrm (d + 1) M M1)).room s m (as.map (zv fv ad)).toArray meth c (zinf z).1.cls (zinf z).2.1 (zinf z).2.2.1 (decide ((zinf z).1.name = "<init>")) D cA fv (va_A (zws ad cA M) s.heap.size) ad d :=
      ⟨B.exec, B.bytes, hml, findClass_of_methodNamed B.named, hts, hK, hA, hini, hX, hfv, Nat.le_refl _, by show 60 * d + 60 ≤ 60 * (d + 1); omega⟩
    have hlen : (lg_sl (as.map (zv fv ad))).length ≤ (zinf z).2.2.1 := by
      rw [lg_len, zsum_map hf1]
      exact hsl
    have hl := lv_entry (as.map (zv fv ad)) hlen
    rw [lv_args_map hf1] at hl
    rw [lg_entry_eq]
    have hcal : ∀ z as M v M1, mth zcod n d z as M = some (v, M1) → (M.1.1 ≤ M1.1.1 ∧ M.1.2.1 ≤ M1.1.2.1) ∧ zMet l d z as M v M1 := fun z as M v M1 h => mth_sound hzm hzc l n d z as M v M1 h
    have hgo := exe_sound (p := p) (l := l) (e := e) (below := below) (Q := MQ below (zQc D cA fv ad M s.heap.size v M1) (as.map (zv fv ad)).toArray s (M1.1.1 - M.1.1) (M1.1.2.1 - M.1.2.1) (va_A (zws ad cA M) s.heap.size)) (rr := (v, M1)) (M0 := M) (rt := (zinf z).2.2.2) (sc := none) (cal := mth zcod n d) (cd := (zcod z).2) C (fun L xs q => by cases q) hcal ⟨Nat.le_refl _, Nat.le_refl _⟩ hzm ?_ (fun ee hee => List.all_eq_true.mp hzcz ee hee) (mth_Bd zcod n d) n 0 (lv_args 0 as) [] M hex
    · have hgo2 := hgo ad s.heap [] _ (fun _ _ => rfl) (Nat.le_refl _) (Nat.le_refl _) hwf hP hD va_S.rf hl
      rw [Nat.sub_self, Nat.sub_self] at hgo2
      exact hgo2
    · intro ad1 H locs L pc st a1 a2 a3 a4 a5 a6 a7 hz1
      have hq : ∀ (t : State), t.heap = H → zQc D cA fv ad M s.heap.size v M1 (as.map (zv fv ad)).toArray s (.returned (v.map (zv fv ad1))) t := fun t ht => ⟨⟨ad1, a1, a4, rfl, by rw [ht]; exact a5, a6⟩, a7.F ht⟩
      rcases hz1 with ⟨hdg, x, hv, rfl, ty, ht, hn⟩ | ⟨hdg, x, hv, rfl, ht⟩ | ⟨hdg, hv, rfl, ht⟩
      · have hv : v.map (zv fv ad1) = some (.int x) := hv
        rw [hv] at hq
        exact W.zret B.exec B.bytes (B.returns.trans ht) hn (fun t ht _ => hq t ht) a7.2.2 hdg hlocks
      · have hv : v.map (zv fv ad1) = some (.long x) := hv
        rw [hv] at hq
        exact W.lret B.exec B.bytes (B.returns.trans ht) (fun t ht _ => hq t ht) a7.2.2 hdg hlocks
      · have hv : v.map (zv fv ad1) = none := hv
        rw [hv] at hq
        exact W.vret B.exec B.bytes (B.returns.trans ht) (fun t ht _ => hq t ht) a7.2.2 hdg hlocks
end
section
/-! the tables are checked, method by method -/
theorem zmok_all0 : (List.range 278).all zMok = true := by decide +kernel
theorem zmok_all : ∀ z, z < 278 → zMok z = true := fun z h => List.all_eq_true.mp zmok_all0 z (List.mem_range.mpr h)
theorem all_td {f : zE → Bool} {l : List zE} (n : Nat) (h1 : (l.take n).all f = true) (h2 : (l.drop n).all f = true) : l.all f = true := by
  rw [← List.take_append_drop n l, List.all_append, h1, h2]
  rfl
theorem zcok_0 : ∀ z, 0 ≤ z → z < 7 → zCok z = true := fun z h1 h2 => by
  have h : (List.range 7).all (fun i => zCok (0 + i)) = true := by decide +kernel
  have := List.all_eq_true.mp h (z - 0) (List.mem_range.mpr (by omega))
  rwa [show 0 + (z - 0) = z by omega] at this
theorem zcok_1 : ∀ z, 7 ≤ z → z < 11 → zCok z = true := fun z h1 h2 => by
  have h : (List.range 4).all (fun i => zCok (7 + i)) = true := by decide +kernel
  have := List.all_eq_true.mp h (z - 7) (List.mem_range.mpr (by omega))
  rwa [show 7 + (z - 7) = z by omega] at this
theorem zcok_2 : ∀ z, 11 ≤ z → z < 19 → zCok z = true := fun z h1 h2 => by
  have h : (List.range 8).all (fun i => zCok (11 + i)) = true := by decide +kernel
  have := List.all_eq_true.mp h (z - 11) (List.mem_range.mpr (by omega))
  rwa [show 11 + (z - 11) = z by omega] at this
theorem zcok_3 : ∀ z, 19 ≤ z → z < 25 → zCok z = true := fun z h1 h2 => by
  have h : (List.range 6).all (fun i => zCok (19 + i)) = true := by decide +kernel
  have := List.all_eq_true.mp h (z - 19) (List.mem_range.mpr (by omega))
  rwa [show 19 + (z - 19) = z by omega] at this
theorem zcok_4 : ∀ z, 25 ≤ z → z < 30 → zCok z = true := fun z h1 h2 => by
  have h : (List.range 5).all (fun i => zCok (25 + i)) = true := by decide +kernel
  have := List.all_eq_true.mp h (z - 25) (List.mem_range.mpr (by omega))
  rwa [show 25 + (z - 25) = z by omega] at this
theorem zcok_5 : ∀ z, 30 ≤ z → z < 34 → zCok z = true := fun z h1 h2 => by
  have h : (List.range 4).all (fun i => zCok (30 + i)) = true := by decide +kernel
  have := List.all_eq_true.mp h (z - 30) (List.mem_range.mpr (by omega))
  rwa [show 30 + (z - 30) = z by omega] at this
theorem zcok_6 : ∀ z, 34 ≤ z → z < 37 → zCok z = true := fun z h1 h2 => by
  have h : (List.range 3).all (fun i => zCok (34 + i)) = true := by decide +kernel
  have := List.all_eq_true.mp h (z - 34) (List.mem_range.mpr (by omega))
  rwa [show 34 + (z - 34) = z by omega] at this
theorem zcok_7 : ∀ z, 37 ≤ z → z < 41 → zCok z = true := fun z h1 h2 => by
  have h : (List.range 4).all (fun i => zCok (37 + i)) = true := by decide +kernel
  have := List.all_eq_true.mp h (z - 37) (List.mem_range.mpr (by omega))
  rwa [show 37 + (z - 37) = z by omega] at this
theorem zcok_8 : ∀ z, 41 ≤ z → z < 47 → zCok z = true := fun z h1 h2 => by
  have h : (List.range 6).all (fun i => zCok (41 + i)) = true := by decide +kernel
  have := List.all_eq_true.mp h (z - 41) (List.mem_range.mpr (by omega))
  rwa [show 41 + (z - 41) = z by omega] at this
theorem zcok_9 : ∀ z, 47 ≤ z → z < 50 → zCok z = true := fun z h1 h2 => by
  have h : (List.range 3).all (fun i => zCok (47 + i)) = true := by decide +kernel
  have := List.all_eq_true.mp h (z - 47) (List.mem_range.mpr (by omega))
  rwa [show 47 + (z - 47) = z by omega] at this
theorem zcok_10 : ∀ z, 50 ≤ z → z < 53 → zCok z = true := fun z h1 h2 => by
  have h : (List.range 3).all (fun i => zCok (50 + i)) = true := by decide +kernel
  have := List.all_eq_true.mp h (z - 50) (List.mem_range.mpr (by omega))
  rwa [show 50 + (z - 50) = z by omega] at this
theorem zcok_11 : ∀ z, 53 ≤ z → z < 55 → zCok z = true := fun z h1 h2 => by
  have h : (List.range 2).all (fun i => zCok (53 + i)) = true := by decide +kernel
  have := List.all_eq_true.mp h (z - 53) (List.mem_range.mpr (by omega))
  rwa [show 53 + (z - 53) = z by omega] at this
theorem zcok_12 : ∀ z, 55 ≤ z → z < 58 → zCok z = true := fun z h1 h2 => by
  have h : (List.range 3).all (fun i => zCok (55 + i)) = true := by decide +kernel
  have := List.all_eq_true.mp h (z - 55) (List.mem_range.mpr (by omega))
  rwa [show 55 + (z - 55) = z by omega] at this
theorem zcok_13 : ∀ z, 58 ≤ z → z < 59 → zCok z = true := fun z h1 h2 => by
  have h : (List.range 1).all (fun i => zCok (58 + i)) = true := by decide +kernel
  have := List.all_eq_true.mp h (z - 58) (List.mem_range.mpr (by omega))
  rwa [show 58 + (z - 58) = z by omega] at this
theorem zcok_14 : ∀ z, 59 ≤ z → z < 61 → zCok z = true := fun z h1 h2 => by
  have h : (List.range 2).all (fun i => zCok (59 + i)) = true := by decide +kernel
  have := List.all_eq_true.mp h (z - 59) (List.mem_range.mpr (by omega))
  rwa [show 59 + (z - 59) = z by omega] at this
theorem zcok_15 : ∀ z, 61 ≤ z → z < 63 → zCok z = true := fun z h1 h2 => by
  have h : (List.range 2).all (fun i => zCok (61 + i)) = true := by decide +kernel
  have := List.all_eq_true.mp h (z - 61) (List.mem_range.mpr (by omega))
  rwa [show 61 + (z - 61) = z by omega] at this
theorem zcok_16 : ∀ z, 63 ≤ z → z < 67 → zCok z = true := fun z h1 h2 => by
  have h : (List.range 4).all (fun i => zCok (63 + i)) = true := by decide +kernel
  have := List.all_eq_true.mp h (z - 63) (List.mem_range.mpr (by omega))
  rwa [show 63 + (z - 63) = z by omega] at this
theorem zcok_17 : ∀ z, 67 ≤ z → z < 74 → zCok z = true := fun z h1 h2 => by
  have h : (List.range 7).all (fun i => zCok (67 + i)) = true := by decide +kernel
  have := List.all_eq_true.mp h (z - 67) (List.mem_range.mpr (by omega))
  rwa [show 67 + (z - 67) = z by omega] at this
theorem zcok_18 : ∀ z, 74 ≤ z → z < 75 → zCok z = true := fun z h1 h2 => by
  have h : (List.range 1).all (fun i => zCok (74 + i)) = true := by decide +kernel
  have := List.all_eq_true.mp h (z - 74) (List.mem_range.mpr (by omega))
  rwa [show 74 + (z - 74) = z by omega] at this
theorem zcok_19 : ∀ z, 75 ≤ z → z < 77 → zCok z = true := fun z h1 h2 => by
  have h : (List.range 2).all (fun i => zCok (75 + i)) = true := by decide +kernel
  have := List.all_eq_true.mp h (z - 75) (List.mem_range.mpr (by omega))
  rwa [show 75 + (z - 75) = z by omega] at this
theorem zcok_20 : ∀ z, 77 ≤ z → z < 83 → zCok z = true := fun z h1 h2 => by
  have h : (List.range 6).all (fun i => zCok (77 + i)) = true := by decide +kernel
  have := List.all_eq_true.mp h (z - 77) (List.mem_range.mpr (by omega))
  rwa [show 77 + (z - 77) = z by omega] at this
theorem zcok_21 : ∀ z, 83 ≤ z → z < 84 → zCok z = true := fun z h1 h2 => by
  have h : (List.range 1).all (fun i => zCok (83 + i)) = true := by decide +kernel
  have := List.all_eq_true.mp h (z - 83) (List.mem_range.mpr (by omega))
  rwa [show 83 + (z - 83) = z by omega] at this
theorem zcok_22 : ∀ z, 84 ≤ z → z < 85 → zCok z = true := fun z h1 h2 => by
  have h : (List.range 1).all (fun i => zCok (84 + i)) = true := by decide +kernel
  have := List.all_eq_true.mp h (z - 84) (List.mem_range.mpr (by omega))
  rwa [show 84 + (z - 84) = z by omega] at this
theorem zcok_23 : ∀ z, 85 ≤ z → z < 87 → zCok z = true := fun z h1 h2 => by
  have h : (List.range 2).all (fun i => zCok (85 + i)) = true := by decide +kernel
  have := List.all_eq_true.mp h (z - 85) (List.mem_range.mpr (by omega))
  rwa [show 85 + (z - 85) = z by omega] at this
theorem zcok_24 : ∀ z, 87 ≤ z → z < 90 → zCok z = true := fun z h1 h2 => by
  have h : (List.range 3).all (fun i => zCok (87 + i)) = true := by decide +kernel
  have := List.all_eq_true.mp h (z - 87) (List.mem_range.mpr (by omega))
  rwa [show 87 + (z - 87) = z by omega] at this
theorem zcok_25 : ∀ z, 90 ≤ z → z < 92 → zCok z = true := fun z h1 h2 => by
  have h : (List.range 2).all (fun i => zCok (90 + i)) = true := by decide +kernel
  have := List.all_eq_true.mp h (z - 90) (List.mem_range.mpr (by omega))
  rwa [show 90 + (z - 90) = z by omega] at this
theorem zcok_26 : ∀ z, 92 ≤ z → z < 94 → zCok z = true := fun z h1 h2 => by
  have h : (List.range 2).all (fun i => zCok (92 + i)) = true := by decide +kernel
  have := List.all_eq_true.mp h (z - 92) (List.mem_range.mpr (by omega))
  rwa [show 92 + (z - 92) = z by omega] at this
theorem zcok_27 : ∀ z, 94 ≤ z → z < 98 → zCok z = true := fun z h1 h2 => by
  have h : (List.range 4).all (fun i => zCok (94 + i)) = true := by decide +kernel
  have := List.all_eq_true.mp h (z - 94) (List.mem_range.mpr (by omega))
  rwa [show 94 + (z - 94) = z by omega] at this
theorem zcok_28 : ∀ z, 98 ≤ z → z < 102 → zCok z = true := fun z h1 h2 => by
  have h : (List.range 4).all (fun i => zCok (98 + i)) = true := by decide +kernel
  have := List.all_eq_true.mp h (z - 98) (List.mem_range.mpr (by omega))
  rwa [show 98 + (z - 98) = z by omega] at this
theorem zcok_29 : ∀ z, 102 ≤ z → z < 107 → zCok z = true := fun z h1 h2 => by
  have h : (List.range 5).all (fun i => zCok (102 + i)) = true := by decide +kernel
  have := List.all_eq_true.mp h (z - 102) (List.mem_range.mpr (by omega))
  rwa [show 102 + (z - 102) = z by omega] at this
theorem zcok_30 : ∀ z, 107 ≤ z → z < 111 → zCok z = true := fun z h1 h2 => by
  have h : (List.range 4).all (fun i => zCok (107 + i)) = true := by decide +kernel
  have := List.all_eq_true.mp h (z - 107) (List.mem_range.mpr (by omega))
  rwa [show 107 + (z - 107) = z by omega] at this
theorem zcok_31 : ∀ z, 111 ≤ z → z < 113 → zCok z = true := fun z h1 h2 => by
  have h : (List.range 2).all (fun i => zCok (111 + i)) = true := by decide +kernel
  have := List.all_eq_true.mp h (z - 111) (List.mem_range.mpr (by omega))
  rwa [show 111 + (z - 111) = z by omega] at this
theorem zcok_32 : ∀ z, 113 ≤ z → z < 119 → zCok z = true := fun z h1 h2 => by
  have h : (List.range 6).all (fun i => zCok (113 + i)) = true := by decide +kernel
  have := List.all_eq_true.mp h (z - 113) (List.mem_range.mpr (by omega))
  rwa [show 113 + (z - 113) = z by omega] at this
theorem zcok_33 : ∀ z, 119 ≤ z → z < 121 → zCok z = true := fun z h1 h2 => by
  have h : (List.range 2).all (fun i => zCok (119 + i)) = true := by decide +kernel
  have := List.all_eq_true.mp h (z - 119) (List.mem_range.mpr (by omega))
  rwa [show 119 + (z - 119) = z by omega] at this
theorem zcok_34 : ∀ z, 121 ≤ z → z < 122 → zCok z = true := fun z h1 h2 => by
  have h : (List.range 1).all (fun i => zCok (121 + i)) = true := by decide +kernel
  have := List.all_eq_true.mp h (z - 121) (List.mem_range.mpr (by omega))
  rwa [show 121 + (z - 121) = z by omega] at this
theorem zcok_35 : ∀ z, 122 ≤ z → z < 124 → zCok z = true := fun z h1 h2 => by
  have h : (List.range 2).all (fun i => zCok (122 + i)) = true := by decide +kernel
  have := List.all_eq_true.mp h (z - 122) (List.mem_range.mpr (by omega))
  rwa [show 122 + (z - 122) = z by omega] at this
theorem zcok_36 : ∀ z, 124 ≤ z → z < 127 → zCok z = true := fun z h1 h2 => by
  have h : (List.range 3).all (fun i => zCok (124 + i)) = true := by decide +kernel
  have := List.all_eq_true.mp h (z - 124) (List.mem_range.mpr (by omega))
  rwa [show 124 + (z - 124) = z by omega] at this
theorem zcok_37 : ∀ z, 127 ≤ z → z < 129 → zCok z = true := fun z h1 h2 => by
  have h : (List.range 2).all (fun i => zCok (127 + i)) = true := by decide +kernel
  have := List.all_eq_true.mp h (z - 127) (List.mem_range.mpr (by omega))
  rwa [show 127 + (z - 127) = z by omega] at this
theorem zcok_38 : ∀ z, 129 ≤ z → z < 132 → zCok z = true := fun z h1 h2 => by
  have h : (List.range 3).all (fun i => zCok (129 + i)) = true := by decide +kernel
  have := List.all_eq_true.mp h (z - 129) (List.mem_range.mpr (by omega))
  rwa [show 129 + (z - 129) = z by omega] at this
theorem zcok_39 : ∀ z, 132 ≤ z → z < 135 → zCok z = true := fun z h1 h2 => by
  have h : (List.range 3).all (fun i => zCok (132 + i)) = true := by decide +kernel
  have := List.all_eq_true.mp h (z - 132) (List.mem_range.mpr (by omega))
  rwa [show 132 + (z - 132) = z by omega] at this
theorem zcok_40 : ∀ z, 135 ≤ z → z < 138 → zCok z = true := fun z h1 h2 => by
  have h : (List.range 3).all (fun i => zCok (135 + i)) = true := by decide +kernel
  have := List.all_eq_true.mp h (z - 135) (List.mem_range.mpr (by omega))
  rwa [show 135 + (z - 135) = z by omega] at this
theorem zcok_41 : ∀ z, 138 ≤ z → z < 141 → zCok z = true := fun z h1 h2 => by
  have h : (List.range 3).all (fun i => zCok (138 + i)) = true := by decide +kernel
  have := List.all_eq_true.mp h (z - 138) (List.mem_range.mpr (by omega))
  rwa [show 138 + (z - 138) = z by omega] at this
theorem zcok_42 : ∀ z, 141 ≤ z → z < 144 → zCok z = true := fun z h1 h2 => by
  have h : (List.range 3).all (fun i => zCok (141 + i)) = true := by decide +kernel
  have := List.all_eq_true.mp h (z - 141) (List.mem_range.mpr (by omega))
  rwa [show 141 + (z - 141) = z by omega] at this
theorem zcok_43 : ∀ z, 144 ≤ z → z < 147 → zCok z = true := fun z h1 h2 => by
  have h : (List.range 3).all (fun i => zCok (144 + i)) = true := by decide +kernel
  have := List.all_eq_true.mp h (z - 144) (List.mem_range.mpr (by omega))
  rwa [show 144 + (z - 144) = z by omega] at this
theorem zcok_44 : ∀ z, 147 ≤ z → z < 151 → zCok z = true := fun z h1 h2 => by
  have h : (List.range 4).all (fun i => zCok (147 + i)) = true := by decide +kernel
  have := List.all_eq_true.mp h (z - 147) (List.mem_range.mpr (by omega))
  rwa [show 147 + (z - 147) = z by omega] at this
theorem zcok_45 : ∀ z, 151 ≤ z → z < 155 → zCok z = true := fun z h1 h2 => by
  have h : (List.range 4).all (fun i => zCok (151 + i)) = true := by decide +kernel
  have := List.all_eq_true.mp h (z - 151) (List.mem_range.mpr (by omega))
  rwa [show 151 + (z - 151) = z by omega] at this
theorem zb_zc_X12_init_0 : ((zc_X12_init).take 40).all (fun e => zOk (zinf 155).1.cls (zinf 155).2.1 (zinf 155).2.2.1 (zinf 155).2.2.2 (decide ((zinf 155).1.name = "<init>")) e) = true := by decide +kernel
theorem zb_zc_X12_init_1 : (((zc_X12_init).drop 40).take 40).all (fun e => zOk (zinf 155).1.cls (zinf 155).2.1 (zinf 155).2.2.1 (zinf 155).2.2.2 (decide ((zinf 155).1.name = "<init>")) e) = true := by decide +kernel
theorem zb_zc_X12_init_2 : ((((zc_X12_init).drop 40).drop 40).take 40).all (fun e => zOk (zinf 155).1.cls (zinf 155).2.1 (zinf 155).2.2.1 (zinf 155).2.2.2 (decide ((zinf 155).1.name = "<init>")) e) = true := by decide +kernel
theorem zb_zc_X12_init_3 : (((((zc_X12_init).drop 40).drop 40).drop 40).take 40).all (fun e => zOk (zinf 155).1.cls (zinf 155).2.1 (zinf 155).2.2.1 (zinf 155).2.2.2 (decide ((zinf 155).1.name = "<init>")) e) = true := by decide +kernel
theorem zb_zc_X12_init_4 : ((((((zc_X12_init).drop 40).drop 40).drop 40).drop 40).take 40).all (fun e => zOk (zinf 155).1.cls (zinf 155).2.1 (zinf 155).2.2.1 (zinf 155).2.2.2 (decide ((zinf 155).1.name = "<init>")) e) = true := by decide +kernel
theorem zb_zc_X12_init_5 : (((((((zc_X12_init).drop 40).drop 40).drop 40).drop 40).drop 40).take 40).all (fun e => zOk (zinf 155).1.cls (zinf 155).2.1 (zinf 155).2.2.1 (zinf 155).2.2.2 (decide ((zinf 155).1.name = "<init>")) e) = true := by decide +kernel
theorem zb_zc_X12_init_6 : ((((((((zc_X12_init).drop 40).drop 40).drop 40).drop 40).drop 40).drop 40).take 40).all (fun e => zOk (zinf 155).1.cls (zinf 155).2.1 (zinf 155).2.2.1 (zinf 155).2.2.2 (decide ((zinf 155).1.name = "<init>")) e) = true := by decide +kernel
theorem zb_zc_X12_init_7 : (((((((((zc_X12_init).drop 40).drop 40).drop 40).drop 40).drop 40).drop 40).drop 40).take 40).all (fun e => zOk (zinf 155).1.cls (zinf 155).2.1 (zinf 155).2.2.1 (zinf 155).2.2.2 (decide ((zinf 155).1.name = "<init>")) e) = true := by decide +kernel
theorem zb_zc_X12_init_8 : ((((((((((zc_X12_init).drop 40).drop 40).drop 40).drop 40).drop 40).drop 40).drop 40).drop 40).take 40).all (fun e => zOk (zinf 155).1.cls (zinf 155).2.1 (zinf 155).2.2.1 (zinf 155).2.2.2 (decide ((zinf 155).1.name = "<init>")) e) = true := by decide +kernel
theorem zb_zc_X12_init_9 : (((((((((((zc_X12_init).drop 40).drop 40).drop 40).drop 40).drop 40).drop 40).drop 40).drop 40).drop 40).take 40).all (fun e => zOk (zinf 155).1.cls (zinf 155).2.1 (zinf 155).2.2.1 (zinf 155).2.2.2 (decide ((zinf 155).1.name = "<init>")) e) = true := by decide +kernel
theorem zb_zc_X12_init_10 : ((((((((((((zc_X12_init).drop 40).drop 40).drop 40).drop 40).drop 40).drop 40).drop 40).drop 40).drop 40).drop 40).take 40).all (fun e => zOk (zinf 155).1.cls (zinf 155).2.1 (zinf 155).2.2.1 (zinf 155).2.2.2 (decide ((zinf 155).1.name = "<init>")) e) = true := by decide +kernel
theorem zb_zc_X12_init_11 : (((((((((((((zc_X12_init).drop 40).drop 40).drop 40).drop 40).drop 40).drop 40).drop 40).drop 40).drop 40).drop 40).drop 40).take 40).all (fun e => zOk (zinf 155).1.cls (zinf 155).2.1 (zinf 155).2.2.1 (zinf 155).2.2.2 (decide ((zinf 155).1.name = "<init>")) e) = true := by decide +kernel
theorem zb_zc_X12_init_12 : (((((((((((((zc_X12_init).drop 40).drop 40).drop 40).drop 40).drop 40).drop 40).drop 40).drop 40).drop 40).drop 40).drop 40).drop 40).all (fun e => zOk (zinf 155).1.cls (zinf 155).2.1 (zinf 155).2.2.1 (zinf 155).2.2.2 (decide ((zinf 155).1.name = "<init>")) e) = true := by decide +kernel
theorem zcok_46 : ∀ z, 155 ≤ z → z < 156 → zCok z = true := fun z h1 h2 => by
  have e : z = 155 := by omega
  subst e
  exact (all_td 40 zb_zc_X12_init_0 (all_td 40 zb_zc_X12_init_1 (all_td 40 zb_zc_X12_init_2 (all_td 40 zb_zc_X12_init_3 (all_td 40 zb_zc_X12_init_4 (all_td 40 zb_zc_X12_init_5 (all_td 40 zb_zc_X12_init_6 (all_td 40 zb_zc_X12_init_7 (all_td 40 zb_zc_X12_init_8 (all_td 40 zb_zc_X12_init_9 (all_td 40 zb_zc_X12_init_10 (all_td 40 zb_zc_X12_init_11 zb_zc_X12_init_12))))))))))))
theorem zcok_47 : ∀ z, 156 ≤ z → z < 163 → zCok z = true := fun z h1 h2 => by
  have h : (List.range 7).all (fun i => zCok (156 + i)) = true := by decide +kernel
  have := List.all_eq_true.mp h (z - 156) (List.mem_range.mpr (by omega))
  rwa [show 156 + (z - 156) = z by omega] at this
theorem zcok_48 : ∀ z, 163 ≤ z → z < 165 → zCok z = true := fun z h1 h2 => by
  have h : (List.range 2).all (fun i => zCok (163 + i)) = true := by decide +kernel
  have := List.all_eq_true.mp h (z - 163) (List.mem_range.mpr (by omega))
  rwa [show 163 + (z - 163) = z by omega] at this
theorem zcok_49 : ∀ z, 165 ≤ z → z < 166 → zCok z = true := fun z h1 h2 => by
  have h : (List.range 1).all (fun i => zCok (165 + i)) = true := by decide +kernel
  have := List.all_eq_true.mp h (z - 165) (List.mem_range.mpr (by omega))
  rwa [show 165 + (z - 165) = z by omega] at this
theorem zcok_50 : ∀ z, 166 ≤ z → z < 170 → zCok z = true := fun z h1 h2 => by
  have h : (List.range 4).all (fun i => zCok (166 + i)) = true := by decide +kernel
  have := List.all_eq_true.mp h (z - 166) (List.mem_range.mpr (by omega))
  rwa [show 166 + (z - 166) = z by omega] at this
theorem zcok_51 : ∀ z, 170 ≤ z → z < 173 → zCok z = true := fun z h1 h2 => by
  have h : (List.range 3).all (fun i => zCok (170 + i)) = true := by decide +kernel
  have := List.all_eq_true.mp h (z - 170) (List.mem_range.mpr (by omega))
  rwa [show 170 + (z - 170) = z by omega] at this
theorem zcok_52 : ∀ z, 173 ≤ z → z < 174 → zCok z = true := fun z h1 h2 => by
  have h : (List.range 1).all (fun i => zCok (173 + i)) = true := by decide +kernel
  have := List.all_eq_true.mp h (z - 173) (List.mem_range.mpr (by omega))
  rwa [show 173 + (z - 173) = z by omega] at this
theorem zcok_53 : ∀ z, 174 ≤ z → z < 177 → zCok z = true := fun z h1 h2 => by
  have h : (List.range 3).all (fun i => zCok (174 + i)) = true := by decide +kernel
  have := List.all_eq_true.mp h (z - 174) (List.mem_range.mpr (by omega))
  rwa [show 174 + (z - 174) = z by omega] at this
theorem zcok_54 : ∀ z, 177 ≤ z → z < 178 → zCok z = true := fun z h1 h2 => by
  have h : (List.range 1).all (fun i => zCok (177 + i)) = true := by decide +kernel
  have := List.all_eq_true.mp h (z - 177) (List.mem_range.mpr (by omega))
  rwa [show 177 + (z - 177) = z by omega] at this
theorem zcok_55 : ∀ z, 178 ≤ z → z < 181 → zCok z = true := fun z h1 h2 => by
  have h : (List.range 3).all (fun i => zCok (178 + i)) = true := by decide +kernel
  have := List.all_eq_true.mp h (z - 178) (List.mem_range.mpr (by omega))
  rwa [show 178 + (z - 178) = z by omega] at this
theorem zcok_56 : ∀ z, 181 ≤ z → z < 182 → zCok z = true := fun z h1 h2 => by
  have h : (List.range 1).all (fun i => zCok (181 + i)) = true := by decide +kernel
  have := List.all_eq_true.mp h (z - 181) (List.mem_range.mpr (by omega))
  rwa [show 181 + (z - 181) = z by omega] at this
theorem zcok_57 : ∀ z, 182 ≤ z → z < 183 → zCok z = true := fun z h1 h2 => by
  have h : (List.range 1).all (fun i => zCok (182 + i)) = true := by decide +kernel
  have := List.all_eq_true.mp h (z - 182) (List.mem_range.mpr (by omega))
  rwa [show 182 + (z - 182) = z by omega] at this
theorem zcok_58 : ∀ z, 183 ≤ z → z < 184 → zCok z = true := fun z h1 h2 => by
  have h : (List.range 1).all (fun i => zCok (183 + i)) = true := by decide +kernel
  have := List.all_eq_true.mp h (z - 183) (List.mem_range.mpr (by omega))
  rwa [show 183 + (z - 183) = z by omega] at this
theorem zcok_59 : ∀ z, 184 ≤ z → z < 185 → zCok z = true := fun z h1 h2 => by
  have h : (List.range 1).all (fun i => zCok (184 + i)) = true := by decide +kernel
  have := List.all_eq_true.mp h (z - 184) (List.mem_range.mpr (by omega))
  rwa [show 184 + (z - 184) = z by omega] at this
theorem zcok_60 : ∀ z, 185 ≤ z → z < 188 → zCok z = true := fun z h1 h2 => by
  have h : (List.range 3).all (fun i => zCok (185 + i)) = true := by decide +kernel
  have := List.all_eq_true.mp h (z - 185) (List.mem_range.mpr (by omega))
  rwa [show 185 + (z - 185) = z by omega] at this
theorem zcok_61 : ∀ z, 188 ≤ z → z < 189 → zCok z = true := fun z h1 h2 => by
  have h : (List.range 1).all (fun i => zCok (188 + i)) = true := by decide +kernel
  have := List.all_eq_true.mp h (z - 188) (List.mem_range.mpr (by omega))
  rwa [show 188 + (z - 188) = z by omega] at this
theorem zcok_62 : ∀ z, 189 ≤ z → z < 190 → zCok z = true := fun z h1 h2 => by
  have h : (List.range 1).all (fun i => zCok (189 + i)) = true := by decide +kernel
  have := List.all_eq_true.mp h (z - 189) (List.mem_range.mpr (by omega))
  rwa [show 189 + (z - 189) = z by omega] at this
theorem zcok_63 : ∀ z, 190 ≤ z → z < 193 → zCok z = true := fun z h1 h2 => by
  have h : (List.range 3).all (fun i => zCok (190 + i)) = true := by decide +kernel
  have := List.all_eq_true.mp h (z - 190) (List.mem_range.mpr (by omega))
  rwa [show 190 + (z - 190) = z by omega] at this
theorem zcok_64 : ∀ z, 193 ≤ z → z < 198 → zCok z = true := fun z h1 h2 => by
  have h : (List.range 5).all (fun i => zCok (193 + i)) = true := by decide +kernel
  have := List.all_eq_true.mp h (z - 193) (List.mem_range.mpr (by omega))
  rwa [show 193 + (z - 193) = z by omega] at this
theorem zcok_65 : ∀ z, 198 ≤ z → z < 199 → zCok z = true := fun z h1 h2 => by
  have h : (List.range 1).all (fun i => zCok (198 + i)) = true := by decide +kernel
  have := List.all_eq_true.mp h (z - 198) (List.mem_range.mpr (by omega))
  rwa [show 198 + (z - 198) = z by omega] at this
theorem zcok_66 : ∀ z, 199 ≤ z → z < 205 → zCok z = true := fun z h1 h2 => by
  have h : (List.range 6).all (fun i => zCok (199 + i)) = true := by decide +kernel
  have := List.all_eq_true.mp h (z - 199) (List.mem_range.mpr (by omega))
  rwa [show 199 + (z - 199) = z by omega] at this
theorem zcok_67 : ∀ z, 205 ≤ z → z < 206 → zCok z = true := fun z h1 h2 => by
  have h : (List.range 1).all (fun i => zCok (205 + i)) = true := by decide +kernel
  have := List.all_eq_true.mp h (z - 205) (List.mem_range.mpr (by omega))
  rwa [show 205 + (z - 205) = z by omega] at this
theorem zcok_68 : ∀ z, 206 ≤ z → z < 207 → zCok z = true := fun z h1 h2 => by
  have h : (List.range 1).all (fun i => zCok (206 + i)) = true := by decide +kernel
  have := List.all_eq_true.mp h (z - 206) (List.mem_range.mpr (by omega))
  rwa [show 206 + (z - 206) = z by omega] at this
theorem zcok_69 : ∀ z, 207 ≤ z → z < 211 → zCok z = true := fun z h1 h2 => by
  have h : (List.range 4).all (fun i => zCok (207 + i)) = true := by decide +kernel
  have := List.all_eq_true.mp h (z - 207) (List.mem_range.mpr (by omega))
  rwa [show 207 + (z - 207) = z by omega] at this
theorem zcok_70 : ∀ z, 211 ≤ z → z < 214 → zCok z = true := fun z h1 h2 => by
  have h : (List.range 3).all (fun i => zCok (211 + i)) = true := by decide +kernel
  have := List.all_eq_true.mp h (z - 211) (List.mem_range.mpr (by omega))
  rwa [show 211 + (z - 211) = z by omega] at this
theorem zcok_71 : ∀ z, 214 ≤ z → z < 215 → zCok z = true := fun z h1 h2 => by
  have h : (List.range 1).all (fun i => zCok (214 + i)) = true := by decide +kernel
  have := List.all_eq_true.mp h (z - 214) (List.mem_range.mpr (by omega))
  rwa [show 214 + (z - 214) = z by omega] at this
theorem zcok_72 : ∀ z, 215 ≤ z → z < 216 → zCok z = true := fun z h1 h2 => by
  have h : (List.range 1).all (fun i => zCok (215 + i)) = true := by decide +kernel
  have := List.all_eq_true.mp h (z - 215) (List.mem_range.mpr (by omega))
  rwa [show 215 + (z - 215) = z by omega] at this
theorem zcok_73 : ∀ z, 216 ≤ z → z < 218 → zCok z = true := fun z h1 h2 => by
  have h : (List.range 2).all (fun i => zCok (216 + i)) = true := by decide +kernel
  have := List.all_eq_true.mp h (z - 216) (List.mem_range.mpr (by omega))
  rwa [show 216 + (z - 216) = z by omega] at this
theorem zcok_74 : ∀ z, 218 ≤ z → z < 221 → zCok z = true := fun z h1 h2 => by
  have h : (List.range 3).all (fun i => zCok (218 + i)) = true := by decide +kernel
  have := List.all_eq_true.mp h (z - 218) (List.mem_range.mpr (by omega))
  rwa [show 218 + (z - 218) = z by omega] at this
theorem zcok_75 : ∀ z, 221 ≤ z → z < 222 → zCok z = true := fun z h1 h2 => by
  have h : (List.range 1).all (fun i => zCok (221 + i)) = true := by decide +kernel
  have := List.all_eq_true.mp h (z - 221) (List.mem_range.mpr (by omega))
  rwa [show 221 + (z - 221) = z by omega] at this
theorem zcok_76 : ∀ z, 222 ≤ z → z < 223 → zCok z = true := fun z h1 h2 => by
  have h : (List.range 1).all (fun i => zCok (222 + i)) = true := by decide +kernel
  have := List.all_eq_true.mp h (z - 222) (List.mem_range.mpr (by omega))
  rwa [show 222 + (z - 222) = z by omega] at this
theorem zcok_77 : ∀ z, 223 ≤ z → z < 226 → zCok z = true := fun z h1 h2 => by
  have h : (List.range 3).all (fun i => zCok (223 + i)) = true := by decide +kernel
  have := List.all_eq_true.mp h (z - 223) (List.mem_range.mpr (by omega))
  rwa [show 223 + (z - 223) = z by omega] at this
theorem zcok_78 : ∀ z, 226 ≤ z → z < 227 → zCok z = true := fun z h1 h2 => by
  have h : (List.range 1).all (fun i => zCok (226 + i)) = true := by decide +kernel
  have := List.all_eq_true.mp h (z - 226) (List.mem_range.mpr (by omega))
  rwa [show 226 + (z - 226) = z by omega] at this
theorem zcok_79 : ∀ z, 227 ≤ z → z < 230 → zCok z = true := fun z h1 h2 => by
  have h : (List.range 3).all (fun i => zCok (227 + i)) = true := by decide +kernel
  have := List.all_eq_true.mp h (z - 227) (List.mem_range.mpr (by omega))
  rwa [show 227 + (z - 227) = z by omega] at this
theorem zcok_80 : ∀ z, 230 ≤ z → z < 232 → zCok z = true := fun z h1 h2 => by
  have h : (List.range 2).all (fun i => zCok (230 + i)) = true := by decide +kernel
  have := List.all_eq_true.mp h (z - 230) (List.mem_range.mpr (by omega))
  rwa [show 230 + (z - 230) = z by omega] at this
theorem zcok_81 : ∀ z, 232 ≤ z → z < 234 → zCok z = true := fun z h1 h2 => by
  have h : (List.range 2).all (fun i => zCok (232 + i)) = true := by decide +kernel
  have := List.all_eq_true.mp h (z - 232) (List.mem_range.mpr (by omega))
  rwa [show 232 + (z - 232) = z by omega] at this
theorem zcok_82 : ∀ z, 234 ≤ z → z < 236 → zCok z = true := fun z h1 h2 => by
  have h : (List.range 2).all (fun i => zCok (234 + i)) = true := by decide +kernel
  have := List.all_eq_true.mp h (z - 234) (List.mem_range.mpr (by omega))
  rwa [show 234 + (z - 234) = z by omega] at this
theorem zcok_83 : ∀ z, 236 ≤ z → z < 238 → zCok z = true := fun z h1 h2 => by
  have h : (List.range 2).all (fun i => zCok (236 + i)) = true := by decide +kernel
  have := List.all_eq_true.mp h (z - 236) (List.mem_range.mpr (by omega))
  rwa [show 236 + (z - 236) = z by omega] at this
theorem zcok_84 : ∀ z, 238 ≤ z → z < 241 → zCok z = true := fun z h1 h2 => by
  have h : (List.range 3).all (fun i => zCok (238 + i)) = true := by decide +kernel
  have := List.all_eq_true.mp h (z - 238) (List.mem_range.mpr (by omega))
  rwa [show 238 + (z - 238) = z by omega] at this
theorem zcok_85 : ∀ z, 241 ≤ z → z < 242 → zCok z = true := fun z h1 h2 => by
  have h : (List.range 1).all (fun i => zCok (241 + i)) = true := by decide +kernel
  have := List.all_eq_true.mp h (z - 241) (List.mem_range.mpr (by omega))
  rwa [show 241 + (z - 241) = z by omega] at this
theorem zcok_86 : ∀ z, 242 ≤ z → z < 244 → zCok z = true := fun z h1 h2 => by
  have h : (List.range 2).all (fun i => zCok (242 + i)) = true := by decide +kernel
  have := List.all_eq_true.mp h (z - 242) (List.mem_range.mpr (by omega))
  rwa [show 242 + (z - 242) = z by omega] at this
theorem zcok_87 : ∀ z, 244 ≤ z → z < 245 → zCok z = true := fun z h1 h2 => by
  have h : (List.range 1).all (fun i => zCok (244 + i)) = true := by decide +kernel
  have := List.all_eq_true.mp h (z - 244) (List.mem_range.mpr (by omega))
  rwa [show 244 + (z - 244) = z by omega] at this
theorem zcok_88 : ∀ z, 245 ≤ z → z < 246 → zCok z = true := fun z h1 h2 => by
  have h : (List.range 1).all (fun i => zCok (245 + i)) = true := by decide +kernel
  have := List.all_eq_true.mp h (z - 245) (List.mem_range.mpr (by omega))
  rwa [show 245 + (z - 245) = z by omega] at this
theorem zcok_89 : ∀ z, 246 ≤ z → z < 247 → zCok z = true := fun z h1 h2 => by
  have h : (List.range 1).all (fun i => zCok (246 + i)) = true := by decide +kernel
  have := List.all_eq_true.mp h (z - 246) (List.mem_range.mpr (by omega))
  rwa [show 246 + (z - 246) = z by omega] at this
theorem zcok_90 : ∀ z, 247 ≤ z → z < 249 → zCok z = true := fun z h1 h2 => by
  have h : (List.range 2).all (fun i => zCok (247 + i)) = true := by decide +kernel
  have := List.all_eq_true.mp h (z - 247) (List.mem_range.mpr (by omega))
  rwa [show 247 + (z - 247) = z by omega] at this
theorem zcok_91 : ∀ z, 249 ≤ z → z < 253 → zCok z = true := fun z h1 h2 => by
  have h : (List.range 4).all (fun i => zCok (249 + i)) = true := by decide +kernel
  have := List.all_eq_true.mp h (z - 249) (List.mem_range.mpr (by omega))
  rwa [show 249 + (z - 249) = z by omega] at this
theorem zcok_92 : ∀ z, 253 ≤ z → z < 255 → zCok z = true := fun z h1 h2 => by
  have h : (List.range 2).all (fun i => zCok (253 + i)) = true := by decide +kernel
  have := List.all_eq_true.mp h (z - 253) (List.mem_range.mpr (by omega))
  rwa [show 253 + (z - 253) = z by omega] at this
theorem zcok_93 : ∀ z, 255 ≤ z → z < 258 → zCok z = true := fun z h1 h2 => by
  have h : (List.range 3).all (fun i => zCok (255 + i)) = true := by decide +kernel
  have := List.all_eq_true.mp h (z - 255) (List.mem_range.mpr (by omega))
  rwa [show 255 + (z - 255) = z by omega] at this
theorem zcok_94 : ∀ z, 258 ≤ z → z < 261 → zCok z = true := fun z h1 h2 => by
  have h : (List.range 3).all (fun i => zCok (258 + i)) = true := by decide +kernel
  have := List.all_eq_true.mp h (z - 258) (List.mem_range.mpr (by omega))
  rwa [show 258 + (z - 258) = z by omega] at this
theorem zcok_95 : ∀ z, 261 ≤ z → z < 265 → zCok z = true := fun z h1 h2 => by
  have h : (List.range 4).all (fun i => zCok (261 + i)) = true := by decide +kernel
  have := List.all_eq_true.mp h (z - 261) (List.mem_range.mpr (by omega))
  rwa [show 261 + (z - 261) = z by omega] at this
theorem zcok_96 : ∀ z, 265 ≤ z → z < 274 → zCok z = true := fun z h1 h2 => by
  have h : (List.range 9).all (fun i => zCok (265 + i)) = true := by decide +kernel
  have := List.all_eq_true.mp h (z - 265) (List.mem_range.mpr (by omega))
  rwa [show 265 + (z - 265) = z by omega] at this
theorem zcok_97 : ∀ z, 274 ≤ z → z < 278 → zCok z = true := fun z h1 h2 => by
  have h : (List.range 4).all (fun i => zCok (274 + i)) = true := by decide +kernel
  have := List.all_eq_true.mp h (z - 274) (List.mem_range.mpr (by omega))
  rwa [show 274 + (z - 274) = z by omega] at this
theorem zcok_all : ∀ z, z < 278 → zCok z = true := fun z h => by
  by_cases h0 : z < 7
  · exact zcok_0 z (by omega) h0
  by_cases h1 : z < 11
  · exact zcok_1 z (by omega) h1
  by_cases h2 : z < 19
  · exact zcok_2 z (by omega) h2
  by_cases h3 : z < 25
  · exact zcok_3 z (by omega) h3
  by_cases h4 : z < 30
  · exact zcok_4 z (by omega) h4
  by_cases h5 : z < 34
  · exact zcok_5 z (by omega) h5
  by_cases h6 : z < 37
  · exact zcok_6 z (by omega) h6
  by_cases h7 : z < 41
  · exact zcok_7 z (by omega) h7
  by_cases h8 : z < 47
  · exact zcok_8 z (by omega) h8
  by_cases h9 : z < 50
  · exact zcok_9 z (by omega) h9
  by_cases h10 : z < 53
  · exact zcok_10 z (by omega) h10
  by_cases h11 : z < 55
  · exact zcok_11 z (by omega) h11
  by_cases h12 : z < 58
  · exact zcok_12 z (by omega) h12
  by_cases h13 : z < 59
  · exact zcok_13 z (by omega) h13
  by_cases h14 : z < 61
  · exact zcok_14 z (by omega) h14
  by_cases h15 : z < 63
  · exact zcok_15 z (by omega) h15
  by_cases h16 : z < 67
  · exact zcok_16 z (by omega) h16
  by_cases h17 : z < 74
  · exact zcok_17 z (by omega) h17
  by_cases h18 : z < 75
  · exact zcok_18 z (by omega) h18
  by_cases h19 : z < 77
  · exact zcok_19 z (by omega) h19
  by_cases h20 : z < 83
  · exact zcok_20 z (by omega) h20
  by_cases h21 : z < 84
  · exact zcok_21 z (by omega) h21
  by_cases h22 : z < 85
  · exact zcok_22 z (by omega) h22
  by_cases h23 : z < 87
  · exact zcok_23 z (by omega) h23
  by_cases h24 : z < 90
  · exact zcok_24 z (by omega) h24
  by_cases h25 : z < 92
  · exact zcok_25 z (by omega) h25
  by_cases h26 : z < 94
  · exact zcok_26 z (by omega) h26
  by_cases h27 : z < 98
  · exact zcok_27 z (by omega) h27
  by_cases h28 : z < 102
  · exact zcok_28 z (by omega) h28
  by_cases h29 : z < 107
  · exact zcok_29 z (by omega) h29
  by_cases h30 : z < 111
  · exact zcok_30 z (by omega) h30
  by_cases h31 : z < 113
  · exact zcok_31 z (by omega) h31
  by_cases h32 : z < 119
  · exact zcok_32 z (by omega) h32
  by_cases h33 : z < 121
  · exact zcok_33 z (by omega) h33
  by_cases h34 : z < 122
  · exact zcok_34 z (by omega) h34
  by_cases h35 : z < 124
  · exact zcok_35 z (by omega) h35
  by_cases h36 : z < 127
  · exact zcok_36 z (by omega) h36
  by_cases h37 : z < 129
  · exact zcok_37 z (by omega) h37
  by_cases h38 : z < 132
  · exact zcok_38 z (by omega) h38
  by_cases h39 : z < 135
  · exact zcok_39 z (by omega) h39
  by_cases h40 : z < 138
  · exact zcok_40 z (by omega) h40
  by_cases h41 : z < 141
  · exact zcok_41 z (by omega) h41
  by_cases h42 : z < 144
  · exact zcok_42 z (by omega) h42
  by_cases h43 : z < 147
  · exact zcok_43 z (by omega) h43
  by_cases h44 : z < 151
  · exact zcok_44 z (by omega) h44
  by_cases h45 : z < 155
  · exact zcok_45 z (by omega) h45
  by_cases h46 : z < 156
  · exact zcok_46 z (by omega) h46
  by_cases h47 : z < 163
  · exact zcok_47 z (by omega) h47
  by_cases h48 : z < 165
  · exact zcok_48 z (by omega) h48
  by_cases h49 : z < 166
  · exact zcok_49 z (by omega) h49
  by_cases h50 : z < 170
  · exact zcok_50 z (by omega) h50
  by_cases h51 : z < 173
  · exact zcok_51 z (by omega) h51
  by_cases h52 : z < 174
  · exact zcok_52 z (by omega) h52
  by_cases h53 : z < 177
  · exact zcok_53 z (by omega) h53
  by_cases h54 : z < 178
  · exact zcok_54 z (by omega) h54
  by_cases h55 : z < 181
  · exact zcok_55 z (by omega) h55
  by_cases h56 : z < 182
  · exact zcok_56 z (by omega) h56
  by_cases h57 : z < 183
  · exact zcok_57 z (by omega) h57
  by_cases h58 : z < 184
  · exact zcok_58 z (by omega) h58
  by_cases h59 : z < 185
  · exact zcok_59 z (by omega) h59
  by_cases h60 : z < 188
  · exact zcok_60 z (by omega) h60
  by_cases h61 : z < 189
  · exact zcok_61 z (by omega) h61
  by_cases h62 : z < 190
  · exact zcok_62 z (by omega) h62
  by_cases h63 : z < 193
  · exact zcok_63 z (by omega) h63
  by_cases h64 : z < 198
  · exact zcok_64 z (by omega) h64
  by_cases h65 : z < 199
  · exact zcok_65 z (by omega) h65
  by_cases h66 : z < 205
  · exact zcok_66 z (by omega) h66
  by_cases h67 : z < 206
  · exact zcok_67 z (by omega) h67
  by_cases h68 : z < 207
  · exact zcok_68 z (by omega) h68
  by_cases h69 : z < 211
  · exact zcok_69 z (by omega) h69
  by_cases h70 : z < 214
  · exact zcok_70 z (by omega) h70
  by_cases h71 : z < 215
  · exact zcok_71 z (by omega) h71
  by_cases h72 : z < 216
  · exact zcok_72 z (by omega) h72
  by_cases h73 : z < 218
  · exact zcok_73 z (by omega) h73
  by_cases h74 : z < 221
  · exact zcok_74 z (by omega) h74
  by_cases h75 : z < 222
  · exact zcok_75 z (by omega) h75
  by_cases h76 : z < 223
  · exact zcok_76 z (by omega) h76
  by_cases h77 : z < 226
  · exact zcok_77 z (by omega) h77
  by_cases h78 : z < 227
  · exact zcok_78 z (by omega) h78
  by_cases h79 : z < 230
  · exact zcok_79 z (by omega) h79
  by_cases h80 : z < 232
  · exact zcok_80 z (by omega) h80
  by_cases h81 : z < 234
  · exact zcok_81 z (by omega) h81
  by_cases h82 : z < 236
  · exact zcok_82 z (by omega) h82
  by_cases h83 : z < 238
  · exact zcok_83 z (by omega) h83
  by_cases h84 : z < 241
  · exact zcok_84 z (by omega) h84
  by_cases h85 : z < 242
  · exact zcok_85 z (by omega) h85
  by_cases h86 : z < 244
  · exact zcok_86 z (by omega) h86
  by_cases h87 : z < 245
  · exact zcok_87 z (by omega) h87
  by_cases h88 : z < 246
  · exact zcok_88 z (by omega) h88
  by_cases h89 : z < 247
  · exact zcok_89 z (by omega) h89
  by_cases h90 : z < 249
  · exact zcok_90 z (by omega) h90
  by_cases h91 : z < 253
  · exact zcok_91 z (by omega) h91
  by_cases h92 : z < 255
  · exact zcok_92 z (by omega) h92
  by_cases h93 : z < 258
  · exact zcok_93 z (by omega) h93
  by_cases h94 : z < 261
  · exact zcok_94 z (by omega) h94
  by_cases h95 : z < 265
  · exact zcok_95 z (by omega) h95
  by_cases h96 : z < 274
  · exact zcok_96 z (by omega) h96
  exact zcok_97 z (by omega) h
theorem zb_zc_law_0 : ((zc_law).take 40).all (fun e => zOk "SilkRiseLaw" code 4 (some .boolean) false e) = true := by decide +kernel
theorem zb_zc_law_1 : (((zc_law).drop 40).take 40).all (fun e => zOk "SilkRiseLaw" code 4 (some .boolean) false e) = true := by decide +kernel
theorem zb_zc_law_2 : ((((zc_law).drop 40).drop 40).take 40).all (fun e => zOk "SilkRiseLaw" code 4 (some .boolean) false e) = true := by decide +kernel
theorem zb_zc_law_3 : (((((zc_law).drop 40).drop 40).drop 40).take 40).all (fun e => zOk "SilkRiseLaw" code 4 (some .boolean) false e) = true := by decide +kernel
theorem zb_zc_law_4 : ((((((zc_law).drop 40).drop 40).drop 40).drop 40).take 40).all (fun e => zOk "SilkRiseLaw" code 4 (some .boolean) false e) = true := by decide +kernel
theorem zb_zc_law_5 : (((((((zc_law).drop 40).drop 40).drop 40).drop 40).drop 40).take 40).all (fun e => zOk "SilkRiseLaw" code 4 (some .boolean) false e) = true := by decide +kernel
theorem zb_zc_law_6 : ((((((((zc_law).drop 40).drop 40).drop 40).drop 40).drop 40).drop 40).take 40).all (fun e => zOk "SilkRiseLaw" code 4 (some .boolean) false e) = true := by decide +kernel
theorem zb_zc_law_7 : (((((((((zc_law).drop 40).drop 40).drop 40).drop 40).drop 40).drop 40).drop 40).take 40).all (fun e => zOk "SilkRiseLaw" code 4 (some .boolean) false e) = true := by decide +kernel
theorem zb_zc_law_8 : ((((((((((zc_law).drop 40).drop 40).drop 40).drop 40).drop 40).drop 40).drop 40).drop 40).take 40).all (fun e => zOk "SilkRiseLaw" code 4 (some .boolean) false e) = true := by decide +kernel
theorem zb_zc_law_9 : (((((((((((zc_law).drop 40).drop 40).drop 40).drop 40).drop 40).drop 40).drop 40).drop 40).drop 40).take 40).all (fun e => zOk "SilkRiseLaw" code 4 (some .boolean) false e) = true := by decide +kernel
theorem zb_zc_law_10 : ((((((((((((zc_law).drop 40).drop 40).drop 40).drop 40).drop 40).drop 40).drop 40).drop 40).drop 40).drop 40).take 40).all (fun e => zOk "SilkRiseLaw" code 4 (some .boolean) false e) = true := by decide +kernel
theorem zb_zc_law_11 : (((((((((((((zc_law).drop 40).drop 40).drop 40).drop 40).drop 40).drop 40).drop 40).drop 40).drop 40).drop 40).drop 40).take 40).all (fun e => zOk "SilkRiseLaw" code 4 (some .boolean) false e) = true := by decide +kernel
theorem zb_zc_law_12 : ((((((((((((((zc_law).drop 40).drop 40).drop 40).drop 40).drop 40).drop 40).drop 40).drop 40).drop 40).drop 40).drop 40).drop 40).take 40).all (fun e => zOk "SilkRiseLaw" code 4 (some .boolean) false e) = true := by decide +kernel
theorem zb_zc_law_13 : (((((((((((((((zc_law).drop 40).drop 40).drop 40).drop 40).drop 40).drop 40).drop 40).drop 40).drop 40).drop 40).drop 40).drop 40).drop 40).take 40).all (fun e => zOk "SilkRiseLaw" code 4 (some .boolean) false e) = true := by decide +kernel
theorem zb_zc_law_14 : ((((((((((((((((zc_law).drop 40).drop 40).drop 40).drop 40).drop 40).drop 40).drop 40).drop 40).drop 40).drop 40).drop 40).drop 40).drop 40).drop 40).take 40).all (fun e => zOk "SilkRiseLaw" code 4 (some .boolean) false e) = true := by decide +kernel
theorem zb_zc_law_15 : (((((((((((((((((zc_law).drop 40).drop 40).drop 40).drop 40).drop 40).drop 40).drop 40).drop 40).drop 40).drop 40).drop 40).drop 40).drop 40).drop 40).drop 40).take 40).all (fun e => zOk "SilkRiseLaw" code 4 (some .boolean) false e) = true := by decide +kernel
theorem zb_zc_law_16 : ((((((((((((((((((zc_law).drop 40).drop 40).drop 40).drop 40).drop 40).drop 40).drop 40).drop 40).drop 40).drop 40).drop 40).drop 40).drop 40).drop 40).drop 40).drop 40).take 40).all (fun e => zOk "SilkRiseLaw" code 4 (some .boolean) false e) = true := by decide +kernel
theorem zb_zc_law_17 : (((((((((((((((((((zc_law).drop 40).drop 40).drop 40).drop 40).drop 40).drop 40).drop 40).drop 40).drop 40).drop 40).drop 40).drop 40).drop 40).drop 40).drop 40).drop 40).drop 40).take 40).all (fun e => zOk "SilkRiseLaw" code 4 (some .boolean) false e) = true := by decide +kernel
theorem zb_zc_law_18 : ((((((((((((((((((((zc_law).drop 40).drop 40).drop 40).drop 40).drop 40).drop 40).drop 40).drop 40).drop 40).drop 40).drop 40).drop 40).drop 40).drop 40).drop 40).drop 40).drop 40).drop 40).take 40).all (fun e => zOk "SilkRiseLaw" code 4 (some .boolean) false e) = true := by decide +kernel
theorem zb_zc_law_19 : (((((((((((((((((((((zc_law).drop 40).drop 40).drop 40).drop 40).drop 40).drop 40).drop 40).drop 40).drop 40).drop 40).drop 40).drop 40).drop 40).drop 40).drop 40).drop 40).drop 40).drop 40).drop 40).take 40).all (fun e => zOk "SilkRiseLaw" code 4 (some .boolean) false e) = true := by decide +kernel
theorem zb_zc_law_20 : (((((((((((((((((((((zc_law).drop 40).drop 40).drop 40).drop 40).drop 40).drop 40).drop 40).drop 40).drop 40).drop 40).drop 40).drop 40).drop 40).drop 40).drop 40).drop 40).drop 40).drop 40).drop 40).drop 40).all (fun e => zOk "SilkRiseLaw" code 4 (some .boolean) false e) = true := by decide +kernel
theorem zlok : zc_law.all (fun e => zOk "SilkRiseLaw" code 4 (some .boolean) false e) = true := (all_td 40 zb_zc_law_0 (all_td 40 zb_zc_law_1 (all_td 40 zb_zc_law_2 (all_td 40 zb_zc_law_3 (all_td 40 zb_zc_law_4 (all_td 40 zb_zc_law_5 (all_td 40 zb_zc_law_6 (all_td 40 zb_zc_law_7 (all_td 40 zb_zc_law_8 (all_td 40 zb_zc_law_9 (all_td 40 zb_zc_law_10 (all_td 40 zb_zc_law_11 (all_td 40 zb_zc_law_12 (all_td 40 zb_zc_law_13 (all_td 40 zb_zc_law_14 (all_td 40 zb_zc_law_15 (all_td 40 zb_zc_law_16 (all_td 40 zb_zc_law_17 (all_td 40 zb_zc_law_18 (all_td 40 zb_zc_law_19 zb_zc_law_20))))))))))))))))))))
end
section
/-! THE CLAIM OUT OF ONE WALK OF THE LAW'S BODY. Your part is whole_start (and what it stands on); all else here is the same for every law, but numbers. -/
def R_law : String := "SilkRiseLaw"
def lw_P (b : Addr) (xs : List Int32) (args : Array Value) (s : State) : Prop := args = #[.ref b] ∧ s.IntsAt b xs ∧ xs.length ≤ 3072 ∧ (Jvm.Cond.and given_1 narrow_1).before args s = true
def lw_Q (_ : Array Value) (s : State) (o : Outcome) (t : State) : Prop := o = .returned (some (.int 1)) ∧ Framed s o t [] 600000 7302250
def lw_Z (below : List Frame) (a : Array Value) (s : State) : State → Prop := fun t => ∃ o, t.status = .running ∧ Ended t below o ∧ lw_Q a s o t
/-- the law's own end, with 1 on the stack, nothing written that was there before, its room as the claim has it -/
theorem lw_ret {p : Program} {l : Launch} {e : Env} {s : State} {m : MethodId} {below : List Frame} {meth : Method} {c : Code} {b : Nat} (hx : p.tables.exec = Jvm.exec) (hb : c.code = code) (hr : meth.sig.returnType = ret) (hlocks : meth.locks = false) {pc : Nat} {H : Heap} {ls : Array Slot} (hdg : decode code pc = .ok (.ireturn, 1)) : W p l e room_1 s m #[Value.ref b] below meth c H [] 600000 7302250 (lw_Z below #[Value.ref b] s) (F0 m pc ls [.int 1]) := by
  intro T hT X
  obtain ⟨fs, hret, hrun, hended, hW, hframe⟩ := X.leave (v := some (.int 1)) (hlocks := hlocks) (fun h => by rw [hr] at h; cases h)
  have hmeth' : T.vm.method? m = some meth := X.method'
  refine ⟨T.setFrames fs, ?_, .returned (some (.int 1)), hrun, hended, rfl, ⟨_, rfl⟩, hW, hframe⟩
  jvm_step X.here [X.here.top, hx, hb, hdg, hmeth', hr, ret, narrow_b1]
  (try refine ⟨rfl, ?_⟩); (try refine ⟨rfl, ?_⟩)
  first | (intro acts; rw [hret _ acts rfl rfl rfl]) | rw [hret _ _ rfl rfl rfl]
  exact Steps.refl _
/-- what holds at the law's entry: the machine, the code, the tables' words (any of lw_tbl by 'hts w (by decide +kernel)'), the script of L ints xs at the cell b, what the Statement gives of the start (any of its parts by flat_of_before) -/
def lw_At (p : Program) (s : State) (m : MethodId) (meth : Method) (c : Code) (b L : Nat) (xs : Nat → Int32) : Prop :=
  p.tables.exec = Jvm.exec ∧ c.code = code ∧ meth.sig.returnType = ret ∧ c.maxLocals = 4 ∧ s.vm.findClass R_law = some m.cls ∧ (∀ w ∈ lw_tbl, w.before #[Value.ref b] s = true) ∧ va_X b L xs s s.heap ∧ b < s.heap.size ∧ meth.locks = false ∧ (Jvm.Cond.and given_1 narrow_1).before #[Value.ref b] s = true
end
section
/-! THE CLAIM OUT OF THE PURE MACHINE: what is wanting is that the pure law answers 1 -/
def zM0 : zM := ((0, 0, fun _ => 0, fun _ => 0, fun _ _ => 0), fun _ _ => 0, fun _ _ => 0)
theorem zarrA {args : Array Value} {first s : State} {o : Option Outcome} {idx : List Nat} {t : FieldType} (h : (Cond.arrayOver (.array t)).holds args first o s idx = true) :
    ∃ comp c k, s.vm.classes[c]? = some k ∧ k.kind = .array comp (.array t) ∧ s.vm.findClass ("[" ++ (FieldType.array t).toString) = some c := by
  simp only [Cond.holds, Cond.value, beq_iff_eq] at h
  cases hc : s.vm.findClass (FieldType.array t).toString with
  | none => simp [hc] at h
  | some comp =>
    simp only [hc, Option.bind_some, Option.bind_eq_some_iff, Option.map_eq_some_iff] at h
    obtain ⟨c, hi, k, hk, hb⟩ := h
    obtain ⟨hlt, hp, -⟩ := Array.findIdx?_eq_some_iff_getElem.mp hi
    have hkk : s.vm.classes[c] = k := (Array.getElem?_eq_some_iff.mp hk).2
    rw [hkk] at hp
    cases hkind : k.kind with
    | array component ty =>
      rw [hkind] at hb hp
      simp at hb hp
      exact ⟨comp, c, k, hk, by rw [hkind, hp, hb.1], hb.2⟩
    | _ => rw [hkind] at hb; simp at hb
def ztm (i : Nat) : Term := if i = 0 then .string "SilkRise$Tokens" 39 else .string "SilkRise$Tokens" 88
theorem zel : ∀ i, i < 2 → ∀ j, j < ([112, 9] : List Nat).getD i 0 → Cond.eq (.elem (.field (ztm i) "java/lang/String" "value" "[B") (.int (Int32.ofNat j))) (.int ((([zby 4, zby 5] : List (List Int32)).getD i []).getD j 0)) ∈ flatC (Jvm.Cond.and given_1 narrow_1) := by decide +kernel
theorem zex : ∀ i, i < 2 → Cond.exactly (ztm i) "java/lang/String" ∈ flatC (Jvm.Cond.and given_1 narrow_1) := by decide +kernel
theorem zco : ∀ i, i < 2 → Cond.eq (.field (ztm i) "java/lang/String" "coder" "B") (.int 0) ∈ flatC (Jvm.Cond.and given_1 narrow_1) := by decide +kernel
theorem zar : ∀ i, i < 2 → Cond.arrayOf (.field (ztm i) "java/lang/String" "value" "[B") .byte ∈ flatC (Jvm.Cond.and given_1 narrow_1) := by decide +kernel
theorem zle : ∀ i, i < 2 → Cond.eq (.length (.field (ztm i) "java/lang/String" "value" "[B")) (.int (Int32.ofNat (([112, 9] : List Nat).getD i 0))) ∈ flatC (Jvm.Cond.and given_1 narrow_1) := by decide +kernel
theorem zne : Cond.not (Cond.eq (ztm 0) (ztm 1)) ∈ flatC (Jvm.Cond.and given_1 narrow_1) := by decide +kernel
theorem zcs : Cond.eq (.static "java/lang/String" "COMPACT_STRINGS" "Z") (.int 1) ∈ flatC (Jvm.Cond.and given_1 narrow_1) := by decide +kernel
theorem zsf : Cond.isRef (.static "jdk/internal/util/Preconditions" "SIOOBE_FORMATTER" "Ljava/util/function/BiFunction;") ∈ flatC (Jvm.Cond.and given_1 narrow_1) := by decide +kernel
theorem zws0 : Cond.stringRef "SilkRise$Tokens" 39 "load silk hook lift wind ties pays rim gusts seed if then else hour day size weight high across price up stored " ∈ lw_tbl := List.mem_of_getElem? (i := 287) (by decide +kernel)
theorem zws1 : Cond.stringRef "SilkRise$Tokens" 88 ";=+-*/<()" ∈ lw_tbl := List.mem_of_getElem? (i := 631) (by decide +kernel)
theorem zls0 : Cond.laysStatic "java/lang/String" "COMPACT_STRINGS" "Z" ∈ lw_tbl := List.mem_of_getElem? (i := 297) (by decide +kernel)
theorem zls1 : Cond.laysStatic "jdk/internal/util/Preconditions" "SIOOBE_FORMATTER" "Ljava/util/function/BiFunction;" ∈ lw_tbl := List.mem_of_getElem? (i := 313) (by decide +kernel)
theorem zin0 : Cond.initialized "java/lang/String" ∈ lw_tbl := List.mem_of_getElem? (i := 113) (by decide +kernel)
theorem zin1 : Cond.initialized "jdk/internal/util/Preconditions" ∈ lw_tbl := List.mem_of_getElem? (i := 115) (by decide +kernel)
theorem zac20 : Cond.arrayClass .int ∈ lw_tbl := List.mem_of_getElem? (i := 167) (by decide +kernel)
theorem zac21 : Cond.arrayClass .byte ∈ lw_tbl := List.mem_of_getElem? (i := 166) (by decide +kernel)
theorem zac22 : Cond.arrayClass .boolean ∈ lw_tbl := List.mem_of_getElem? (i := 1506) (by decide +kernel)
theorem zac23 : Cond.arrayClass .long ∈ lw_tbl := List.mem_of_getElem? (i := 365) (by decide +kernel)
theorem zac24 : Cond.arrayOver (.object "SilkRise$State") ∈ lw_tbl := List.mem_of_getElem? (i := 504) (by decide +kernel)
theorem zac25 : Cond.arrayOver (.array .int) ∈ lw_tbl := List.mem_of_getElem? (i := 477) (by decide +kernel)
theorem zis0 : Cond.instantiable RX0 3 ∈ lw_tbl := List.mem_of_getElem? (i := 416) (by decide +kernel)
theorem zis1 : Cond.instantiable RX1 8 ∈ lw_tbl := List.mem_of_getElem? (i := 432) (by decide +kernel)
theorem zis2 : Cond.instantiable RX2 6 ∈ lw_tbl := List.mem_of_getElem? (i := 471) (by decide +kernel)
theorem zis3 : Cond.instantiable RX3 3 ∈ lw_tbl := List.mem_of_getElem? (i := 208) (by decide +kernel)
theorem zis4 : Cond.instantiable RX4 5 ∈ lw_tbl := List.mem_of_getElem? (i := 498) (by decide +kernel)
theorem zis5 : Cond.instantiable RX5 5 ∈ lw_tbl := List.mem_of_getElem? (i := 136) (by decide +kernel)
theorem zis6 : Cond.instantiable RX6 10 ∈ lw_tbl := List.mem_of_getElem? (i := 276) (by decide +kernel)
theorem zis7 : Cond.instantiable RX7 3 ∈ lw_tbl := List.mem_of_getElem? (i := 400) (by decide +kernel)
theorem zis8 : Cond.instantiable RX8 6 ∈ lw_tbl := List.mem_of_getElem? (i := 142) (by decide +kernel)
theorem zis9 : Cond.instantiable RX9 4 ∈ lw_tbl := List.mem_of_getElem? (i := 148) (by decide +kernel)
theorem zis10 : Cond.instantiable RX10 8 ∈ lw_tbl := List.mem_of_getElem? (i := 282) (by decide +kernel)
theorem zis11 : Cond.instantiable RX11 14 ∈ lw_tbl := List.mem_of_getElem? (i := 128) (by decide +kernel)
theorem zis12 : Cond.instantiable RX12 82 ∈ lw_tbl := List.mem_of_getElem? (i := 1236) (by decide +kernel)
theorem zis : ∀ (ci : Nat) (q : vw_C), zCl[ci]? = some q → Cond.instantiable q.1 q.2.2 ∈ lw_tbl
  | 0, _, h => by cases h; exact zis0
  | 1, _, h => by cases h; exact zis1
  | 2, _, h => by cases h; exact zis2
  | 3, _, h => by cases h; exact zis3
  | 4, _, h => by cases h; exact zis4
  | 5, _, h => by cases h; exact zis5
  | 6, _, h => by cases h; exact zis6
  | 7, _, h => by cases h; exact zis7
  | 8, _, h => by cases h; exact zis8
  | 9, _, h => by cases h; exact zis9
  | 10, _, h => by cases h; exact zis10
  | 11, _, h => by cases h; exact zis11
  | 12, _, h => by cases h; exact zis12
  | n + 13, q, h => by simp [zCl] at h
theorem zprim {args : Array Value} {s : State} {ty : FieldType} (hp : ∀ n, ty ≠ .object n) (h : (Cond.arrayClass ty).before args s = true) : ∃ c : ClassId, ArrOfT s c ty ∧ va_RA s c ty := by
  obtain ⟨c, k, comp, h1, h2, h3⟩ := Cond.arrayClass_spec h
  refine ⟨c, fun n z => ⟨fun k h => (by cases h), k, h2, comp, h3⟩, ?_⟩
  cases ty with
  | object n => exact absurd rfl (hp n)
  | _ => exact h1
set_option maxHeartbeats 4000000 in
theorem whole_from (hpure : ∀ (L : Nat) (xs : Nat → Int32), L ≤ 3072 → ∃ (d : Nat) (Mf : zM), d ≤ 1000 ∧ evk zcod (some (L, xs)) d zc_law 0 [(0, .ref 1)] [] zM0 = some (some (.int 1), Mf) ∧ Mf.1.1 ≤ 600000 ∧ Mf.1.2.1 ≤ 7302250)
    {p : Program} {e : Env} {s : State} {m : MethodId} {below : List Frame} {meth : Method} {c : Code} (l : Launch) {b L : Nat} {xs : Nat → Int32} (hL : L ≤ 3072) (C0 : lw_At p s m meth c b L xs) : W p l e room_1 s m #[Value.ref b] below meth c s.heap [] 0 0 (lw_Z below #[Value.ref b] s) (entryFrame m ([Value.ref b] : List Value).toArray 4) := by
  obtain ⟨hx, hb, hr, hml, hown, hts, hX, hbl, hlocks, hgv⟩ := C0
  obtain ⟨d, Mf, hd, hev, hc1, hc2⟩ := hpure L xs hL
  obtain ⟨n, hex⟩ := evk_ex hev
  have hn := flat_of_before _ hgv
  have hK0 : ∀ ci : Nat, ∃ (cC : ClassId), ∃ (iS : Nat → Nat), ∀ q, zCl[ci]? = some q → u_Kn s q.1 q.2.1 q.2.2 cC iS := fun ci => by
    cases hq : zCl[ci]? with
    | none => exact ⟨0, fun _ => 0, fun q h => by cases h⟩
    | some q =>
      obtain ⟨cC, iS, h⟩ := u_known hts (zcl_ok ci q hq).1 (hts _ (zis ci q hq))
      exact ⟨cC, iS, fun q' h' => by cases h'; exact h⟩
  obtain ⟨dC, hK1⟩ := Classical.skolem.mp hK0
  obtain ⟨dI, hK2⟩ := Classical.skolem.mp hK1
  obtain ⟨a0, r0⟩ := zprim (s := s) (ty := .int) (fun _ h => by cases h) (hts _ zac20)
  obtain ⟨a1, r1⟩ := zprim (s := s) (ty := .byte) (fun _ h => by cases h) (hts _ zac21)
  obtain ⟨a2, r2⟩ := zprim (s := s) (ty := .boolean) (fun _ h => by cases h) (hts _ zac22)
  obtain ⟨a3, r3⟩ := zprim (s := s) (ty := .long) (fun _ h => by cases h) (hts _ zac23)
  obtain ⟨p4, a4, k4, q1, q2, q3, q4, q5⟩ := Cond.arrayOver_spec (hts _ zac24)
  obtain ⟨p5, a5, k5, u1, u2, u3⟩ := zarrA (hts _ zac25)
  let cA : Nat → ClassId := fun k => if k = 20 then a0 else if k = 21 then a1 else if k = 22 then a2 else if k = 23 then a3 else if k = 24 then a4 else a5
  have hK : va_K (dC, dI) zCl (ztys cA) s := by
    refine ⟨fun ci q hq => hK2 ci q hq, fun k q hq => ?_⟩
    match k, hq with
    | 0, hq => cases hq; exact r0
    | 1, hq => cases hq; exact r1
    | 2, hq => cases hq; exact r2
    | 3, hq => cases hq; exact r3
    | 4, hq => cases hq; exact ⟨fun N z => ⟨(fun k h => by cases h), k4, q3, p4, q4⟩, k4, p4, q3, q4, q1, q5⟩
    | 5, hq => cases hq; exact ⟨fun N z => ⟨(fun k h => by cases h), k5, u1, p5, u2⟩, u3⟩
    | k + 6, hq => simp [ztys] at hq
  have hA0 : ∀ a : Nat, a < s.heap.size → ¬ s.heap.size ≤ a := fun a h => Nat.not_le.mpr h
  obtain ⟨adK, adV, hS, hev2⟩ := vk_Sof (N := 2) (tm := ztm) (len := [112, 9]) (byt := [zby 4, zby 5]) (A := fun q => s.heap.size ≤ q) (fun i hi => by
    rcases (show i = 0 ∨ i = 1 by omega) with rfl | rfl <;> decide) (fun i hi => hn _ (zex i hi)) (fun i hi => hn _ (zco i hi)) (fun i hi => hn _ (zar i hi)) (fun i hi => hn _ (zle i hi)) (fun i hi j hj => hn _ (zel i hi j hj)) (fun i j hi hj hne => by
    rcases (show (i = 0 ∧ j = 1) ∨ (i = 1 ∧ j = 0) by omega) with ⟨rfl, rfl⟩ | ⟨rfl, rfl⟩
    · exact Or.inl (hn _ zne)
    · exact Or.inr (hn _ zne)) hA0
  have hZ0 := va_Zof (A := fun q => s.heap.size ≤ q) (hts _ zls0) (hts _ zin0) (va_eqi (hn _ zcs)) hA0
  obtain ⟨fv, hfv, hZ1⟩ : ∃ fv : Value, (fv = .null ∨ ∃ t, fv = .ref t) ∧ va_Z "jdk/internal/util/Preconditions" "SIOOBE_FORMATTER" "Ljava/util/function/BiFunction;" fv (fun q => s.heap.size ≤ q) s s.heap := by
    rcases va_Zqof (A := fun q => s.heap.size ≤ q) (hts _ zls1) (hts _ zin1) (hn _ zsf) hA0 with h | ⟨t, h⟩
    · exact ⟨.null, Or.inl rfl, h⟩
    · exact ⟨.ref t, Or.inr ⟨t, rfl⟩, h⟩
  let ad0 : Nat → Nat := fun r => if r = 1 then b else if r = 2 then adK 0 else if r = 3 then adK 1 else if r = 4 then adV 0 else if r = 5 then adV 1 else 0
  have hzX : zX ad0 fv (fun q => s.heap.size ≤ q) s s.heap := by
    refine ⟨⟨fun i hi => ?_, fun i j hi hj hij => ?_⟩, vk_R.of (hts _ zws0) (hev2 0 (by omega)), vk_R.of (hts _ zws1) (hev2 1 (by omega)), hZ0, hZ1⟩
    · rcases (show i = 0 ∨ i = 1 by omega) with rfl | rfl
      · exact hS.1 0 (by omega)
      · exact hS.1 1 (by omega)
    · rcases (show i = 0 ∨ i = 1 by omega) with rfl | rfl <;> rcases (show j = 0 ∨ j = 1 by omega) with rfl | rfl
      · rfl
      · exact hS.2 0 1 (by omega) (by omega) hij
      · exact hS.2 1 0 (by omega) (by omega) hij
      · rfl
  have C : zCx p room_1 s m #[Value.ref b] meth c "SilkRiseLaw" code 4 false (dC, dI) cA fv (fun q => s.heap.size ≤ q) ad0 d :=
    ⟨hx, hb, hml, hown, fun w hw => hts w (zTb_in w hw), hK, fun q h => h, (fun h => by cases h), hzX, hfv, by show d + 1 ≤ 2048; omega, by show 60 * d + 60 ≤ 84000; omega⟩
  have hl := lv_entry ([.ref b]) (n := 4) (Nat.le_of_ble_eq_true rfl)
  rw [lg_entry_eq]
  have hgo := exe_sound (p := p) (l := l) (e := e) (below := below) (Q := lw_Z below #[Value.ref b] s) (rr := (some (.int 1), Mf)) (M0 := zM0) (rt := some .boolean) (sc := some (L, xs)) (cal := mth zcod n d) (cd := zc_law) C (fun L' xs' q => by cases q; exact ⟨hX, hbl, Nat.not_le.mpr hbl⟩)
    (fun z as M v M1 h => mth_sound zmok_all zcok_all l n d z as M v M1 h) ⟨by show Mf.1.1 - 0 ≤ 600000; omega, by show Mf.1.2.1 - 0 ≤ 7302250; omega⟩ zmok_all ?_ (fun ee hee => List.all_eq_true.mp zlok ee hee) (mth_Bd zcod n d) n 0 [(0, .ref 1)] [] zM0 hex
  · exact hgo ad0 s.heap [] _ (fun _ _ => rfl) (Nat.le_refl _) (Nat.le_refl _) ⟨fun _ _ => Nat.zero_lt_succ _, fun _ => by show 0 < 30; omega⟩ (fun k q h => by simp [zws, zM0] at h) ⟨fun i j p q h => by simp [zws, zM0] at h, fun k q h => by simp [zws, zM0] at h⟩ va_S.rf hl
  · intro ad1 H locs L1 pc st a1 a2 a3 a4 a5 a6 a7 hz1
    rcases hz1 with ⟨hdg, x, hv, rfl, ty, ht, hn⟩ | ⟨hdg, x, hv, rfl, ht⟩ | ⟨hdg, hv, rfl, ht⟩
    · have hx1 : x = 1 := by cases hv; rfl
      subst hx1
      exact va_forget (fun q hq => a7.2.2 q hq) (W.widen (k := 600000) (n := 7302250) (by show Mf.1.1 - 0 ≤ 600000; omega) (by show Mf.1.2.1 - 0 ≤ 7302250; omega) (lw_ret hx hb hr hlocks hdg))
    · cases ht
    · cases ht
end
section
/-! the memory as three: S what is made (no method but the constructors makes anything), I the ints, L the longs -/
abbrev mS : Type := Nat × Nat × (Nat → Nat) × (Nat → Nat) × (Nat → Nat → Nat)
abbrev mI : Type := Nat → Nat → Int32
abbrev mJ : Type := Nat → Nat → Int64
def kK (S : mS) (r : Nat) : Nat := if r < 7 then (if r = 2 then 30 else if r = 3 then 30 else if r = 4 then 31 else if r = 5 then 31 else 99) else if r < S.1 + 7 then S.2.2.1 r else 99
def kN (S : mS) (r : Nat) : Nat := S.2.2.2.1 r
def kR (S : mS) (r j : Nat) : Nat := S.2.2.2.2 r j
def uI (I : mI) (r j : Nat) (x : Int32) : mI := fun a b => if a = r ∧ b = j then x else I a b
def uL (I : mJ) (r j : Nat) (x : Int64) : mJ := fun a b => if a = r ∧ b = j then x else I a b
def cpI (I : mI) (src sp dst dp n : Nat) : mI := fun a b => if a = dst ∧ dp ≤ b ∧ b < dp + n then I src (sp + (b - dp)) else I a b
abbrev zrem (x y : Int32) : Int32 := x - x / y * y
theorem bI_eq {x : Int32} {M : zM} {f : Int32 → zM → Option zR} : bI (some (some (.int x), M)) f = f x M := rfl
theorem bL_eq {x : Int64} {M : zM} {f : Int64 → zM → Option zR} : bL (some (some (.long x), M)) f = f x M := rfl
theorem bV_eq {M : zM} {f : zM → Option zR} : bV (some (none, M)) f = f M := rfl
theorem zix_nI {n : Nat} (h : n < 2 ^ 31) : zix (nI n) = n := nI_clamp h
theorem zin_nI {n N : Nat} (h : n < 2 ^ 31) : zin (nI n) N ↔ n < N := by
  unfold zin
  rw [nI_toInt h]
  omega
theorem uI_at (I : mI) (r j : Nat) (x : Int32) (a b : Nat) : uI I r j x a b = if a = r ∧ b = j then x else I a b := rfl
theorem uI_same (I : mI) (r j : Nat) (x : Int32) : uI I r j x r j = x := if_pos ⟨rfl, rfl⟩
theorem uI_off {I : mI} {r j : Nat} {x : Int32} {a b : Nat} (h : a ≠ r) : uI I r j x a b = I a b := if_neg fun q => h q.1
theorem uI_ix {I : mI} {r j : Nat} {x : Int32} {a b : Nat} (h : b ≠ j) : uI I r j x a b = I a b := if_neg fun q => h q.2
theorem uL_at (I : mJ) (r j : Nat) (x : Int64) (a b : Nat) : uL I r j x a b = if a = r ∧ b = j then x else I a b := rfl
theorem uL_off {I : mJ} {r j : Nat} {x : Int64} {a b : Nat} (h : a ≠ r) : uL I r j x a b = I a b := if_neg fun q => h q.1
theorem cpI_at (I : mI) (src sp dst dp n a b : Nat) : cpI I src sp dst dp n a b = if a = dst ∧ dp ≤ b ∧ b < dp + n then I src (sp + (b - dp)) else I a b := rfl
theorem cpI_off {I : mI} {src sp dst dp n a b : Nat} (h : a ≠ dst) : cpI I src sp dst dp n a b = I a b := if_neg fun q => h q.1
/-- J is I but at the places of A -/
def Fi (A : Nat → Nat → Prop) (I J : mI) : Prop := ∀ a j, ¬ A a j → J a j = I a j
theorem Fi.rf {A : Nat → Nat → Prop} {I : mI} : Fi A I I := fun _ _ _ => rfl
theorem Fi.tr {A : Nat → Nat → Prop} {I J K : mI} (h : Fi A I J) (h2 : Fi A J K) : Fi A I K := fun a j ha => (h2 a j ha).trans (h a j ha)
theorem Fi.up {A B : Nat → Nat → Prop} {I J : mI} (h : Fi A I J) (q : ∀ a j, A a j → B a j) : Fi B I J := fun a j ha => h a j fun z => ha (q a j z)
theorem Fi.u {A : Nat → Nat → Prop} {I J : mI} {r k : Nat} {x : Int32} (h : Fi A I J) (q : A r k) : Fi A I (uI J r k x) := fun a j ha => by
  rw [← h a j ha, uI_at]
  exact if_neg fun z => ha (z.1 ▸ z.2 ▸ q)
theorem Fi.c {A : Nat → Nat → Prop} {I J : mI} {src sp dst dp n : Nat} (h : Fi A I J) (q : ∀ j, A dst j) : Fi A I (cpI J src sp dst dp n) := fun a j ha => by
  rw [← h a j ha, cpI_at]
  exact if_neg fun z => ha (z.1 ▸ q j)
theorem Fi.row {A : Nat → Nat → Prop} {I J : mI} (h : Fi A I J) (a : Nat) (q : ∀ j, ¬ A a j) : J a = I a := funext fun j => h a j (q j)
def uR (S : mS) (r j x : Nat) : mS := (S.1, S.2.1, S.2.2.1, S.2.2.2.1, fun a b => if a = r ∧ b = j then x else S.2.2.2.2 a b)
end
