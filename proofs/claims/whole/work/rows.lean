section
-- ===== PART A: goes FIRST, ahead of the names: the tables' words, and 'selects' of the private methods out of them =====
/-- a private method of a class that the tables say can be made, by its rows of tables_1 -/
def lw_okq (q : MethodName × Nat) : Prop := (q.1.cls ≠ "java/lang/invoke/MethodHandle" ∧ q.1.cls ≠ "java/lang/invoke/VarHandle") ∧ Cond.instantiable q.1.cls q.2 ∈ tables_1 ∧ Cond.privateMethod q.1 ∈ tables_1 ∧ Cond.instanceMethod q.1 ∈ tables_1
theorem lw_p0 : lw_okq (⟨"SilkRise", "appendBytes", "(I)V"⟩, 14) := ⟨⟨by decide +kernel, by decide +kernel⟩, List.mem_of_getElem? (i := 23) (by decide +kernel), List.mem_of_getElem? (i := 467) (by decide +kernel), List.mem_of_getElem? (i := 468) (by decide +kernel)⟩
theorem lw_p1 : lw_okq (⟨"SilkRise$Tokens", "scanOne", "()V"⟩, 8) := ⟨⟨by decide +kernel, by decide +kernel⟩, List.mem_of_getElem? (i := 177) (by decide +kernel), List.mem_of_getElem? (i := 494) (by decide +kernel), List.mem_of_getElem? (i := 495) (by decide +kernel)⟩
theorem lw_p2 : lw_okq (⟨"SilkRise$Tokens", "byteAt", "(I)I"⟩, 8) := ⟨⟨by decide +kernel, by decide +kernel⟩, List.mem_of_getElem? (i := 177) (by decide +kernel), List.mem_of_getElem? (i := 498) (by decide +kernel), List.mem_of_getElem? (i := 499) (by decide +kernel)⟩
theorem lw_p3 : lw_okq (⟨"SilkRise$Tokens", "add", "(IIJ)V"⟩, 8) := ⟨⟨by decide +kernel, by decide +kernel⟩, List.mem_of_getElem? (i := 177) (by decide +kernel), List.mem_of_getElem? (i := 505) (by decide +kernel), List.mem_of_getElem? (i := 506) (by decide +kernel)⟩
theorem lw_p4 : lw_okq (⟨"SilkRise$Tokens", "scanLetters", "()V"⟩, 8) := ⟨⟨by decide +kernel, by decide +kernel⟩, List.mem_of_getElem? (i := 177) (by decide +kernel), List.mem_of_getElem? (i := 512) (by decide +kernel), List.mem_of_getElem? (i := 513) (by decide +kernel)⟩
theorem lw_p5 : lw_okq (⟨"SilkRise$Tokens", "kindOf", "(J)I"⟩, 8) := ⟨⟨by decide +kernel, by decide +kernel⟩, List.mem_of_getElem? (i := 177) (by decide +kernel), List.mem_of_getElem? (i := 516) (by decide +kernel), List.mem_of_getElem? (i := 517) (by decide +kernel)⟩
theorem lw_p6 : lw_okq (⟨"SilkRise$Tokens", "scanDigits", "()V"⟩, 8) := ⟨⟨by decide +kernel, by decide +kernel⟩, List.mem_of_getElem? (i := 177) (by decide +kernel), List.mem_of_getElem? (i := 523) (by decide +kernel), List.mem_of_getElem? (i := 524) (by decide +kernel)⟩
theorem lw_p7 : lw_okq (⟨"SilkRise$Reader", "statement", "()V"⟩, 10) := ⟨⟨by decide +kernel, by decide +kernel⟩, List.mem_of_getElem? (i := 171) (by decide +kernel), List.mem_of_getElem? (i := 589) (by decide +kernel), List.mem_of_getElem? (i := 590) (by decide +kernel)⟩
theorem lw_p8 : lw_okq (⟨"SilkRise$Reader", "loadStatement", "()V"⟩, 10) := ⟨⟨by decide +kernel, by decide +kernel⟩, List.mem_of_getElem? (i := 171) (by decide +kernel), List.mem_of_getElem? (i := 593) (by decide +kernel), List.mem_of_getElem? (i := 594) (by decide +kernel)⟩
theorem lw_p9 : lw_okq (⟨"SilkRise$Reader", "takeFirst", "(LSilkRise$Things;)V"⟩, 10) := ⟨⟨by decide +kernel, by decide +kernel⟩, List.mem_of_getElem? (i := 171) (by decide +kernel), List.mem_of_getElem? (i := 597) (by decide +kernel), List.mem_of_getElem? (i := 598) (by decide +kernel)⟩
theorem lw_p10 : lw_okq (⟨"SilkRise$Reader", "fail", "(I)V"⟩, 10) := ⟨⟨by decide +kernel, by decide +kernel⟩, List.mem_of_getElem? (i := 171) (by decide +kernel), List.mem_of_getElem? (i := 605) (by decide +kernel), List.mem_of_getElem? (i := 606) (by decide +kernel)⟩
theorem lw_p11 : lw_okq (⟨"SilkRise$Reader", "take", "(I)Z"⟩, 10) := ⟨⟨by decide +kernel, by decide +kernel⟩, List.mem_of_getElem? (i := 171) (by decide +kernel), List.mem_of_getElem? (i := 613) (by decide +kernel), List.mem_of_getElem? (i := 614) (by decide +kernel)⟩
theorem lw_p12 : lw_okq (⟨"SilkRise$Reader", "takeName", "()V"⟩, 10) := ⟨⟨by decide +kernel, by decide +kernel⟩, List.mem_of_getElem? (i := 171) (by decide +kernel), List.mem_of_getElem? (i := 617) (by decide +kernel), List.mem_of_getElem? (i := 618) (by decide +kernel)⟩
theorem lw_p13 : lw_okq (⟨"SilkRise$Reader", "failLate", "(II)V"⟩, 10) := ⟨⟨by decide +kernel, by decide +kernel⟩, List.mem_of_getElem? (i := 171) (by decide +kernel), List.mem_of_getElem? (i := 625) (by decide +kernel), List.mem_of_getElem? (i := 626) (by decide +kernel)⟩
theorem lw_p14 : lw_okq (⟨"SilkRise$Reader", "takeNumber", "(III)I"⟩, 10) := ⟨⟨by decide +kernel, by decide +kernel⟩, List.mem_of_getElem? (i := 171) (by decide +kernel), List.mem_of_getElem? (i := 638) (by decide +kernel), List.mem_of_getElem? (i := 639) (by decide +kernel)⟩
theorem lw_p15 : lw_okq (⟨"SilkRise$Reader", "silkStatement", "()V"⟩, 10) := ⟨⟨by decide +kernel, by decide +kernel⟩, List.mem_of_getElem? (i := 171) (by decide +kernel), List.mem_of_getElem? (i := 644) (by decide +kernel), List.mem_of_getElem? (i := 645) (by decide +kernel)⟩
def lw_privs_1 : List (MethodName × Nat) := [(⟨"SilkRise", "appendBytes", "(I)V"⟩, 14), (⟨"SilkRise$Tokens", "scanOne", "()V"⟩, 8), (⟨"SilkRise$Tokens", "byteAt", "(I)I"⟩, 8), (⟨"SilkRise$Tokens", "add", "(IIJ)V"⟩, 8), (⟨"SilkRise$Tokens", "scanLetters", "()V"⟩, 8), (⟨"SilkRise$Tokens", "kindOf", "(J)I"⟩, 8), (⟨"SilkRise$Tokens", "scanDigits", "()V"⟩, 8), (⟨"SilkRise$Reader", "statement", "()V"⟩, 10), (⟨"SilkRise$Reader", "loadStatement", "()V"⟩, 10), (⟨"SilkRise$Reader", "takeFirst", "(LSilkRise$Things;)V"⟩, 10), (⟨"SilkRise$Reader", "fail", "(I)V"⟩, 10), (⟨"SilkRise$Reader", "take", "(I)Z"⟩, 10), (⟨"SilkRise$Reader", "takeName", "()V"⟩, 10), (⟨"SilkRise$Reader", "failLate", "(II)V"⟩, 10), (⟨"SilkRise$Reader", "takeNumber", "(III)I"⟩, 10), (⟨"SilkRise$Reader", "silkStatement", "()V"⟩, 10)]
theorem lw_r1 : ∀ q ∈ lw_privs_1, lw_okq q := List.forall_mem_cons.mpr ⟨lw_p0, List.forall_mem_cons.mpr ⟨lw_p1, List.forall_mem_cons.mpr ⟨lw_p2, List.forall_mem_cons.mpr ⟨lw_p3, List.forall_mem_cons.mpr ⟨lw_p4, List.forall_mem_cons.mpr ⟨lw_p5, List.forall_mem_cons.mpr ⟨lw_p6, List.forall_mem_cons.mpr ⟨lw_p7, List.forall_mem_cons.mpr ⟨lw_p8, List.forall_mem_cons.mpr ⟨lw_p9, List.forall_mem_cons.mpr ⟨lw_p10, List.forall_mem_cons.mpr ⟨lw_p11, List.forall_mem_cons.mpr ⟨lw_p12, List.forall_mem_cons.mpr ⟨lw_p13, List.forall_mem_cons.mpr ⟨lw_p14, List.forall_mem_cons.mpr ⟨lw_p15, fun _ h => absurd h List.not_mem_nil⟩⟩⟩⟩⟩⟩⟩⟩⟩⟩⟩⟩⟩⟩⟩⟩
theorem lw_p16 : lw_okq (⟨"SilkRise$Reader", "hookStatement", "()V"⟩, 10) := ⟨⟨by decide +kernel, by decide +kernel⟩, List.mem_of_getElem? (i := 171) (by decide +kernel), List.mem_of_getElem? (i := 648) (by decide +kernel), List.mem_of_getElem? (i := 649) (by decide +kernel)⟩
theorem lw_p17 : lw_okq (⟨"SilkRise$Reader", "setting", "(II)I"⟩, 10) := ⟨⟨by decide +kernel, by decide +kernel⟩, List.mem_of_getElem? (i := 171) (by decide +kernel), List.mem_of_getElem? (i := 652) (by decide +kernel), List.mem_of_getElem? (i := 653) (by decide +kernel)⟩
theorem lw_p18 : lw_okq (⟨"SilkRise$Reader", "lawStatement", "(I)V"⟩, 10) := ⟨⟨by decide +kernel, by decide +kernel⟩, List.mem_of_getElem? (i := 171) (by decide +kernel), List.mem_of_getElem? (i := 656) (by decide +kernel), List.mem_of_getElem? (i := 657) (by decide +kernel)⟩
theorem lw_p19 : lw_okq (⟨"SilkRise$Reader", "sum", "(I)V"⟩, 10) := ⟨⟨by decide +kernel, by decide +kernel⟩, List.mem_of_getElem? (i := 171) (by decide +kernel), List.mem_of_getElem? (i := 661) (by decide +kernel), List.mem_of_getElem? (i := 662) (by decide +kernel)⟩
theorem lw_p20 : lw_okq (⟨"SilkRise$Reader", "product", "(I)V"⟩, 10) := ⟨⟨by decide +kernel, by decide +kernel⟩, List.mem_of_getElem? (i := 171) (by decide +kernel), List.mem_of_getElem? (i := 665) (by decide +kernel), List.mem_of_getElem? (i := 666) (by decide +kernel)⟩
theorem lw_p21 : lw_okq (⟨"SilkRise$Reader", "unit", "(I)V"⟩, 10) := ⟨⟨by decide +kernel, by decide +kernel⟩, List.mem_of_getElem? (i := 171) (by decide +kernel), List.mem_of_getElem? (i := 669) (by decide +kernel), List.mem_of_getElem? (i := 670) (by decide +kernel)⟩
theorem lw_p22 : lw_okq (⟨"SilkRise$Sky", "look", "(IIIII)V"⟩, 3) := ⟨⟨by decide +kernel, by decide +kernel⟩, List.mem_of_getElem? (i := 295) (by decide +kernel), List.mem_of_getElem? (i := 776) (by decide +kernel), List.mem_of_getElem? (i := 777) (by decide +kernel)⟩
theorem lw_p23 : lw_okq (⟨"SilkRise$Sky", "valueOf", "(I)I"⟩, 3) := ⟨⟨by decide +kernel, by decide +kernel⟩, List.mem_of_getElem? (i := 295) (by decide +kernel), List.mem_of_getElem? (i := 780) (by decide +kernel), List.mem_of_getElem? (i := 781) (by decide +kernel)⟩
theorem lw_p24 : lw_okq (⟨"SilkRise$Sky", "varOf", "(I)I"⟩, 3) := ⟨⟨by decide +kernel, by decide +kernel⟩, List.mem_of_getElem? (i := 295) (by decide +kernel), List.mem_of_getElem? (i := 796) (by decide +kernel), List.mem_of_getElem? (i := 797) (by decide +kernel)⟩
theorem lw_p25 : lw_okq (⟨"SilkRise$Sky", "onStack", "(I)I"⟩, 3) := ⟨⟨by decide +kernel, by decide +kernel⟩, List.mem_of_getElem? (i := 295) (by decide +kernel), List.mem_of_getElem? (i := 800) (by decide +kernel), List.mem_of_getElem? (i := 801) (by decide +kernel)⟩
theorem lw_p26 : lw_okq (⟨"SilkRise", "isPair", "(II)Z"⟩, 14) := ⟨⟨by decide +kernel, by decide +kernel⟩, List.mem_of_getElem? (i := 23) (by decide +kernel), List.mem_of_getElem? (i := 828) (by decide +kernel), List.mem_of_getElem? (i := 829) (by decide +kernel)⟩
theorem lw_p27 : lw_okq (⟨"SilkRise$Air", "passOne", "(LSilkRise$State;Z)V"⟩, 3) := ⟨⟨by decide +kernel, by decide +kernel⟩, List.mem_of_getElem? (i := 311) (by decide +kernel), List.mem_of_getElem? (i := 883) (by decide +kernel), List.mem_of_getElem? (i := 884) (by decide +kernel)⟩
theorem lw_p28 : lw_okq (⟨"SilkRise$Air", "drift", "(LSilkRise$State;IZ)V"⟩, 3) := ⟨⟨by decide +kernel, by decide +kernel⟩, List.mem_of_getElem? (i := 311) (by decide +kernel), List.mem_of_getElem? (i := 891) (by decide +kernel), List.mem_of_getElem? (i := 892) (by decide +kernel)⟩
theorem lw_p29 : lw_okq (⟨"SilkRise$Air", "comeToRim", "(LSilkRise$State;I)V"⟩, 3) := ⟨⟨by decide +kernel, by decide +kernel⟩, List.mem_of_getElem? (i := 311) (by decide +kernel), List.mem_of_getElem? (i := 900) (by decide +kernel), List.mem_of_getElem? (i := 901) (by decide +kernel)⟩
theorem lw_p30 : lw_okq (⟨"SilkRise$Air", "busyHooks", "(LSilkRise$State;)I"⟩, 3) := ⟨⟨by decide +kernel, by decide +kernel⟩, List.mem_of_getElem? (i := 311) (by decide +kernel), List.mem_of_getElem? (i := 904) (by decide +kernel), List.mem_of_getElem? (i := 905) (by decide +kernel)⟩
theorem lw_p31 : lw_okq (⟨"SilkRise$Course", "endAt", "(II)V"⟩, 8) := ⟨⟨by decide +kernel, by decide +kernel⟩, List.mem_of_getElem? (i := 327) (by decide +kernel), List.mem_of_getElem? (i := 946) (by decide +kernel), List.mem_of_getElem? (i := 947) (by decide +kernel)⟩
def lw_privs_2 : List (MethodName × Nat) := [(⟨"SilkRise$Reader", "hookStatement", "()V"⟩, 10), (⟨"SilkRise$Reader", "setting", "(II)I"⟩, 10), (⟨"SilkRise$Reader", "lawStatement", "(I)V"⟩, 10), (⟨"SilkRise$Reader", "sum", "(I)V"⟩, 10), (⟨"SilkRise$Reader", "product", "(I)V"⟩, 10), (⟨"SilkRise$Reader", "unit", "(I)V"⟩, 10), (⟨"SilkRise$Sky", "look", "(IIIII)V"⟩, 3), (⟨"SilkRise$Sky", "valueOf", "(I)I"⟩, 3), (⟨"SilkRise$Sky", "varOf", "(I)I"⟩, 3), (⟨"SilkRise$Sky", "onStack", "(I)I"⟩, 3), (⟨"SilkRise", "isPair", "(II)Z"⟩, 14), (⟨"SilkRise$Air", "passOne", "(LSilkRise$State;Z)V"⟩, 3), (⟨"SilkRise$Air", "drift", "(LSilkRise$State;IZ)V"⟩, 3), (⟨"SilkRise$Air", "comeToRim", "(LSilkRise$State;I)V"⟩, 3), (⟨"SilkRise$Air", "busyHooks", "(LSilkRise$State;)I"⟩, 3), (⟨"SilkRise$Course", "endAt", "(II)V"⟩, 8)]
theorem lw_r2 : ∀ q ∈ lw_privs_2, lw_okq q := List.forall_mem_cons.mpr ⟨lw_p16, List.forall_mem_cons.mpr ⟨lw_p17, List.forall_mem_cons.mpr ⟨lw_p18, List.forall_mem_cons.mpr ⟨lw_p19, List.forall_mem_cons.mpr ⟨lw_p20, List.forall_mem_cons.mpr ⟨lw_p21, List.forall_mem_cons.mpr ⟨lw_p22, List.forall_mem_cons.mpr ⟨lw_p23, List.forall_mem_cons.mpr ⟨lw_p24, List.forall_mem_cons.mpr ⟨lw_p25, List.forall_mem_cons.mpr ⟨lw_p26, List.forall_mem_cons.mpr ⟨lw_p27, List.forall_mem_cons.mpr ⟨lw_p28, List.forall_mem_cons.mpr ⟨lw_p29, List.forall_mem_cons.mpr ⟨lw_p30, List.forall_mem_cons.mpr ⟨lw_p31, fun _ h => absurd h List.not_mem_nil⟩⟩⟩⟩⟩⟩⟩⟩⟩⟩⟩⟩⟩⟩⟩⟩
theorem lw_p32 : lw_okq (⟨"SilkRise", "comesTo", "(IIII)Z"⟩, 14) := ⟨⟨by decide +kernel, by decide +kernel⟩, List.mem_of_getElem? (i := 23) (by decide +kernel), List.mem_of_getElem? (i := 960) (by decide +kernel), List.mem_of_getElem? (i := 961) (by decide +kernel)⟩
theorem lw_p33 : lw_okq (⟨"SilkRise$Filling", "gainOf", "(II)I"⟩, 6) := ⟨⟨by decide +kernel, by decide +kernel⟩, List.mem_of_getElem? (i := 366) (by decide +kernel), List.mem_of_getElem? (i := 988) (by decide +kernel), List.mem_of_getElem? (i := 989) (by decide +kernel)⟩
theorem lw_p34 : lw_okq (⟨"SilkRise$Filling", "bestFrom", "(II)I"⟩, 6) := ⟨⟨by decide +kernel, by decide +kernel⟩, List.mem_of_getElem? (i := 366) (by decide +kernel), List.mem_of_getElem? (i := 999) (by decide +kernel), List.mem_of_getElem? (i := 1000) (by decide +kernel)⟩
theorem lw_p35 : lw_okq (⟨"SilkRise$Filling", "sumBy", "(III)I"⟩, 6) := ⟨⟨by decide +kernel, by decide +kernel⟩, List.mem_of_getElem? (i := 366) (by decide +kernel), List.mem_of_getElem? (i := 1003) (by decide +kernel), List.mem_of_getElem? (i := 1004) (by decide +kernel)⟩
theorem lw_p36 : lw_okq (⟨"SilkRise$Filling", "firstBest", "(II)I"⟩, 6) := ⟨⟨by decide +kernel, by decide +kernel⟩, List.mem_of_getElem? (i := 366) (by decide +kernel), List.mem_of_getElem? (i := 1016) (by decide +kernel), List.mem_of_getElem? (i := 1017) (by decide +kernel)⟩
theorem lw_p37 : lw_okq (⟨"SilkRise$Filling", "hooksFor", "(II)I"⟩, 6) := ⟨⟨by decide +kernel, by decide +kernel⟩, List.mem_of_getElem? (i := 366) (by decide +kernel), List.mem_of_getElem? (i := 1029) (by decide +kernel), List.mem_of_getElem? (i := 1030) (by decide +kernel)⟩
theorem lw_p38 : lw_okq (⟨"SilkRise", "gainBehind", "(III)I"⟩, 14) := ⟨⟨by decide +kernel, by decide +kernel⟩, List.mem_of_getElem? (i := 23) (by decide +kernel), List.mem_of_getElem? (i := 1047) (by decide +kernel), List.mem_of_getElem? (i := 1048) (by decide +kernel)⟩
theorem lw_p39 : lw_okq (⟨"SilkRise", "tryHours", "(II)V"⟩, 14) := ⟨⟨by decide +kernel, by decide +kernel⟩, List.mem_of_getElem? (i := 23) (by decide +kernel), List.mem_of_getElem? (i := 1055) (by decide +kernel), List.mem_of_getElem? (i := 1056) (by decide +kernel)⟩
theorem lw_p40 : lw_okq (⟨"SilkRise", "pullsKnownBy", "(I)I"⟩, 14) := ⟨⟨by decide +kernel, by decide +kernel⟩, List.mem_of_getElem? (i := 23) (by decide +kernel), List.mem_of_getElem? (i := 1081) (by decide +kernel), List.mem_of_getElem? (i := 1082) (by decide +kernel)⟩
theorem lw_p41 : lw_okq (⟨"SilkRise", "fitsKnown", "(II)Z"⟩, 14) := ⟨⟨by decide +kernel, by decide +kernel⟩, List.mem_of_getElem? (i := 23) (by decide +kernel), List.mem_of_getElem? (i := 1085) (by decide +kernel), List.mem_of_getElem? (i := 1086) (by decide +kernel)⟩
theorem lw_p42 : lw_okq (⟨"SilkRise$Past", "isSlot", "(I)Z"⟩, 5) := ⟨⟨by decide +kernel, by decide +kernel⟩, List.mem_of_getElem? (i := 393) (by decide +kernel), List.mem_of_getElem? (i := 1104) (by decide +kernel), List.mem_of_getElem? (i := 1105) (by decide +kernel)⟩
theorem lw_p43 : lw_okq (⟨"SilkRiseModel", "plain", "(I)V"⟩, 82) := ⟨⟨by decide +kernel, by decide +kernel⟩, List.mem_of_getElem? (i := 1131) (by decide +kernel), List.mem_of_getElem? (i := 1137) (by decide +kernel), List.mem_of_getElem? (i := 1138) (by decide +kernel)⟩
theorem lw_p44 : lw_okq (⟨"SilkRiseModel", "begins", "()V"⟩, 82) := ⟨⟨by decide +kernel, by decide +kernel⟩, List.mem_of_getElem? (i := 1131) (by decide +kernel), List.mem_of_getElem? (i := 1148) (by decide +kernel), List.mem_of_getElem? (i := 1149) (by decide +kernel)⟩
theorem lw_p45 : lw_okq (⟨"SilkRiseModel", "keepsRow", "()V"⟩, 82) := ⟨⟨by decide +kernel, by decide +kernel⟩, List.mem_of_getElem? (i := 1131) (by decide +kernel), List.mem_of_getElem? (i := 1152) (by decide +kernel), List.mem_of_getElem? (i := 1153) (by decide +kernel)⟩
theorem lw_p46 : lw_okq (⟨"SilkRiseModel", "put", "(I)V"⟩, 82) := ⟨⟨by decide +kernel, by decide +kernel⟩, List.mem_of_getElem? (i := 1131) (by decide +kernel), List.mem_of_getElem? (i := 1407) (by decide +kernel), List.mem_of_getElem? (i := 1408) (by decide +kernel)⟩
theorem lw_p47 : lw_okq (⟨"SilkRiseModel", "cut", "()V"⟩, 82) := ⟨⟨by decide +kernel, by decide +kernel⟩, List.mem_of_getElem? (i := 1131) (by decide +kernel), List.mem_of_getElem? (i := 1419) (by decide +kernel), List.mem_of_getElem? (i := 1420) (by decide +kernel)⟩
def lw_privs_3 : List (MethodName × Nat) := [(⟨"SilkRise", "comesTo", "(IIII)Z"⟩, 14), (⟨"SilkRise$Filling", "gainOf", "(II)I"⟩, 6), (⟨"SilkRise$Filling", "bestFrom", "(II)I"⟩, 6), (⟨"SilkRise$Filling", "sumBy", "(III)I"⟩, 6), (⟨"SilkRise$Filling", "firstBest", "(II)I"⟩, 6), (⟨"SilkRise$Filling", "hooksFor", "(II)I"⟩, 6), (⟨"SilkRise", "gainBehind", "(III)I"⟩, 14), (⟨"SilkRise", "tryHours", "(II)V"⟩, 14), (⟨"SilkRise", "pullsKnownBy", "(I)I"⟩, 14), (⟨"SilkRise", "fitsKnown", "(II)Z"⟩, 14), (⟨"SilkRise$Past", "isSlot", "(I)Z"⟩, 5), (⟨"SilkRiseModel", "plain", "(I)V"⟩, 82), (⟨"SilkRiseModel", "begins", "()V"⟩, 82), (⟨"SilkRiseModel", "keepsRow", "()V"⟩, 82), (⟨"SilkRiseModel", "put", "(I)V"⟩, 82), (⟨"SilkRiseModel", "cut", "()V"⟩, 82)]
theorem lw_r3 : ∀ q ∈ lw_privs_3, lw_okq q := List.forall_mem_cons.mpr ⟨lw_p32, List.forall_mem_cons.mpr ⟨lw_p33, List.forall_mem_cons.mpr ⟨lw_p34, List.forall_mem_cons.mpr ⟨lw_p35, List.forall_mem_cons.mpr ⟨lw_p36, List.forall_mem_cons.mpr ⟨lw_p37, List.forall_mem_cons.mpr ⟨lw_p38, List.forall_mem_cons.mpr ⟨lw_p39, List.forall_mem_cons.mpr ⟨lw_p40, List.forall_mem_cons.mpr ⟨lw_p41, List.forall_mem_cons.mpr ⟨lw_p42, List.forall_mem_cons.mpr ⟨lw_p43, List.forall_mem_cons.mpr ⟨lw_p44, List.forall_mem_cons.mpr ⟨lw_p45, List.forall_mem_cons.mpr ⟨lw_p46, List.forall_mem_cons.mpr ⟨lw_p47, fun _ h => absurd h List.not_mem_nil⟩⟩⟩⟩⟩⟩⟩⟩⟩⟩⟩⟩⟩⟩⟩⟩
theorem lw_p48 : lw_okq (⟨"SilkRiseModel", "byteAt", "(I)I"⟩, 82) := ⟨⟨by decide +kernel, by decide +kernel⟩, List.mem_of_getElem? (i := 1131) (by decide +kernel), List.mem_of_getElem? (i := 1423) (by decide +kernel), List.mem_of_getElem? (i := 1424) (by decide +kernel)⟩
theorem lw_p49 : lw_okq (⟨"SilkRiseModel", "token", "(IIIJ)V"⟩, 82) := ⟨⟨by decide +kernel, by decide +kernel⟩, List.mem_of_getElem? (i := 1131) (by decide +kernel), List.mem_of_getElem? (i := 1427) (by decide +kernel), List.mem_of_getElem? (i := 1428) (by decide +kernel)⟩
theorem lw_p50 : lw_okq (⟨"SilkRiseModel", "sign", "(III)I"⟩, 82) := ⟨⟨by decide +kernel, by decide +kernel⟩, List.mem_of_getElem? (i := 1131) (by decide +kernel), List.mem_of_getElem? (i := 1437) (by decide +kernel), List.mem_of_getElem? (i := 1438) (by decide +kernel)⟩
theorem lw_p51 : lw_okq (⟨"SilkRiseModel", "is", "(I)Z"⟩, 82) := ⟨⟨by decide +kernel, by decide +kernel⟩, List.mem_of_getElem? (i := 1131) (by decide +kernel), List.mem_of_getElem? (i := 1441) (by decide +kernel), List.mem_of_getElem? (i := 1442) (by decide +kernel)⟩
theorem lw_p52 : lw_okq (⟨"SilkRiseModel", "tellOne", "()V"⟩, 82) := ⟨⟨by decide +kernel, by decide +kernel⟩, List.mem_of_getElem? (i := 1131) (by decide +kernel), List.mem_of_getElem? (i := 1445) (by decide +kernel), List.mem_of_getElem? (i := 1446) (by decide +kernel)⟩
theorem lw_p53 : lw_okq (⟨"SilkRiseModel", "roomFor", "(II)V"⟩, 82) := ⟨⟨by decide +kernel, by decide +kernel⟩, List.mem_of_getElem? (i := 1131) (by decide +kernel), List.mem_of_getElem? (i := 1449) (by decide +kernel), List.mem_of_getElem? (i := 1450) (by decide +kernel)⟩
theorem lw_p54 : lw_okq (⟨"SilkRiseModel", "fail", "(I)V"⟩, 82) := ⟨⟨by decide +kernel, by decide +kernel⟩, List.mem_of_getElem? (i := 1131) (by decide +kernel), List.mem_of_getElem? (i := 1453) (by decide +kernel), List.mem_of_getElem? (i := 1454) (by decide +kernel)⟩
theorem lw_p55 : lw_okq (⟨"SilkRiseModel", "goesOn", "()V"⟩, 82) := ⟨⟨by decide +kernel, by decide +kernel⟩, List.mem_of_getElem? (i := 1131) (by decide +kernel), List.mem_of_getElem? (i := 1457) (by decide +kernel), List.mem_of_getElem? (i := 1458) (by decide +kernel)⟩
theorem lw_p56 : lw_okq (⟨"SilkRiseModel", "tellLoad", "()V"⟩, 82) := ⟨⟨by decide +kernel, by decide +kernel⟩, List.mem_of_getElem? (i := 1131) (by decide +kernel), List.mem_of_getElem? (i := 1461) (by decide +kernel), List.mem_of_getElem? (i := 1462) (by decide +kernel)⟩
theorem lw_p57 : lw_okq (⟨"SilkRiseModel", "named", "()I"⟩, 82) := ⟨⟨by decide +kernel, by decide +kernel⟩, List.mem_of_getElem? (i := 1131) (by decide +kernel), List.mem_of_getElem? (i := 1465) (by decide +kernel), List.mem_of_getElem? (i := 1466) (by decide +kernel)⟩
theorem lw_p58 : lw_okq (⟨"SilkRiseModel", "must", "(I)V"⟩, 82) := ⟨⟨by decide +kernel, by decide +kernel⟩, List.mem_of_getElem? (i := 1131) (by decide +kernel), List.mem_of_getElem? (i := 1469) (by decide +kernel), List.mem_of_getElem? (i := 1470) (by decide +kernel)⟩
theorem lw_p59 : lw_okq (⟨"SilkRiseModel", "wrong", "(II)V"⟩, 82) := ⟨⟨by decide +kernel, by decide +kernel⟩, List.mem_of_getElem? (i := 1131) (by decide +kernel), List.mem_of_getElem? (i := 1473) (by decide +kernel), List.mem_of_getElem? (i := 1474) (by decide +kernel)⟩
theorem lw_p60 : lw_okq (⟨"SilkRiseModel", "bounded", "(II)I"⟩, 82) := ⟨⟨by decide +kernel, by decide +kernel⟩, List.mem_of_getElem? (i := 1131) (by decide +kernel), List.mem_of_getElem? (i := 1477) (by decide +kernel), List.mem_of_getElem? (i := 1478) (by decide +kernel)⟩
theorem lw_p61 : lw_okq (⟨"SilkRiseModel", "ends", "(I)V"⟩, 82) := ⟨⟨by decide +kernel, by decide +kernel⟩, List.mem_of_getElem? (i := 1131) (by decide +kernel), List.mem_of_getElem? (i := 1481) (by decide +kernel), List.mem_of_getElem? (i := 1482) (by decide +kernel)⟩
theorem lw_p62 : lw_okq (⟨"SilkRiseModel", "tellSilk", "()V"⟩, 82) := ⟨⟨by decide +kernel, by decide +kernel⟩, List.mem_of_getElem? (i := 1131) (by decide +kernel), List.mem_of_getElem? (i := 1485) (by decide +kernel), List.mem_of_getElem? (i := 1486) (by decide +kernel)⟩
theorem lw_p63 : lw_okq (⟨"SilkRiseModel", "tellHook", "()V"⟩, 82) := ⟨⟨by decide +kernel, by decide +kernel⟩, List.mem_of_getElem? (i := 1131) (by decide +kernel), List.mem_of_getElem? (i := 1489) (by decide +kernel), List.mem_of_getElem? (i := 1490) (by decide +kernel)⟩
def lw_privs_4 : List (MethodName × Nat) := [(⟨"SilkRiseModel", "byteAt", "(I)I"⟩, 82), (⟨"SilkRiseModel", "token", "(IIIJ)V"⟩, 82), (⟨"SilkRiseModel", "sign", "(III)I"⟩, 82), (⟨"SilkRiseModel", "is", "(I)Z"⟩, 82), (⟨"SilkRiseModel", "tellOne", "()V"⟩, 82), (⟨"SilkRiseModel", "roomFor", "(II)V"⟩, 82), (⟨"SilkRiseModel", "fail", "(I)V"⟩, 82), (⟨"SilkRiseModel", "goesOn", "()V"⟩, 82), (⟨"SilkRiseModel", "tellLoad", "()V"⟩, 82), (⟨"SilkRiseModel", "named", "()I"⟩, 82), (⟨"SilkRiseModel", "must", "(I)V"⟩, 82), (⟨"SilkRiseModel", "wrong", "(II)V"⟩, 82), (⟨"SilkRiseModel", "bounded", "(II)I"⟩, 82), (⟨"SilkRiseModel", "ends", "(I)V"⟩, 82), (⟨"SilkRiseModel", "tellSilk", "()V"⟩, 82), (⟨"SilkRiseModel", "tellHook", "()V"⟩, 82)]
theorem lw_r4 : ∀ q ∈ lw_privs_4, lw_okq q := List.forall_mem_cons.mpr ⟨lw_p48, List.forall_mem_cons.mpr ⟨lw_p49, List.forall_mem_cons.mpr ⟨lw_p50, List.forall_mem_cons.mpr ⟨lw_p51, List.forall_mem_cons.mpr ⟨lw_p52, List.forall_mem_cons.mpr ⟨lw_p53, List.forall_mem_cons.mpr ⟨lw_p54, List.forall_mem_cons.mpr ⟨lw_p55, List.forall_mem_cons.mpr ⟨lw_p56, List.forall_mem_cons.mpr ⟨lw_p57, List.forall_mem_cons.mpr ⟨lw_p58, List.forall_mem_cons.mpr ⟨lw_p59, List.forall_mem_cons.mpr ⟨lw_p60, List.forall_mem_cons.mpr ⟨lw_p61, List.forall_mem_cons.mpr ⟨lw_p62, List.forall_mem_cons.mpr ⟨lw_p63, fun _ h => absurd h List.not_mem_nil⟩⟩⟩⟩⟩⟩⟩⟩⟩⟩⟩⟩⟩⟩⟩⟩
theorem lw_p64 : lw_okq (⟨"SilkRiseModel", "toldInt", "(II)I"⟩, 82) := ⟨⟨by decide +kernel, by decide +kernel⟩, List.mem_of_getElem? (i := 1131) (by decide +kernel), List.mem_of_getElem? (i := 1493) (by decide +kernel), List.mem_of_getElem? (i := 1494) (by decide +kernel)⟩
theorem lw_p65 : lw_okq (⟨"SilkRiseModel", "tellLaw", "(I)V"⟩, 82) := ⟨⟨by decide +kernel, by decide +kernel⟩, List.mem_of_getElem? (i := 1131) (by decide +kernel), List.mem_of_getElem? (i := 1497) (by decide +kernel), List.mem_of_getElem? (i := 1498) (by decide +kernel)⟩
theorem lw_p66 : lw_okq (⟨"SilkRiseModel", "expression", "()V"⟩, 82) := ⟨⟨by decide +kernel, by decide +kernel⟩, List.mem_of_getElem? (i := 1131) (by decide +kernel), List.mem_of_getElem? (i := 1501) (by decide +kernel), List.mem_of_getElem? (i := 1502) (by decide +kernel)⟩
theorem lw_p67 : lw_okq (⟨"SilkRiseModel", "unit", "()V"⟩, 82) := ⟨⟨by decide +kernel, by decide +kernel⟩, List.mem_of_getElem? (i := 1131) (by decide +kernel), List.mem_of_getElem? (i := 1505) (by decide +kernel), List.mem_of_getElem? (i := 1506) (by decide +kernel)⟩
theorem lw_p68 : lw_okq (⟨"SilkRiseModel", "emit", "(II)V"⟩, 82) := ⟨⟨by decide +kernel, by decide +kernel⟩, List.mem_of_getElem? (i := 1131) (by decide +kernel), List.mem_of_getElem? (i := 1509) (by decide +kernel), List.mem_of_getElem? (i := 1510) (by decide +kernel)⟩
theorem lw_p69 : lw_okq (⟨"SilkRiseModel", "comesOut", "(Z)V"⟩, 82) := ⟨⟨by decide +kernel, by decide +kernel⟩, List.mem_of_getElem? (i := 1131) (by decide +kernel), List.mem_of_getElem? (i := 1513) (by decide +kernel), List.mem_of_getElem? (i := 1514) (by decide +kernel)⟩
theorem lw_p70 : lw_okq (⟨"SilkRiseModel", "term", "()V"⟩, 82) := ⟨⟨by decide +kernel, by decide +kernel⟩, List.mem_of_getElem? (i := 1131) (by decide +kernel), List.mem_of_getElem? (i := 1517) (by decide +kernel), List.mem_of_getElem? (i := 1518) (by decide +kernel)⟩
theorem lw_p71 : lw_okq (⟨"SilkRiseModel", "isLoad", "(I)Z"⟩, 82) := ⟨⟨by decide +kernel, by decide +kernel⟩, List.mem_of_getElem? (i := 1131) (by decide +kernel), List.mem_of_getElem? (i := 1529) (by decide +kernel), List.mem_of_getElem? (i := 1530) (by decide +kernel)⟩
theorem lw_p72 : lw_okq (⟨"SilkRiseModel", "isSilk", "(I)Z"⟩, 82) := ⟨⟨by decide +kernel, by decide +kernel⟩, List.mem_of_getElem? (i := 1131) (by decide +kernel), List.mem_of_getElem? (i := 1540) (by decide +kernel), List.mem_of_getElem? (i := 1541) (by decide +kernel)⟩
theorem lw_p73 : lw_okq (⟨"SilkRiseModel", "isHook", "(I)Z"⟩, 82) := ⟨⟨by decide +kernel, by decide +kernel⟩, List.mem_of_getElem? (i := 1131) (by decide +kernel), List.mem_of_getElem? (i := 1552) (by decide +kernel), List.mem_of_getElem? (i := 1553) (by decide +kernel)⟩
theorem lw_p74 : lw_okq (⟨"SilkRiseModel", "copies", "()V"⟩, 82) := ⟨⟨by decide +kernel, by decide +kernel⟩, List.mem_of_getElem? (i := 1131) (by decide +kernel), List.mem_of_getElem? (i := 1560) (by decide +kernel), List.mem_of_getElem? (i := 1561) (by decide +kernel)⟩
theorem lw_p75 : lw_okq (⟨"SilkRiseModel", "upNow", "()I"⟩, 82) := ⟨⟨by decide +kernel, by decide +kernel⟩, List.mem_of_getElem? (i := 1131) (by decide +kernel), List.mem_of_getElem? (i := 1564) (by decide +kernel), List.mem_of_getElem? (i := 1565) (by decide +kernel)⟩
theorem lw_p76 : lw_okq (⟨"SilkRiseModel", "loadsSo", "(I)I"⟩, 82) := ⟨⟨by decide +kernel, by decide +kernel⟩, List.mem_of_getElem? (i := 1131) (by decide +kernel), List.mem_of_getElem? (i := 1568) (by decide +kernel), List.mem_of_getElem? (i := 1569) (by decide +kernel)⟩
theorem lw_p77 : lw_okq (⟨"SilkRiseModel", "liftBy", "(IIIIII)I"⟩, 82) := ⟨⟨by decide +kernel, by decide +kernel⟩, List.mem_of_getElem? (i := 1131) (by decide +kernel), List.mem_of_getElem? (i := 1575) (by decide +kernel), List.mem_of_getElem? (i := 1576) (by decide +kernel)⟩
theorem lw_p78 : lw_okq (⟨"SilkRiseModel", "looks", "(II)V"⟩, 82) := ⟨⟨by decide +kernel, by decide +kernel⟩, List.mem_of_getElem? (i := 1131) (by decide +kernel), List.mem_of_getElem? (i := 1579) (by decide +kernel), List.mem_of_getElem? (i := 1580) (by decide +kernel)⟩
theorem lw_p79 : lw_okq (⟨"SilkRiseModel", "lawTells", "(II)I"⟩, 82) := ⟨⟨by decide +kernel, by decide +kernel⟩, List.mem_of_getElem? (i := 1131) (by decide +kernel), List.mem_of_getElem? (i := 1583) (by decide +kernel), List.mem_of_getElem? (i := 1584) (by decide +kernel)⟩
def lw_privs_5 : List (MethodName × Nat) := [(⟨"SilkRiseModel", "toldInt", "(II)I"⟩, 82), (⟨"SilkRiseModel", "tellLaw", "(I)V"⟩, 82), (⟨"SilkRiseModel", "expression", "()V"⟩, 82), (⟨"SilkRiseModel", "unit", "()V"⟩, 82), (⟨"SilkRiseModel", "emit", "(II)V"⟩, 82), (⟨"SilkRiseModel", "comesOut", "(Z)V"⟩, 82), (⟨"SilkRiseModel", "term", "()V"⟩, 82), (⟨"SilkRiseModel", "isLoad", "(I)Z"⟩, 82), (⟨"SilkRiseModel", "isSilk", "(I)Z"⟩, 82), (⟨"SilkRiseModel", "isHook", "(I)Z"⟩, 82), (⟨"SilkRiseModel", "copies", "()V"⟩, 82), (⟨"SilkRiseModel", "upNow", "()I"⟩, 82), (⟨"SilkRiseModel", "loadsSo", "(I)I"⟩, 82), (⟨"SilkRiseModel", "liftBy", "(IIIIII)I"⟩, 82), (⟨"SilkRiseModel", "looks", "(II)V"⟩, 82), (⟨"SilkRiseModel", "lawTells", "(II)I"⟩, 82)]
theorem lw_r5 : ∀ q ∈ lw_privs_5, lw_okq q := List.forall_mem_cons.mpr ⟨lw_p64, List.forall_mem_cons.mpr ⟨lw_p65, List.forall_mem_cons.mpr ⟨lw_p66, List.forall_mem_cons.mpr ⟨lw_p67, List.forall_mem_cons.mpr ⟨lw_p68, List.forall_mem_cons.mpr ⟨lw_p69, List.forall_mem_cons.mpr ⟨lw_p70, List.forall_mem_cons.mpr ⟨lw_p71, List.forall_mem_cons.mpr ⟨lw_p72, List.forall_mem_cons.mpr ⟨lw_p73, List.forall_mem_cons.mpr ⟨lw_p74, List.forall_mem_cons.mpr ⟨lw_p75, List.forall_mem_cons.mpr ⟨lw_p76, List.forall_mem_cons.mpr ⟨lw_p77, List.forall_mem_cons.mpr ⟨lw_p78, List.forall_mem_cons.mpr ⟨lw_p79, fun _ h => absurd h List.not_mem_nil⟩⟩⟩⟩⟩⟩⟩⟩⟩⟩⟩⟩⟩⟩⟩⟩
theorem lw_p80 : lw_okq (⟨"SilkRiseModel", "termOf", "(II)I"⟩, 82) := ⟨⟨by decide +kernel, by decide +kernel⟩, List.mem_of_getElem? (i := 1131) (by decide +kernel), List.mem_of_getElem? (i := 1587) (by decide +kernel), List.mem_of_getElem? (i := 1588) (by decide +kernel)⟩
theorem lw_p81 : lw_okq (⟨"SilkRiseModel", "windBy", "(IIII)I"⟩, 82) := ⟨⟨by decide +kernel, by decide +kernel⟩, List.mem_of_getElem? (i := 1131) (by decide +kernel), List.mem_of_getElem? (i := 1594) (by decide +kernel), List.mem_of_getElem? (i := 1595) (by decide +kernel)⟩
theorem lw_p82 : lw_okq (⟨"SilkRiseModel", "tiesBy", "(IIII)I"⟩, 82) := ⟨⟨by decide +kernel, by decide +kernel⟩, List.mem_of_getElem? (i := 1131) (by decide +kernel), List.mem_of_getElem? (i := 1598) (by decide +kernel), List.mem_of_getElem? (i := 1599) (by decide +kernel)⟩
theorem lw_p83 : lw_okq (⟨"SilkRiseModel", "paysBy", "(III)I"⟩, 82) := ⟨⟨by decide +kernel, by decide +kernel⟩, List.mem_of_getElem? (i := 1131) (by decide +kernel), List.mem_of_getElem? (i := 1602) (by decide +kernel), List.mem_of_getElem? (i := 1603) (by decide +kernel)⟩
theorem lw_p84 : lw_okq (⟨"SilkRiseModel", "areBoth", "(II)Z"⟩, 82) := ⟨⟨by decide +kernel, by decide +kernel⟩, List.mem_of_getElem? (i := 1131) (by decide +kernel), List.mem_of_getElem? (i := 1610) (by decide +kernel), List.mem_of_getElem? (i := 1611) (by decide +kernel)⟩
theorem lw_p85 : lw_okq (⟨"SilkRiseModel", "areAtFoot", "(II)Z"⟩, 82) := ⟨⟨by decide +kernel, by decide +kernel⟩, List.mem_of_getElem? (i := 1131) (by decide +kernel), List.mem_of_getElem? (i := 1614) (by decide +kernel), List.mem_of_getElem? (i := 1615) (by decide +kernel)⟩
theorem lw_p86 : lw_okq (⟨"SilkRiseModel", "records", "()V"⟩, 82) := ⟨⟨by decide +kernel, by decide +kernel⟩, List.mem_of_getElem? (i := 1131) (by decide +kernel), List.mem_of_getElem? (i := 1618) (by decide +kernel), List.mem_of_getElem? (i := 1619) (by decide +kernel)⟩
theorem lw_p87 : lw_okq (⟨"SilkRiseModel", "goes", "(I)V"⟩, 82) := ⟨⟨by decide +kernel, by decide +kernel⟩, List.mem_of_getElem? (i := 1131) (by decide +kernel), List.mem_of_getElem? (i := 1634) (by decide +kernel), List.mem_of_getElem? (i := 1635) (by decide +kernel)⟩
theorem lw_p88 : lw_okq (⟨"SilkRiseModel", "hourGoes", "()V"⟩, 82) := ⟨⟨by decide +kernel, by decide +kernel⟩, List.mem_of_getElem? (i := 1131) (by decide +kernel), List.mem_of_getElem? (i := 1638) (by decide +kernel), List.mem_of_getElem? (i := 1639) (by decide +kernel)⟩
theorem lw_p89 : lw_okq (⟨"SilkRiseModel", "isGust", "()Z"⟩, 82) := ⟨⟨by decide +kernel, by decide +kernel⟩, List.mem_of_getElem? (i := 1131) (by decide +kernel), List.mem_of_getElem? (i := 1642) (by decide +kernel), List.mem_of_getElem? (i := 1643) (by decide +kernel)⟩
theorem lw_p90 : lw_okq (⟨"SilkRiseModel", "handsFree", "()V"⟩, 82) := ⟨⟨by decide +kernel, by decide +kernel⟩, List.mem_of_getElem? (i := 1131) (by decide +kernel), List.mem_of_getElem? (i := 1650) (by decide +kernel), List.mem_of_getElem? (i := 1651) (by decide +kernel)⟩
theorem lw_p91 : lw_okq (⟨"SilkRiseModel", "looksOn", "(IIZ)V"⟩, 82) := ⟨⟨by decide +kernel, by decide +kernel⟩, List.mem_of_getElem? (i := 1131) (by decide +kernel), List.mem_of_getElem? (i := 1654) (by decide +kernel), List.mem_of_getElem? (i := 1655) (by decide +kernel)⟩
theorem lw_p92 : lw_okq (⟨"SilkRiseModel", "comesUp", "(I)V"⟩, 82) := ⟨⟨by decide +kernel, by decide +kernel⟩, List.mem_of_getElem? (i := 1131) (by decide +kernel), List.mem_of_getElem? (i := 1658) (by decide +kernel), List.mem_of_getElem? (i := 1659) (by decide +kernel)⟩
theorem lw_p93 : lw_okq (⟨"SilkRiseModel", "hookAt", "(I)I"⟩, 82) := ⟨⟨by decide +kernel, by decide +kernel⟩, List.mem_of_getElem? (i := 1131) (by decide +kernel), List.mem_of_getElem? (i := 1662) (by decide +kernel), List.mem_of_getElem? (i := 1663) (by decide +kernel)⟩
theorem lw_p94 : lw_okq (⟨"SilkRiseModel", "isDown", "(II)V"⟩, 82) := ⟨⟨by decide +kernel, by decide +kernel⟩, List.mem_of_getElem? (i := 1131) (by decide +kernel), List.mem_of_getElem? (i := 1669) (by decide +kernel), List.mem_of_getElem? (i := 1670) (by decide +kernel)⟩
theorem lw_p95 : lw_okq (⟨"SilkRiseModel", "fliesFrom", "(IIII)V"⟩, 82) := ⟨⟨by decide +kernel, by decide +kernel⟩, List.mem_of_getElem? (i := 1131) (by decide +kernel), List.mem_of_getElem? (i := 1681) (by decide +kernel), List.mem_of_getElem? (i := 1682) (by decide +kernel)⟩
def lw_privs_6 : List (MethodName × Nat) := [(⟨"SilkRiseModel", "termOf", "(II)I"⟩, 82), (⟨"SilkRiseModel", "windBy", "(IIII)I"⟩, 82), (⟨"SilkRiseModel", "tiesBy", "(IIII)I"⟩, 82), (⟨"SilkRiseModel", "paysBy", "(III)I"⟩, 82), (⟨"SilkRiseModel", "areBoth", "(II)Z"⟩, 82), (⟨"SilkRiseModel", "areAtFoot", "(II)Z"⟩, 82), (⟨"SilkRiseModel", "records", "()V"⟩, 82), (⟨"SilkRiseModel", "goes", "(I)V"⟩, 82), (⟨"SilkRiseModel", "hourGoes", "()V"⟩, 82), (⟨"SilkRiseModel", "isGust", "()Z"⟩, 82), (⟨"SilkRiseModel", "handsFree", "()V"⟩, 82), (⟨"SilkRiseModel", "looksOn", "(IIZ)V"⟩, 82), (⟨"SilkRiseModel", "comesUp", "(I)V"⟩, 82), (⟨"SilkRiseModel", "hookAt", "(I)I"⟩, 82), (⟨"SilkRiseModel", "isDown", "(II)V"⟩, 82), (⟨"SilkRiseModel", "fliesFrom", "(IIII)V"⟩, 82)]
theorem lw_r6 : ∀ q ∈ lw_privs_6, lw_okq q := List.forall_mem_cons.mpr ⟨lw_p80, List.forall_mem_cons.mpr ⟨lw_p81, List.forall_mem_cons.mpr ⟨lw_p82, List.forall_mem_cons.mpr ⟨lw_p83, List.forall_mem_cons.mpr ⟨lw_p84, List.forall_mem_cons.mpr ⟨lw_p85, List.forall_mem_cons.mpr ⟨lw_p86, List.forall_mem_cons.mpr ⟨lw_p87, List.forall_mem_cons.mpr ⟨lw_p88, List.forall_mem_cons.mpr ⟨lw_p89, List.forall_mem_cons.mpr ⟨lw_p90, List.forall_mem_cons.mpr ⟨lw_p91, List.forall_mem_cons.mpr ⟨lw_p92, List.forall_mem_cons.mpr ⟨lw_p93, List.forall_mem_cons.mpr ⟨lw_p94, List.forall_mem_cons.mpr ⟨lw_p95, fun _ h => absurd h List.not_mem_nil⟩⟩⟩⟩⟩⟩⟩⟩⟩⟩⟩⟩⟩⟩⟩⟩
theorem lw_p96 : lw_okq (⟨"SilkRiseModel", "fliesOn", "(IIIIII)V"⟩, 82) := ⟨⟨by decide +kernel, by decide +kernel⟩, List.mem_of_getElem? (i := 1131) (by decide +kernel), List.mem_of_getElem? (i := 1685) (by decide +kernel), List.mem_of_getElem? (i := 1686) (by decide +kernel)⟩
theorem lw_p97 : lw_okq (⟨"SilkRiseModel", "beginsFlight", "(I)V"⟩, 82) := ⟨⟨by decide +kernel, by decide +kernel⟩, List.mem_of_getElem? (i := 1131) (by decide +kernel), List.mem_of_getElem? (i := 1689) (by decide +kernel), List.mem_of_getElem? (i := 1690) (by decide +kernel)⟩
theorem lw_p98 : lw_okq (⟨"SilkRiseModel", "flies", "(IIIII)V"⟩, 82) := ⟨⟨by decide +kernel, by decide +kernel⟩, List.mem_of_getElem? (i := 1131) (by decide +kernel), List.mem_of_getElem? (i := 1693) (by decide +kernel), List.mem_of_getElem? (i := 1694) (by decide +kernel)⟩
theorem lw_p99 : lw_okq (⟨"SilkRiseModel", "fillsBrings", "()V"⟩, 82) := ⟨⟨by decide +kernel, by decide +kernel⟩, List.mem_of_getElem? (i := 1131) (by decide +kernel), List.mem_of_getElem? (i := 1718) (by decide +kernel), List.mem_of_getElem? (i := 1719) (by decide +kernel)⟩
theorem lw_p100 : lw_okq (⟨"SilkRiseModel", "isWay", "(I)Z"⟩, 82) := ⟨⟨by decide +kernel, by decide +kernel⟩, List.mem_of_getElem? (i := 1131) (by decide +kernel), List.mem_of_getElem? (i := 1725) (by decide +kernel), List.mem_of_getElem? (i := 1726) (by decide +kernel)⟩
theorem lw_p101 : lw_okq (⟨"SilkRiseModel", "bringsAll", "(I)I"⟩, 82) := ⟨⟨by decide +kernel, by decide +kernel⟩, List.mem_of_getElem? (i := 1131) (by decide +kernel), List.mem_of_getElem? (i := 1729) (by decide +kernel), List.mem_of_getElem? (i := 1730) (by decide +kernel)⟩
theorem lw_p102 : lw_okq (⟨"SilkRiseModel", "hooksFor", "(I)I"⟩, 82) := ⟨⟨by decide +kernel, by decide +kernel⟩, List.mem_of_getElem? (i := 1131) (by decide +kernel), List.mem_of_getElem? (i := 1737) (by decide +kernel), List.mem_of_getElem? (i := 1738) (by decide +kernel)⟩
theorem lw_p103 : lw_okq (⟨"SilkRiseModel", "pullBits", "(I)I"⟩, 82) := ⟨⟨by decide +kernel, by decide +kernel⟩, List.mem_of_getElem? (i := 1131) (by decide +kernel), List.mem_of_getElem? (i := 1775) (by decide +kernel), List.mem_of_getElem? (i := 1776) (by decide +kernel)⟩
theorem lw_p104 : lw_okq (⟨"SilkRiseModel", "isSo", "(II)Z"⟩, 82) := ⟨⟨by decide +kernel, by decide +kernel⟩, List.mem_of_getElem? (i := 1131) (by decide +kernel), List.mem_of_getElem? (i := 1779) (by decide +kernel), List.mem_of_getElem? (i := 1780) (by decide +kernel)⟩
def lw_privs_7 : List (MethodName × Nat) := [(⟨"SilkRiseModel", "fliesOn", "(IIIIII)V"⟩, 82), (⟨"SilkRiseModel", "beginsFlight", "(I)V"⟩, 82), (⟨"SilkRiseModel", "flies", "(IIIII)V"⟩, 82), (⟨"SilkRiseModel", "fillsBrings", "()V"⟩, 82), (⟨"SilkRiseModel", "isWay", "(I)Z"⟩, 82), (⟨"SilkRiseModel", "bringsAll", "(I)I"⟩, 82), (⟨"SilkRiseModel", "hooksFor", "(I)I"⟩, 82), (⟨"SilkRiseModel", "pullBits", "(I)I"⟩, 82), (⟨"SilkRiseModel", "isSo", "(II)Z"⟩, 82)]
theorem lw_r7 : ∀ q ∈ lw_privs_7, lw_okq q := List.forall_mem_cons.mpr ⟨lw_p96, List.forall_mem_cons.mpr ⟨lw_p97, List.forall_mem_cons.mpr ⟨lw_p98, List.forall_mem_cons.mpr ⟨lw_p99, List.forall_mem_cons.mpr ⟨lw_p100, List.forall_mem_cons.mpr ⟨lw_p101, List.forall_mem_cons.mpr ⟨lw_p102, List.forall_mem_cons.mpr ⟨lw_p103, List.forall_mem_cons.mpr ⟨lw_p104, fun _ h => absurd h List.not_mem_nil⟩⟩⟩⟩⟩⟩⟩⟩⟩
def lw_privs : List (MethodName × Nat) := lw_privs_1 ++ (lw_privs_2 ++ (lw_privs_3 ++ (lw_privs_4 ++ (lw_privs_5 ++ (lw_privs_6 ++ (lw_privs_7))))))
def lw_tbl : List Cond := k2_sels lw_privs ++ tables_1
theorem lw_privs_ok : ∀ q ∈ lw_privs, lw_okq q := by
  show ∀ q ∈ lw_privs_1 ++ (lw_privs_2 ++ (lw_privs_3 ++ (lw_privs_4 ++ (lw_privs_5 ++ (lw_privs_6 ++ (lw_privs_7)))))), lw_okq q
  exact List.forall_mem_append.mpr ⟨lw_r1, List.forall_mem_append.mpr ⟨lw_r2, List.forall_mem_append.mpr ⟨lw_r3, List.forall_mem_append.mpr ⟨lw_r4, List.forall_mem_append.mpr ⟨lw_r5, List.forall_mem_append.mpr ⟨lw_r6, lw_r7⟩⟩⟩⟩⟩⟩
end
section
def va_AOA (t : FieldType) (U : State) : Prop := (Cond.arrayOver (.array t)).before #[] U = true
theorem va_AOA.use {t : FieldType} {A : Array Value} {U : State} (h : va_AOA t U) : (Cond.arrayOver (.array t)).before A U = true := h
/-! ===== BEGIN new T[n][m]: the outer array a place, the inner ones among the pooled ===== -/
/-- f, but v at every address of l -/
def vr_up {α : Type} (f : Nat → α) (l : List Nat) (v : α) : Nat → α := fun a => if a ∈ l then v else f a
theorem vr_up_in {α : Type} {f : Nat → α} {l : List Nat} {v : α} {a : Nat} (h : a ∈ l) : vr_up f l v a = v := if_pos h
theorem vr_up_ne {α : Type} {f : Nat → α} {l : List Nat} {v : α} {a : Nat} (h : a ∉ l) : vr_up f l v a = f a := if_neg h
theorem vr_rows {L l : List Nat} {f : Nat → va_E} {e : va_E} (h : ∀ a, a ∈ l → a ∉ L) : va_pl L f ++ l.map (fun a => (a, e)) = va_pl (L ++ l) (vr_up f l e) := by
  unfold va_pl
  rw [List.map_append]
  congr 1
  · apply List.map_congr_left
    intro a ha
    rw [vr_up_ne (fun q => h a q ha)]
  · apply List.map_congr_left
    intro a ha
    rw [vr_up_in ha]
theorem vr_lay {X rows : va_W} {x : Nat × va_E} {pl : va_W} {D : va_G} {cl : List vw_C} {H : Heap} (hP : va_P D cl (((X ++ pl) ++ [x]) ++ rows) H) : va_P D cl ((X ++ [x]) ++ (pl ++ rows)) H := by
  rw [List.append_assoc (X ++ pl)] at hP
  have h := va_P.swap hP
  rw [← List.append_assoc X] at h
  have h2 := va_P.swap h
  rw [List.append_assoc (X ++ [x])] at h2
  exact h2
theorem vr_layD {X rows : va_W} {x : Nat × va_E} {pl : va_W} {A : Nat → Prop} (hD : va_D A (((X ++ pl) ++ [x]) ++ rows)) : va_D A ((X ++ [x]) ++ (pl ++ rows)) := by
  rw [List.append_assoc (X ++ pl)] at hD
  have h := va_D.swap hD
  rw [← List.append_assoc X] at h
  have h2 := va_D.swap h
  rw [List.append_assoc (X ++ [x])] at h2
  exact h2
theorem vr_outer (c : ClassId) (N h0 : Nat) : ∀ i : Nat, Jvm.Free.Multi.outerC c N h0 i = arrV c N (fun j => va_rf (if j < i then some (h0 + 1 + j) else none))
  | 0 => by
    show ({ cls := c, slots := Array.replicate N .null, vm := .none } : Cell) = _
    rw [arrV_new]
    refine congrArg (arrV c N) (funext fun j => ?_)
    simp [va_rf]
  | i + 1 => by
    show (Jvm.Free.Multi.outerC c N h0 i).setSlot i (.ref (h0 + 1 + i)) = _
    rw [vr_outer c N h0 i, arrV_store]
    refine congrArg (arrV c N) (funext fun j => ?_)
    by_cases e : j = i
    · subst e
      simp [updV, va_rf]
    · by_cases h : j < i
      · simp [updV, e, h, Nat.lt_succ_of_lt h]
      · simp [updV, e, h, show ¬ j < i + 1 by omega]
section VGM
variable {p : Program} {l : Launch} {e : Env} {R : Room} {s : State} {m : MethodId} {args : Array Value} {below : List Frame} {meth : Method} {c : Code} {H : Heap} {locs : List Loc} {cells slots : Nat} {Q : State → Prop}
variable {cc : ByteArray} {pc : Nat} {ls : Array Slot} {rest : List Value} {D : va_G} {cl : List vw_C} {A : Nat → Prop} {a : Nat} {tys : List (ClassId × FieldType)} {ws : va_W} {H0 : Heap}
theorem va_mna {X : va_W} {L : List Nat} {f : Nat → va_E} {cc : ByteArray} (hexec : p.tables.exec = Jvm.exec) (hb : c.code = cc) {own : String} {index : Nat} {ty : FieldType} {cy : ClassId} (hown : s.vm.findClass own = some m.cls) (hclink : (Cond.classLink own index ("[" ++ (FieldType.array ty).toString)).before args s = true) (hover : va_AOA ty s) (harr : (Cond.arrayClass ty).before args s = true) (hcy : s.vm.findClass (FieldType.array ty).toString = some cy)
    (hK : va_K D cl tys s) (hP : va_P D cl (X ++ va_pl L f) H) (hD : va_D A (X ++ va_pl L f)) (hS : va_S A H0 H locs) (hA : ∀ q, H0.size ≤ q → A q) {n k : Int32} {N' K' : Nat} {z : vp_A} (hn : ¬ n < 0) (hk : ¬ k < 0) (hN : n.toNatClampNeg = N') (hM : k.toNatClampNeg = K')
    (hb1 : N' * 4 ≤ 536870912) (hb2 : K' * componentBytes ty ≤ 536870912) (hb3 : K' ≤ 536870912) (hdf : fits ty (defaultValue ty) = true) (hdd : (defaultValue ty).isDefault = true) (hcells : cells + (1 + N') ≤ R.cells) (hslots : slots + (N' + N' * K') ≤ R.slots) (hz : ∀ c : ClassId, Jvm.Free.Multi.innerC c K' (defaultValue ty) = vp_cell c z) (hdg : decode cc pc = .ok (.multianewarray index 2, 4))
    (kk : ∀ (q : Nat) (r : Nat → Nat) (cA : ClassId) (H1 : Heap), (∀ i j : Nat, i < N' → j < N' → r i = r j → i = j) → (∀ i : Nat, i < N' → r i ∉ L) → va_K D cl (tys ++ [(cA, .array ty)]) s →
      va_P D cl ((X ++ [(q, .inl (cA, N', .inr (.inr (.inr (.inr (fun i => if i < N' then some (r i) else none))))))]) ++ va_pl (L ++ (List.range N').map r) (vr_up f ((List.range N').map r) (.inl (cy, z)))) H1 → va_D A ((X ++ [(q, .inl (cA, N', .inr (.inr (.inr (.inr (fun i => if i < N' then some (r i) else none))))))]) ++ va_pl (L ++ (List.range N').map r) (vr_up f ((List.range N').map r) (.inl (cy, z)))) → va_S A H0 H1 locs →
      W p l e R s m args below meth c H1 locs (cells + 1 + N') (slots + N' + N' * K') Q (F0 m (pc + 4) ls (.ref q :: rest))) : W p l e R s m args below meth c H locs cells slots Q (F0 m pc ls (.int k :: .int n :: rest)) := by
  subst hN
  subst hM
  intro T hT Xs
  obtain ⟨vm₁, cA, comp, -, fA, fC, hO, -, X', step⟩ := Xs.multianewarray2F hexec hown hclink (va_AOA.use hover) harr (g := F0 m pc ls (.int k :: .int n :: rest)) rfl (by rw [hb]; exact hdg) rfl hn hk hb1 hb2 hb3 hdf hdd hcells hslots
  have ec : some cy = some comp := hcy.symm.trans fC
  cases ec
  generalize hF : Jvm.Free.Multi.fill (T.setVm vm₁) cA cy n.toNatClampNeg k.toNatClampNeg (defaultValue ty) n.toNatClampNeg = F at X' step
  have hTh : (T.setVm vm₁).heap = H := hT
  obtain ⟨f1, f2, -, -⟩ := Jvm.Free.Multi.fill_facts (T.setVm vm₁) cA cy n.toNatClampNeg k.toNatClampNeg (defaultValue ty) n.toNatClampNeg
  rw [hF, hTh] at f1 f2
  have hold : ∀ x : Nat, x < H.size → F.heap[x]? = H[x]? := fun x hx => by
    have := Jvm.Free.Multi.fill_old (T.setVm vm₁) cA cy n.toNatClampNeg k.toNatClampNeg (defaultValue ty) (a := x) (by rw [hTh]; exact hx) n.toNatClampNeg
    rw [hF, hTh] at this
    exact this
  have hrow : ∀ j : Nat, j < n.toNatClampNeg → F.heap[H.size + 1 + j]? = some (vp_cell cy z) := fun j hj => by
    have := Jvm.Free.Multi.fill_inner (T.setVm vm₁) cA cy n.toNatClampNeg k.toNatClampNeg (defaultValue ty) n.toNatClampNeg j hj
    rw [hF, hTh, hz] at this
    exact this
  have hout : Jvm.Free.Multi.outerC cA n.toNatClampNeg H.size n.toNatClampNeg = vp_cell cA (n.toNatClampNeg, .inr (.inr (.inr (.inr (fun i => if i < n.toNatClampNeg then some (H.size + 1 + i) else none))))) := by
    rw [vp_cell_q]
    exact vr_outer cA n.toNatClampNeg H.size n.toNatClampNeg
  rw [hout] at f2
  have hlt : ∀ a, a ∈ L → a < H.size := fun a ha => by
    obtain ⟨k9, hk9⟩ := va_pl_get (X := X) (f := f) ha
    exact (hP k9 _ hk9).lt
  have hnl : ∀ i : Nat, i < n.toNatClampNeg → H.size + 1 + i ∉ L := fun i _ h => by
    have := hlt _ h
    omega
  have hnm : ∀ a, a ∈ (List.range n.toNatClampNeg).map (fun i => H.size + 1 + i) → a ∉ L := fun a ha h => by
    obtain ⟨i, -, rfl⟩ := List.mem_map.mp ha
    have := hlt _ h
    omega
  have hP0 : va_P D cl (X ++ va_pl L f) F.heap := hP.kept (fun k9 x hx => hold x.1 ((hP k9 x hx).lt))
  have hP1 : va_P D cl ((X ++ va_pl L f) ++ [(H.size, .inl (cA, n.toNatClampNeg, .inr (.inr (.inr (.inr (fun i => if i < n.toNatClampNeg then some (H.size + 1 + i) else none))))))]) F.heap := hP0.app (fun k9 x hx => by
    have h0 : k9 < 1 := (List.getElem?_eq_some_iff.mp hx).1
    rw [show k9 = 0 by omega] at hx
    cases hx
    exact f2)
  have hP2 : va_P D cl (((X ++ va_pl L f) ++ [(H.size, .inl (cA, n.toNatClampNeg, .inr (.inr (.inr (.inr (fun i => if i < n.toNatClampNeg then some (H.size + 1 + i) else none))))))]) ++ ((List.range n.toNatClampNeg).map (fun i => H.size + 1 + i)).map (fun a => (a, .inl (cy, z)))) F.heap := hP1.app (fun k9 x hx => by
    obtain ⟨a, ha, rfl⟩ := List.mem_map.mp (List.mem_of_getElem? hx)
    obtain ⟨i, hi, rfl⟩ := List.mem_map.mp ha
    exact hrow i (List.mem_range.mp hi))
  have hD2 : va_D A (((X ++ va_pl L f) ++ [(H.size, .inl (cA, n.toNatClampNeg, .inr (.inr (.inr (.inr (fun i => if i < n.toNatClampNeg then some (H.size + 1 + i) else none))))))]) ++ ((List.range n.toNatClampNeg).map (fun i => H.size + 1 + i)).map (fun a => (a, .inl (cy, z)))) := by
    have hD1 := hD.push (e := .inl (cA, n.toNatClampNeg, .inr (.inr (.inr (.inr (fun i => if i < n.toNatClampNeg then some (H.size + 1 + i) else none)))))) hP rfl (hA _ hS.1)
    generalize hW1 : (X ++ va_pl L f) ++ [(H.size, .inl (cA, n.toNatClampNeg, .inr (.inr (.inr (.inr (fun i => if i < n.toNatClampNeg then some (H.size + 1 + i) else none))))))] = W1 at hD1 hP1 ⊢
    have hle : ∀ (k9 : Nat) (x : Nat × va_E), W1[k9]? = some x → x.1 ≤ H.size := fun k9 x hx => by
      rw [← hW1] at hx
      by_cases hl : k9 < (X ++ va_pl L f).length
      · rw [List.getElem?_append_left hl] at hx
        exact Nat.le_of_lt ((hP k9 x hx).lt)
      · rw [List.getElem?_append_right (by omega)] at hx
        have h0 : k9 - (X ++ va_pl L f).length < 1 := (List.getElem?_eq_some_iff.mp hx).1
        rw [show k9 - (X ++ va_pl L f).length = 0 by omega] at hx
        cases hx
        exact Nat.le_refl _
    have hr : ∀ (k9 : Nat) (x : Nat × va_E), (((List.range n.toNatClampNeg).map (fun i => H.size + 1 + i)).map (fun a => ((a, .inl (cy, z)) : Nat × va_E)))[k9]? = some x → x.1 = H.size + 1 + k9 := fun k9 x hx => by
      rw [List.getElem?_map, List.getElem?_map] at hx
      by_cases h9 : k9 < n.toNatClampNeg
      · rw [List.getElem?_range h9] at hx
        cases hx
        rfl
      · have hn0 : (List.range n.toNatClampNeg)[k9]? = none := List.getElem?_eq_none (by rw [List.length_range]; omega)
        rw [hn0] at hx
        cases hx
    refine ⟨fun i j x y hi hj hxy => ?_, fun k9 x hx => ?_⟩
    · by_cases h1 : i < W1.length <;> by_cases h2 : j < W1.length
      · rw [List.getElem?_append_left h1] at hi
        rw [List.getElem?_append_left h2] at hj
        exact hD1.1 i j x y hi hj hxy
      · rw [List.getElem?_append_left h1] at hi
        rw [List.getElem?_append_right (by omega)] at hj
        have := hle _ _ hi
        have := hr _ _ hj
        omega
      · rw [List.getElem?_append_right (by omega)] at hi
        rw [List.getElem?_append_left h2] at hj
        have := hle _ _ hj
        have := hr _ _ hi
        omega
      · rw [List.getElem?_append_right (by omega)] at hi hj
        have := hr _ _ hi
        have := hr _ _ hj
        omega
    · by_cases h1 : k9 < W1.length
      · rw [List.getElem?_append_left h1] at hx
        exact hD1.2 k9 x hx
      · rw [List.getElem?_append_right (by omega)] at hx
        have := hr _ _ hx
        exact hA _ (by have := hS.1; omega)
  have hAr : ArrOfT s cA (.array ty) := fun N9 z9 => by
    obtain ⟨-, k9, hk9, cm9, hkk9⟩ := (hO 0 0 0).1
    exact ⟨(fun q hq => by cases hq), k9, hk9, cm9, hkk9⟩
  have hK2 : va_K D cl (tys ++ [(cA, .array ty)]) s := ⟨hK.1, fun k9 x hx => by
    by_cases hl : k9 < tys.length
    · rw [List.getElem?_append_left hl] at hx
      exact hK.2 k9 x hx
    · rw [List.getElem?_append_right (by omega)] at hx
      have h0 : k9 - tys.length < 1 := (List.getElem?_eq_some_iff.mp hx).1
      rw [show k9 - tys.length = 0 by omega] at hx
      cases hx
      exact ⟨hAr, fA⟩⟩
  obtain ⟨t, a1, b1⟩ := kk H.size (fun i => H.size + 1 + i) cA F.heap (fun i j _ _ h => by have h9 : H.size + 1 + i = H.size + 1 + j := h; omega) hnl hK2 (by rw [← vr_rows hnm]; exact vr_lay hP2) (by rw [← vr_rows hnm]; exact vr_layD hD2) ⟨by rw [f1]; have := hS.1; omega, fun x h1 h2 => (hold x (Nat.lt_of_lt_of_le h1 hS.1)).trans (hS.2.1 x h1 h2), hS.2.2⟩ F rfl X'
  refine ⟨t, step t ?_, b1⟩
  have e : T.heap.size = H.size := by rw [hT]
  rw [e]
  exact a1
end VGM
/-! ===== END ===== -/
def RX0 : String := "SilkRise$Air"
def TX0 : u_T := fun k => match k with
  | 0 => ("SilkRise$Air", "plan", "LSilkRise$Plan;", true)
  | 1 => ("SilkRise$Air", "sky", "LSilkRise$Sky;", true)
  | _ => ("SilkRise$Air", "handsFull", "[I", true)
def tyX0 : Nat → FieldType := fun k => match k with
  | 0 => .object "SilkRise$Plan"
  | 1 => .object "SilkRise$Sky"
  | _ => .array .int
abbrev wsX00 : List Cond := u_ws RX0 TX0 3
theorem nmX0 : ∀ a, a < 3 → ∀ b, b < 3 → a ≠ b → (TX0 a).2.1 ≠ (TX0 b).2.1 := by decide +kernel
theorem tyX0_ok : ∀ k, k < 3 → parseFieldDescriptor (TX0 k).2.2.1 = some (tyX0 k) := by decide +kernel
theorem zin_0 : ∀ w ∈ u_ws RX0 TX0 3, w ∈ lw_tbl := by decide +kernel
def RX1 : String := "SilkRise$Course"
def TX1 : u_T := fun k => match k with
  | 0 => ("SilkRise$Course", "plan", "LSilkRise$Plan;", true)
  | 1 => ("SilkRise$Course", "now", "LSilkRise$State;", true)
  | 2 => ("SilkRise$Course", "sky", "LSilkRise$Sky;", true)
  | 3 => ("SilkRise$Course", "hours", "I", false)
  | 4 => ("SilkRise$Course", "end", "I", false)
  | 5 => ("SilkRise$Course", "hook", "I", false)
  | 6 => ("SilkRise$Course", "x", "I", false)
  | _ => ("SilkRise$Course", "earned", "I", false)
def tyX1 : Nat → FieldType := fun k => match k with
  | 0 => .object "SilkRise$Plan"
  | 1 => .object "SilkRise$State"
  | 2 => .object "SilkRise$Sky"
  | 3 => .int
  | 4 => .int
  | 5 => .int
  | 6 => .int
  | _ => .int
abbrev wsX10 : List Cond := u_ws RX1 TX1 8
theorem nmX1 : ∀ a, a < 8 → ∀ b, b < 8 → a ≠ b → (TX1 a).2.1 ≠ (TX1 b).2.1 := by decide +kernel
theorem tyX1_ok : ∀ k, k < 8 → parseFieldDescriptor (TX1 k).2.2.1 = some (tyX1 k) := by decide +kernel
theorem zin_1 : ∀ w ∈ u_ws RX1 TX1 8, w ∈ lw_tbl := by decide +kernel
def RX2 : String := "SilkRise$Filling"
def TX2 : u_T := fun k => match k with
  | 0 => ("SilkRise$Filling", "now", "LSilkRise$State;", true)
  | 1 => ("SilkRise$Filling", "sky", "LSilkRise$Sky;", true)
  | 2 => ("SilkRise$Filling", "course", "LSilkRise$Course;", true)
  | 3 => ("SilkRise$Filling", "gains", "[[I", true)
  | 4 => ("SilkRise$Filling", "best", "[[I", true)
  | _ => ("SilkRise$Filling", "hooks", "[I", true)
def tyX2 : Nat → FieldType := fun k => match k with
  | 0 => .object "SilkRise$State"
  | 1 => .object "SilkRise$Sky"
  | 2 => .object "SilkRise$Course"
  | 3 => .array (.array .int)
  | 4 => .array (.array .int)
  | _ => .array .int
abbrev wsX20 : List Cond := u_ws RX2 TX2 6
theorem nmX2 : ∀ a, a < 6 → ∀ b, b < 6 → a ≠ b → (TX2 a).2.1 ≠ (TX2 b).2.1 := by decide +kernel
theorem tyX2_ok : ∀ k, k < 6 → parseFieldDescriptor (TX2 k).2.2.1 = some (tyX2 k) := by decide +kernel
theorem zin_2 : ∀ w ∈ u_ws RX2 TX2 6, w ∈ lw_tbl := by decide +kernel
def RX3 : String := "SilkRise$Laws"
def TX3 : u_T := fun k => match k with
  | 0 => ("SilkRise$Laws", "cells", "[I", true)
  | 1 => ("SilkRise$Laws", "starts", "[I", true)
  | _ => ("SilkRise$Laws", "used", "I", false)
def tyX3 : Nat → FieldType := fun k => match k with
  | 0 => .array .int
  | 1 => .array .int
  | _ => .int
abbrev wsX30 : List Cond := u_ws RX3 TX3 3
theorem nmX3 : ∀ a, a < 3 → ∀ b, b < 3 → a ≠ b → (TX3 a).2.1 ≠ (TX3 b).2.1 := by decide +kernel
theorem tyX3_ok : ∀ k, k < 3 → parseFieldDescriptor (TX3 k).2.2.1 = some (tyX3 k) := by decide +kernel
theorem zin_3 : ∀ w ∈ u_ws RX3 TX3 3, w ∈ lw_tbl := by decide +kernel
def RX4 : String := "SilkRise$Past"
def TX4 : u_T := fun k => match k with
  | 0 => ("SilkRise$Past", "done", "[LSilkRise$State;", true)
  | 1 => ("SilkRise$Past", "next", "I", false)
  | 2 => ("SilkRise$Past", "depth", "I", false)
  | 3 => ("SilkRise$Past", "slots", "[LSilkRise$State;", true)
  | _ => ("SilkRise$Past", "heldSlots", "I", false)
def tyX4 : Nat → FieldType := fun k => match k with
  | 0 => .array (.object "SilkRise$State")
  | 1 => .int
  | 2 => .int
  | 3 => .array (.object "SilkRise$State")
  | _ => .int
abbrev wsX40 : List Cond := u_ws RX4 TX4 5
theorem nmX4 : ∀ a, a < 5 → ∀ b, b < 5 → a ≠ b → (TX4 a).2.1 ≠ (TX4 b).2.1 := by decide +kernel
theorem tyX4_ok : ∀ k, k < 5 → parseFieldDescriptor (TX4 k).2.2.1 = some (tyX4 k) := by decide +kernel
theorem zin_4 : ∀ w ∈ u_ws RX4 TX4 5, w ∈ lw_tbl := by decide +kernel
def RX5 : String := "SilkRise$Plan"
def TX5 : u_T := fun k => match k with
  | 0 => ("SilkRise$Plan", "start", "LSilkRise$State;", true)
  | 1 => ("SilkRise$Plan", "laws", "LSilkRise$Laws;", true)
  | 2 => ("SilkRise$Plan", "rim", "I", false)
  | 3 => ("SilkRise$Plan", "gusts", "I", false)
  | _ => ("SilkRise$Plan", "seed", "I", false)
def tyX5 : Nat → FieldType := fun k => match k with
  | 0 => .object "SilkRise$State"
  | 1 => .object "SilkRise$Laws"
  | 2 => .int
  | 3 => .int
  | _ => .int
abbrev wsX50 : List Cond := u_ws RX5 TX5 5
theorem nmX5 : ∀ a, a < 5 → ∀ b, b < 5 → a ≠ b → (TX5 a).2.1 ≠ (TX5 b).2.1 := by decide +kernel
theorem tyX5_ok : ∀ k, k < 5 → parseFieldDescriptor (TX5 k).2.2.1 = some (tyX5 k) := by decide +kernel
theorem zin_5 : ∀ w ∈ u_ws RX5 TX5 5, w ∈ lw_tbl := by decide +kernel
def RX6 : String := "SilkRise$Reader"
def TX6 : u_T := fun k => match k with
  | 0 => ("SilkRise$Reader", "tokens", "LSilkRise$Tokens;", true)
  | 1 => ("SilkRise$Reader", "draft", "LSilkRise$Plan;", true)
  | 2 => ("SilkRise$Reader", "names", "[J", true)
  | 3 => ("SilkRise$Reader", "named", "I", false)
  | 4 => ("SilkRise$Reader", "taken", "I", false)
  | 5 => ("SilkRise$Reader", "kind", "I", false)
  | 6 => ("SilkRise$Reader", "fault", "I", false)
  | 7 => ("SilkRise$Reader", "faultPlace", "I", false)
  | 8 => ("SilkRise$Reader", "lateFault", "I", false)
  | _ => ("SilkRise$Reader", "latePlace", "I", false)
def tyX6 : Nat → FieldType := fun k => match k with
  | 0 => .object "SilkRise$Tokens"
  | 1 => .object "SilkRise$Plan"
  | 2 => .array .long
  | 3 => .int
  | 4 => .int
  | 5 => .int
  | 6 => .int
  | 7 => .int
  | 8 => .int
  | _ => .int
abbrev wsX60 : List Cond := u_ws RX6 TX6 10
theorem nmX6 : ∀ a, a < 10 → ∀ b, b < 10 → a ≠ b → (TX6 a).2.1 ≠ (TX6 b).2.1 := by decide +kernel
theorem tyX6_ok : ∀ k, k < 10 → parseFieldDescriptor (TX6 k).2.2.1 = some (tyX6 k) := by decide +kernel
theorem zin_6 : ∀ w ∈ u_ws RX6 TX6 10, w ∈ lw_tbl := by decide +kernel
def RX7 : String := "SilkRise$Sky"
def TX7 : u_T := fun k => match k with
  | 0 => ("SilkRise$Sky", "laws", "LSilkRise$Laws;", true)
  | 1 => ("SilkRise$Sky", "vars", "[I", true)
  | _ => ("SilkRise$Sky", "stack", "[I", true)
def tyX7 : Nat → FieldType := fun k => match k with
  | 0 => .object "SilkRise$Laws"
  | 1 => .array .int
  | _ => .array .int
abbrev wsX70 : List Cond := u_ws RX7 TX7 3
theorem nmX7 : ∀ a, a < 3 → ∀ b, b < 3 → a ≠ b → (TX7 a).2.1 ≠ (TX7 b).2.1 := by decide +kernel
theorem tyX7_ok : ∀ k, k < 3 → parseFieldDescriptor (TX7 k).2.2.1 = some (tyX7 k) := by decide +kernel
theorem zin_7 : ∀ w ∈ u_ws RX7 TX7 3, w ∈ lw_tbl := by decide +kernel
def RX8 : String := "SilkRise$State"
def TX8 : u_T := fun k => match k with
  | 0 => ("SilkRise$State", "loads", "LSilkRise$Things;", true)
  | 1 => ("SilkRise$State", "silks", "LSilkRise$Things;", true)
  | 2 => ("SilkRise$State", "hooks", "LSilkRise$Things;", true)
  | 3 => ("SilkRise$State", "hour", "I", false)
  | 4 => ("SilkRise$State", "earned", "I", false)
  | _ => ("SilkRise$State", "paid", "I", false)
def tyX8 : Nat → FieldType := fun k => match k with
  | 0 => .object "SilkRise$Things"
  | 1 => .object "SilkRise$Things"
  | 2 => .object "SilkRise$Things"
  | 3 => .int
  | 4 => .int
  | _ => .int
abbrev wsX80 : List Cond := u_ws RX8 TX8 6
theorem nmX8 : ∀ a, a < 6 → ∀ b, b < 6 → a ≠ b → (TX8 a).2.1 ≠ (TX8 b).2.1 := by decide +kernel
theorem tyX8_ok : ∀ k, k < 6 → parseFieldDescriptor (TX8 k).2.2.1 = some (tyX8 k) := by decide +kernel
theorem zin_8 : ∀ w ∈ u_ws RX8 TX8 6, w ∈ lw_tbl := by decide +kernel
def RX9 : String := "SilkRise$Things"
def TX9 : u_T := fun k => match k with
  | 0 => ("SilkRise$Things", "most", "I", true)
  | 1 => ("SilkRise$Things", "width", "I", true)
  | 2 => ("SilkRise$Things", "cells", "[I", true)
  | _ => ("SilkRise$Things", "size", "I", false)
def tyX9 : Nat → FieldType := fun k => match k with
  | 0 => .int
  | 1 => .int
  | 2 => .array .int
  | _ => .int
abbrev wsX90 : List Cond := u_ws RX9 TX9 4
theorem nmX9 : ∀ a, a < 4 → ∀ b, b < 4 → a ≠ b → (TX9 a).2.1 ≠ (TX9 b).2.1 := by decide +kernel
theorem tyX9_ok : ∀ k, k < 4 → parseFieldDescriptor (TX9 k).2.2.1 = some (tyX9 k) := by decide +kernel
theorem zin_9 : ∀ w ∈ u_ws RX9 TX9 4, w ∈ lw_tbl := by decide +kernel
def RX10 : String := "SilkRise$Tokens"
def TX10 : u_T := fun k => match k with
  | 0 => ("SilkRise$Tokens", "words", "[J", true)
  | 1 => ("SilkRise$Tokens", "kinds", "[I", true)
  | 2 => ("SilkRise$Tokens", "places", "[I", true)
  | 3 => ("SilkRise$Tokens", "values", "[J", true)
  | 4 => ("SilkRise$Tokens", "size", "I", false)
  | 5 => ("SilkRise$Tokens", "tape", "[B", false)
  | 6 => ("SilkRise$Tokens", "tapeSize", "I", false)
  | _ => ("SilkRise$Tokens", "next", "I", false)
def tyX10 : Nat → FieldType := fun k => match k with
  | 0 => .array .long
  | 1 => .array .int
  | 2 => .array .int
  | 3 => .array .long
  | 4 => .int
  | 5 => .array .byte
  | 6 => .int
  | _ => .int
abbrev wsX100 : List Cond := u_ws RX10 TX10 8
theorem nmX10 : ∀ a, a < 8 → ∀ b, b < 8 → a ≠ b → (TX10 a).2.1 ≠ (TX10 b).2.1 := by decide +kernel
theorem tyX10_ok : ∀ k, k < 8 → parseFieldDescriptor (TX10 k).2.2.1 = some (tyX10 k) := by decide +kernel
theorem zin_10 : ∀ w ∈ u_ws RX10 TX10 8, w ∈ lw_tbl := by decide +kernel
def RX11 : String := "SilkRise"
def TX11 : u_T := fun k => match k with
  | 0 => ("SilkRise", "tape", "[B", true)
  | 1 => ("SilkRise", "tapeSize", "I", false)
  | 2 => ("SilkRise", "faultPlace", "I", false)
  | 3 => ("SilkRise", "plan", "LSilkRise$Plan;", true)
  | 4 => ("SilkRise", "draft", "LSilkRise$Plan;", true)
  | 5 => ("SilkRise", "reader", "LSilkRise$Reader;", true)
  | 6 => ("SilkRise", "now", "LSilkRise$State;", true)
  | 7 => ("SilkRise", "trial", "LSilkRise$State;", true)
  | 8 => ("SilkRise", "sky", "LSilkRise$Sky;", true)
  | 9 => ("SilkRise", "air", "LSilkRise$Air;", true)
  | 10 => ("SilkRise", "course", "LSilkRise$Course;", true)
  | 11 => ("SilkRise", "filling", "LSilkRise$Filling;", true)
  | 12 => ("SilkRise", "past", "LSilkRise$Past;", true)
  | _ => ("SilkRise", "told", "LSilkRise$Things;", true)
def tyX11 : Nat → FieldType := fun k => match k with
  | 0 => .array .byte
  | 1 => .int
  | 2 => .int
  | 3 => .object "SilkRise$Plan"
  | 4 => .object "SilkRise$Plan"
  | 5 => .object "SilkRise$Reader"
  | 6 => .object "SilkRise$State"
  | 7 => .object "SilkRise$State"
  | 8 => .object "SilkRise$Sky"
  | 9 => .object "SilkRise$Air"
  | 10 => .object "SilkRise$Course"
  | 11 => .object "SilkRise$Filling"
  | 12 => .object "SilkRise$Past"
  | _ => .object "SilkRise$Things"
abbrev wsX110 : List Cond := u_ws RX11 TX11 14
theorem nmX11 : ∀ a, a < 14 → ∀ b, b < 14 → a ≠ b → (TX11 a).2.1 ≠ (TX11 b).2.1 := by decide +kernel
theorem tyX11_ok : ∀ k, k < 14 → parseFieldDescriptor (TX11 k).2.2.1 = some (tyX11 k) := by decide +kernel
theorem zin_11 : ∀ w ∈ u_ws RX11 TX11 14, w ∈ lw_tbl := by decide +kernel
def RX12 : String := "SilkRiseModel"
def TX12 : u_T := fun k => match k with
  | 0 => ("SilkRiseModel", "thrown", "I", false)
  | 1 => ("SilkRiseModel", "tape", "[B", true)
  | 2 => ("SilkRiseModel", "taped", "I", false)
  | 3 => ("SilkRiseModel", "text", "[B", true)
  | 4 => ("SilkRiseModel", "size", "I", false)
  | 5 => ("SilkRiseModel", "tKind", "[I", true)
  | 6 => ("SilkRiseModel", "tPlace", "[I", true)
  | 7 => ("SilkRiseModel", "tValue", "[I", true)
  | 8 => ("SilkRiseModel", "tName", "[J", true)
  | 9 => ("SilkRiseModel", "keys", "[J", true)
  | 10 => ("SilkRiseModel", "tokens", "I", false)
  | 11 => ("SilkRiseModel", "t", "I", false)
  | 12 => ("SilkRiseModel", "open", "I", false)
  | 13 => ("SilkRiseModel", "fault", "I", false)
  | 14 => ("SilkRiseModel", "faultPlace", "I", false)
  | 15 => ("SilkRiseModel", "worst", "I", false)
  | 16 => ("SilkRiseModel", "worstPlace", "I", false)
  | 17 => ("SilkRiseModel", "place", "I", false)
  | 18 => ("SilkRiseModel", "live", "I", false)
  | 19 => ("SilkRiseModel", "side", "I", false)
  | 20 => ("SilkRiseModel", "names", "I", false)
  | 21 => ("SilkRiseModel", "nameOf", "[J", true)
  | 22 => ("SilkRiseModel", "loads", "[I", true)
  | 23 => ("SilkRiseModel", "xTold", "[I", true)
  | 24 => ("SilkRiseModel", "weightOf", "[I", true)
  | 25 => ("SilkRiseModel", "priceOf", "[I", true)
  | 26 => ("SilkRiseModel", "silks", "[I", true)
  | 27 => ("SilkRiseModel", "sizeOf", "[I", true)
  | 28 => ("SilkRiseModel", "pullTold", "[I", true)
  | 29 => ("SilkRiseModel", "hooks", "[I", true)
  | 30 => ("SilkRiseModel", "hookTold", "[I", true)
  | 31 => ("SilkRiseModel", "reachOf", "[I", true)
  | 32 => ("SilkRiseModel", "handsOf", "[I", true)
  | 33 => ("SilkRiseModel", "rim", "[I", true)
  | 34 => ("SilkRiseModel", "gusts", "[I", true)
  | 35 => ("SilkRiseModel", "seed", "[I", true)
  | 36 => ("SilkRiseModel", "lawFirst", "[I", true)
  | 37 => ("SilkRiseModel", "lawLast", "[I", true)
  | 38 => ("SilkRiseModel", "branches", "I", false)
  | 39 => ("SilkRiseModel", "hasTest", "[Z", true)
  | 40 => ("SilkRiseModel", "testFrom", "[I", true)
  | 41 => ("SilkRiseModel", "testMid", "[I", true)
  | 42 => ("SilkRiseModel", "testTo", "[I", true)
  | 43 => ("SilkRiseModel", "termTo", "[I", true)
  | 44 => ("SilkRiseModel", "codes", "I", false)
  | 45 => ("SilkRiseModel", "code", "[I", true)
  | 46 => ("SilkRiseModel", "codeInt", "[I", true)
  | 47 => ("SilkRiseModel", "waits", "[I", true)
  | 48 => ("SilkRiseModel", "waiting", "I", false)
  | 49 => ("SilkRiseModel", "variables", "[I", true)
  | 50 => ("SilkRiseModel", "pile", "[I", true)
  | 51 => ("SilkRiseModel", "isBroken", "Z", false)
  | 52 => ("SilkRiseModel", "now", "[I", true)
  | 53 => ("SilkRiseModel", "row", "[I", true)
  | 54 => ("SilkRiseModel", "lots", "I", false)
  | 55 => ("SilkRiseModel", "hookedNow", "[I", true)
  | 56 => ("SilkRiseModel", "highThen", "[I", true)
  | 57 => ("SilkRiseModel", "xThen", "[I", true)
  | 58 => ("SilkRiseModel", "paysNow", "[I", true)
  | 59 => ("SilkRiseModel", "undos", "I", false)
  | 60 => ("SilkRiseModel", "history", "[I", true)
  | 61 => ("SilkRiseModel", "flightHours", "I", false)
  | 62 => ("SilkRiseModel", "flightHow", "I", false)
  | 63 => ("SilkRiseModel", "flightHook", "I", false)
  | 64 => ("SilkRiseModel", "flightX", "I", false)
  | 65 => ("SilkRiseModel", "flightHigh", "I", false)
  | 66 => ("SilkRiseModel", "flightPays", "I", false)
  | 67 => ("SilkRiseModel", "footLoads", "[I", true)
  | 68 => ("SilkRiseModel", "atFoot", "I", false)
  | 69 => ("SilkRiseModel", "bringsBy", "[I", true)
  | 70 => ("SilkRiseModel", "canBe", "[Z", true)
  | 71 => ("SilkRiseModel", "fillMost", "I", false)
  | 72 => ("SilkRiseModel", "fillWay", "I", false)
  | 73 => ("SilkRiseModel", "needOf", "[I", true)
  | 74 => ("SilkRiseModel", "tolds", "I", false)
  | 75 => ("SilkRiseModel", "toldSize", "[I", true)
  | 76 => ("SilkRiseModel", "toldWeight", "[I", true)
  | 77 => ("SilkRiseModel", "toldX", "[I", true)
  | 78 => ("SilkRiseModel", "toldHours", "[I", true)
  | 79 => ("SilkRiseModel", "toldAt", "[I", true)
  | 80 => ("SilkRiseModel", "isHeld", "[Z", true)
  | _ => ("SilkRiseModel", "heldRows", "[I", true)
def tyX12 : Nat → FieldType := fun k => match k with
  | 0 => .int
  | 1 => .array .byte
  | 2 => .int
  | 3 => .array .byte
  | 4 => .int
  | 5 => .array .int
  | 6 => .array .int
  | 7 => .array .int
  | 8 => .array .long
  | 9 => .array .long
  | 10 => .int
  | 11 => .int
  | 12 => .int
  | 13 => .int
  | 14 => .int
  | 15 => .int
  | 16 => .int
  | 17 => .int
  | 18 => .int
  | 19 => .int
  | 20 => .int
  | 21 => .array .long
  | 22 => .array .int
  | 23 => .array .int
  | 24 => .array .int
  | 25 => .array .int
  | 26 => .array .int
  | 27 => .array .int
  | 28 => .array .int
  | 29 => .array .int
  | 30 => .array .int
  | 31 => .array .int
  | 32 => .array .int
  | 33 => .array .int
  | 34 => .array .int
  | 35 => .array .int
  | 36 => .array .int
  | 37 => .array .int
  | 38 => .int
  | 39 => .array .boolean
  | 40 => .array .int
  | 41 => .array .int
  | 42 => .array .int
  | 43 => .array .int
  | 44 => .int
  | 45 => .array .int
  | 46 => .array .int
  | 47 => .array .int
  | 48 => .int
  | 49 => .array .int
  | 50 => .array .int
  | 51 => .boolean
  | 52 => .array .int
  | 53 => .array .int
  | 54 => .int
  | 55 => .array .int
  | 56 => .array .int
  | 57 => .array .int
  | 58 => .array .int
  | 59 => .int
  | 60 => .array .int
  | 61 => .int
  | 62 => .int
  | 63 => .int
  | 64 => .int
  | 65 => .int
  | 66 => .int
  | 67 => .array .int
  | 68 => .int
  | 69 => .array .int
  | 70 => .array .boolean
  | 71 => .int
  | 72 => .int
  | 73 => .array .int
  | 74 => .int
  | 75 => .array .int
  | 76 => .array .int
  | 77 => .array .int
  | 78 => .array .int
  | 79 => .array .int
  | 80 => .array .boolean
  | _ => .array .int
abbrev wsX120 : List Cond := u_ws RX12 TX12 82
theorem nmX12 : ∀ a, a < 82 → ∀ b, b < 82 → a ≠ b → (TX12 a).2.1 ≠ (TX12 b).2.1 := by decide +kernel
theorem tyX12_ok : ∀ k, k < 82 → parseFieldDescriptor (TX12 k).2.2.1 = some (tyX12 k) := by decide +kernel
theorem zin_12 : ∀ w ∈ u_ws RX12 TX12 82, w ∈ lw_tbl := by decide +kernel
def zCl : List vw_C := [(RX0, TX0, 3), (RX1, TX1, 8), (RX2, TX2, 6), (RX3, TX3, 3), (RX4, TX4, 5), (RX5, TX5, 5), (RX6, TX6, 10), (RX7, TX7, 3), (RX8, TX8, 6), (RX9, TX9, 4), (RX10, TX10, 8), (RX11, TX11, 14), (RX12, TX12, 82)]
def zTy (ci : Nat) : Nat → FieldType := match ci with
  | 0 => tyX0
  | 1 => tyX1
  | 2 => tyX2
  | 3 => tyX3
  | 4 => tyX4
  | 5 => tyX5
  | 6 => tyX6
  | 7 => tyX7
  | 8 => tyX8
  | 9 => tyX9
  | 10 => tyX10
  | 11 => tyX11
  | 12 => tyX12
  | _ => fun _ => .int
def zN (ci : Nat) : Nat := [3, 8, 6, 3, 5, 5, 10, 3, 6, 4, 8, 14, 82].getD ci 0
theorem zcl_ok : ∀ (ci : Nat) (q : vw_C), zCl[ci]? = some q → (∀ w ∈ u_ws q.1 q.2.1 q.2.2, w ∈ lw_tbl) ∧ (∀ k, k < q.2.2 → parseFieldDescriptor (q.2.1 k).2.2.1 = some (zTy ci k)) ∧ (∀ a, a < q.2.2 → ∀ b, b < q.2.2 → a ≠ b → (q.2.1 a).2.1 ≠ (q.2.1 b).2.1) ∧ zN ci = q.2.2
  | 0, _, h => by cases h; exact ⟨zin_0, tyX0_ok, nmX0, rfl⟩
  | 1, _, h => by cases h; exact ⟨zin_1, tyX1_ok, nmX1, rfl⟩
  | 2, _, h => by cases h; exact ⟨zin_2, tyX2_ok, nmX2, rfl⟩
  | 3, _, h => by cases h; exact ⟨zin_3, tyX3_ok, nmX3, rfl⟩
  | 4, _, h => by cases h; exact ⟨zin_4, tyX4_ok, nmX4, rfl⟩
  | 5, _, h => by cases h; exact ⟨zin_5, tyX5_ok, nmX5, rfl⟩
  | 6, _, h => by cases h; exact ⟨zin_6, tyX6_ok, nmX6, rfl⟩
  | 7, _, h => by cases h; exact ⟨zin_7, tyX7_ok, nmX7, rfl⟩
  | 8, _, h => by cases h; exact ⟨zin_8, tyX8_ok, nmX8, rfl⟩
  | 9, _, h => by cases h; exact ⟨zin_9, tyX9_ok, nmX9, rfl⟩
  | 10, _, h => by cases h; exact ⟨zin_10, tyX10_ok, nmX10, rfl⟩
  | 11, _, h => by cases h; exact ⟨zin_11, tyX11_ok, nmX11, rfl⟩
  | 12, _, h => by cases h; exact ⟨zin_12, tyX12_ok, nmX12, rfl⟩
  | n + 13, q, h => by simp [zCl] at h
end
section
/-! A PURE MACHINE: bytecode over a memory of numbers. References are numbers from 7 on in the order of making (0: null; 1: the script; 2, 3: two String constants, 4, 5: their bytes). -/
abbrev zM : Type := (Nat × Nat × (Nat → Nat) × (Nat → Nat) × (Nat → Nat → Nat)) × (Nat → Nat → Int32) × (Nat → Nat → Int64)
abbrev zLs : Type := List (Nat × Value)
abbrev zR : Type := Option Value × zM
abbrev zE : Type := Nat × Instr × Nat × List Nat × Option (List Nat)
abbrev zC : Type := Nat → List Value → zM → Option zR
abbrev zK : Type := Nat → zLs → List Value → zM → Option zR
/-- what kind a reference is: a class's number; 20 int[], 21 byte[], 22 boolean[], 23 long[], 24 State[], 25 int[][] -/
def gK (M : zM) (r : Nat) : Nat := if r < 7 then (if r = 2 then 30 else if r = 3 then 30 else if r = 4 then 31 else if r = 5 then 31 else 99) else if r < M.1.1 + 7 then M.1.2.2.1 r else 99
def gN (M : zM) (r : Nat) : Nat := M.1.2.2.2.1 r
def gR (M : zM) (r j : Nat) : Nat := M.1.2.2.2.2 r j
def gI (M : zM) (r j : Nat) : Int32 := M.2.1 r j
def gL (M : zM) (r j : Nat) : Int64 := M.2.2 r j
def sI (M : zM) (r j : Nat) (x : Int32) : zM := (M.1, (fun a b => if a = r ∧ b = j then x else M.2.1 a b), M.2.2)
def sL (M : zM) (r j : Nat) (x : Int64) : zM := (M.1, M.2.1, (fun a b => if a = r ∧ b = j then x else M.2.2 a b))
def sR (M : zM) (r j : Nat) (x : Nat) : zM := ((M.1.1, M.1.2.1, M.1.2.2.1, M.1.2.2.2.1, (fun a b => if a = r ∧ b = j then x else M.1.2.2.2.2 a b)), M.2.1, M.2.2)
/-- f on from the places of dp is g's of sp, n of them -/
def cI (M : zM) (src sp dst dp n : Nat) : zM := (M.1, (fun a b => if a = dst ∧ dp ≤ b ∧ b < dp + n then M.2.1 src (sp + (b - dp)) else M.2.1 a b), M.2.2)
/-- one cell more, of kind kd, of len places, w of them counted -/
def alc (M : zM) (kd len : Nat) : zM := ((M.1.1 + 1, M.1.2.1 + len, (fun a => if a = M.1.1 + 7 then kd else M.1.2.2.1 a), (fun a => if a = M.1.1 + 7 then len else M.1.2.2.2.1 a), (fun a b => if a = M.1.1 + 7 then 0 else M.1.2.2.2.2 a b)), (fun a b => if a = M.1.1 + 7 then 0 else M.2.1 a b), (fun a b => if a = M.1.1 + 7 then 0 else M.2.2 a b))
/-- an array of n int arrays of k places -/
def alg (M : zM) (n k : Nat) : zM := ((M.1.1 + 1 + n, M.1.2.1 + n + n * k, (fun a => if a = M.1.1 + 7 then 25 else if M.1.1 + 7 ≤ a then 20 else M.1.2.2.1 a), (fun a => if a = M.1.1 + 7 then n else if M.1.1 + 7 ≤ a then k else M.1.2.2.2.1 a), (fun a b => if a = M.1.1 + 7 then (if b < n then M.1.1 + 8 + b else 0) else if M.1.1 + 7 ≤ a then 0 else M.1.2.2.2.2 a b)), (fun a b => if M.1.1 + 7 ≤ a then 0 else M.2.1 a b), (fun a b => if M.1.1 + 7 ≤ a then 0 else M.2.2 a b))
def zl : zLs → Nat → Option Value
  | [], _ => none
  | q :: r, i => match Nat.beq q.1 i with
    | true => some q.2
    | false => zl r i
def zmk (o : Option (List Nat)) (ls : zLs) : zLs := match o with
  | none => ls
  | some ps => ps.filterMap (fun i => (zl ls i).map (fun v => (i, v)))
/-- a place is stored to: as the kit's rows say it -/
def zs1 (ls : zLs) (i : Nat) (v : Value) : zLs := (i, v) :: ls.filter (fun q => !(q.1 == i) && !(q.1 + 1 == i && q.2.category == 2))
def zs2 (ls : zLs) (i : Nat) (v : Value) : zLs := (i, v) :: ls.filter (fun q => !(q.1 == i) && (!(q.1 == i + 1) && !(q.1 + 1 == i && q.2.category == 2)))
def lI (ls : zLs) (i : Nat) (f : Int32 → Option zR) : Option zR := match zl ls i with
  | some (.int x) => f x
  | _ => none
def lL (ls : zLs) (i : Nat) (f : Int64 → Option zR) : Option zR := match zl ls i with
  | some (.long x) => f x
  | _ => none
def lA (ls : zLs) (i : Nat) (f : Nat → Option zR) : Option zR := match zl ls i with
  | some (.ref x) => f x
  | _ => none
def pI (st : List Value) (f : Int32 → List Value → Option zR) : Option zR := match st with
  | .int x :: r => f x r
  | _ => none
def pL (st : List Value) (f : Int64 → List Value → Option zR) : Option zR := match st with
  | .long x :: r => f x r
  | _ => none
def pA (st : List Value) (f : Nat → List Value → Option zR) : Option zR := match st with
  | .ref x :: r => f x r
  | _ => none
/-- a value of one word -/
def p1 (st : List Value) (f : Value → List Value → Option zR) : Option zR := match st with
  | .int x :: r => f (.int x) r
  | .ref x :: r => f (.ref x) r
  | _ => none
def bV (o : Option zR) (f : zM → Option zR) : Option zR := match o with
  | some (none, M) => f M
  | _ => none
def bI (o : Option zR) (f : Int32 → zM → Option zR) : Option zR := match o with
  | some (some (.int x), M) => f x M
  | _ => none
def bL (o : Option zR) (f : Int64 → zM → Option zR) : Option zR := match o with
  | some (some (.long x), M) => f x M
  | _ => none
abbrev zin (i : Int32) (n : Nat) : Prop := 0 ≤ i.toInt ∧ i.toInt < (n : Int)
def zix (i : Int32) : Nat := i.toInt.toNat
def zsum (st : List Value) : Nat := (st.map fun v => v.category).sum
/-- nargs values off the stack, the rest has room -/
def pop (n : Nat) (st : List Value) (f : List Value → List Value → Option zR) : Option zR :=
  if n ≤ st.length ∧ zsum (st.drop n) ≤ 8 then f (st.take n).reverse (st.drop n) else none
def zsw (x : Int32) (f : Nat → Option zR) (d : Nat) : Int → List Nat → Option zR
  | _, [] => f d
  | lo, t :: ts => if x = Int32.ofInt lo then f t else zsw x f d (lo + 1) ts
def cBack (ret : Nat) (o : Option zR) (f : List Value → zM → Option zR) : Option zR :=
  if ret = 0 then bV o fun M => f [] M else if ret = 1 then bI o fun x M => f [.int x] M else bL o fun x M => f [.long x] M
def pN (st : List Value) (o : Option zR) : Option zR := match st with
  | [] => o
  | _ => none
def pS (sc : Option (Nat × (Nat → Int32))) (f : Nat → (Nat → Int32) → Option zR) : Option zR := match sc with
  | some s => f s.1 s.2
  | none => none
def okv (M : zM) : Value → Bool
  | .ref r => decide (r < M.1.1 + 7)
  | _ => true
/-- no reference beyond what is made -/
def okS (M : zM) (ls : zLs) (st : List Value) : Bool := st.all (okv M) && ls.all (fun q => okv M q.2)
abbrev ax (e : zE) (i : Nat) : Nat := e.2.2.2.1.getD i 0
/-- the bytes of the two String constants -/
def zby (r : Nat) : List Int32 := if r = 4 then [108, 111, 97, 100, 32, 115, 105, 108, 107, 32, 104, 111, 111, 107, 32, 108, 105, 102, 116, 32, 119, 105, 110, 100, 32, 116, 105, 101, 115, 32, 112, 97, 121, 115, 32, 114, 105, 109, 32, 103, 117, 115, 116, 115, 32, 115, 101, 101, 100, 32, 105, 102, 32, 116, 104, 101, 110, 32, 101, 108, 115, 101, 32, 104, 111, 117, 114, 32, 100, 97, 121, 32, 115, 105, 122, 101, 32, 119, 101, 105, 103, 104, 116, 32, 104, 105, 103, 104, 32, 97, 99, 114, 111, 115, 115, 32, 112, 114, 105, 99, 101, 32, 117, 112, 32, 115, 116, 111, 114, 101, 100, 32] else [59, 61, 43, 45, 42, 47, 60, 40, 41]
/-- one instruction -/
def stp (sc : Option (Nat × (Nat → Int32))) (cal : zC) (e : zE) (ls : zLs) (st : List Value) (M : zM) (k : zK) : Option zR :=
  match e.2.1 with
  | .iload_n i => lI ls i fun x => k e.2.2.1 ls (.int x :: st) M
  | .iload i => lI ls i fun x => k e.2.2.1 ls (.int x :: st) M
  | .lload_n i => lL ls i fun x => k e.2.2.1 ls (.long x :: st) M
  | .lload i => lL ls i fun x => k e.2.2.1 ls (.long x :: st) M
  | .aload_n i => lA ls i fun x => k e.2.2.1 ls (.ref x :: st) M
  | .aload i => lA ls i fun x => k e.2.2.1 ls (.ref x :: st) M
  | .istore_n i => pI st fun x st => k e.2.2.1 (zs1 ls i (.int x)) st M
  | .istore i => pI st fun x st => k e.2.2.1 (zs1 ls i (.int x)) st M
  | .astore_n i => pA st fun x st => k e.2.2.1 (zs1 ls i (.ref x)) st M
  | .astore i => pA st fun x st => k e.2.2.1 (zs1 ls i (.ref x)) st M
  | .lstore_n i => pL st fun x st => k e.2.2.1 (zs2 ls i (.long x)) st M
  | .lstore i => pL st fun x st => k e.2.2.1 (zs2 ls i (.long x)) st M
  | .iinc i n => lI ls i fun x => k e.2.2.1 (zs1 ls i (.int (x + Int32.ofInt n))) st M
  | .iconst n => k e.2.2.1 ls (.int (Int32.ofInt n) :: st) M
  | .bipush n => k e.2.2.1 ls (.int (Int8.ofInt n).toInt32 :: st) M
  | .sipush n => k e.2.2.1 ls (.int (Int16.ofInt n).toInt32 :: st) M
  | .lconst n => k e.2.2.1 ls (.long (Int64.ofNat n) :: st) M
  | .ldc _ => if ax e 0 = 0 then k e.2.2.1 ls (.int (Int32.ofNat (ax e 1)) :: st) M else k e.2.2.1 ls (.ref (ax e 1 + 2) :: st) M
  | .ldc_w _ => k e.2.2.1 ls (.int (Int32.ofNat (ax e 1)) :: st) M
  | .ldc2_w _ => k e.2.2.1 ls (.long (Int64.ofNat (ax e 1)) :: st) M
  | .dup => p1 st fun v st => k e.2.2.1 ls (v :: v :: st) M
  | .dup2 => p1 st fun v st => p1 st fun w st => k e.2.2.1 ls (v :: w :: v :: w :: st) M
  | .pop => p1 st fun _ st => k e.2.2.1 ls st M
  | .iadd => pI st fun y st => pI st fun x st => k e.2.2.1 ls (.int (x + y) :: st) M
  | .isub => pI st fun y st => pI st fun x st => k e.2.2.1 ls (.int (x - y) :: st) M
  | .imul => pI st fun y st => pI st fun x st => k e.2.2.1 ls (.int (x * y) :: st) M
  | .iand => pI st fun y st => pI st fun x st => k e.2.2.1 ls (.int (x &&& y) :: st) M
  | .ior => pI st fun y st => pI st fun x st => k e.2.2.1 ls (.int (x ||| y) :: st) M
  | .ixor => pI st fun y st => pI st fun x st => k e.2.2.1 ls (.int (x ^^^ y) :: st) M
  | .ishl => pI st fun y st => pI st fun x st => k e.2.2.1 ls (.int (x <<< (y &&& 31)) :: st) M
  | .ishr => pI st fun y st => pI st fun x st => k e.2.2.1 ls (.int (x >>> (y &&& 31)) :: st) M
  | .iushr => pI st fun y st => pI st fun x st => k e.2.2.1 ls (.int (x.toUInt32 >>> (y.toUInt32 &&& 31)).toInt32 :: st) M
  | .ineg => pI st fun x st => k e.2.2.1 ls (.int (-x) :: st) M
  | .idiv => pI st fun y st => pI st fun x st => if y = 0 then none else k e.2.2.1 ls (.int (x / y) :: st) M
  | .irem => pI st fun y st => pI st fun x st => if y = 0 then none else k e.2.2.1 ls (.int (x - x / y * y) :: st) M
  | .i2b => pI st fun x st => k e.2.2.1 ls (.int x.toInt8.toInt32 :: st) M
  | .i2c => pI st fun x st => k e.2.2.1 ls (.int (x.toUInt32 % 65536).toInt32 :: st) M
  | .i2l => pI st fun x st => k e.2.2.1 ls (.long x.toInt64 :: st) M
  | .l2i => pL st fun x st => k e.2.2.1 ls (.int x.toInt32 :: st) M
  | .ladd => pL st fun y st => pL st fun x st => k e.2.2.1 ls (.long (x + y) :: st) M
  | .lmul => pL st fun y st => pL st fun x st => k e.2.2.1 ls (.long (x * y) :: st) M
  | .lcmp => pL st fun y st => pL st fun x st => k e.2.2.1 ls (.int (lg_cmp x y) :: st) M
  | .goto _ => k (ax e 0) ls st M
  | .ifCond .eq _ => pI st fun x st => if x = 0 then k (ax e 0) ls st M else k e.2.2.1 ls st M
  | .ifCond .ne _ => pI st fun x st => if ¬ x = 0 then k (ax e 0) ls st M else k e.2.2.1 ls st M
  | .ifCond .lt _ => pI st fun x st => if x < 0 then k (ax e 0) ls st M else k e.2.2.1 ls st M
  | .ifCond .ge _ => pI st fun x st => if 0 ≤ x then k (ax e 0) ls st M else k e.2.2.1 ls st M
  | .ifCond .gt _ => pI st fun x st => if 0 < x then k (ax e 0) ls st M else k e.2.2.1 ls st M
  | .ifCond .le _ => pI st fun x st => if x ≤ 0 then k (ax e 0) ls st M else k e.2.2.1 ls st M
  | .if_icmp .eq _ => pI st fun y st => pI st fun x st => if x = y then k (ax e 0) ls st M else k e.2.2.1 ls st M
  | .if_icmp .ne _ => pI st fun y st => pI st fun x st => if ¬ x = y then k (ax e 0) ls st M else k e.2.2.1 ls st M
  | .if_icmp .lt _ => pI st fun y st => pI st fun x st => if x < y then k (ax e 0) ls st M else k e.2.2.1 ls st M
  | .if_icmp .ge _ => pI st fun y st => pI st fun x st => if y ≤ x then k (ax e 0) ls st M else k e.2.2.1 ls st M
  | .if_icmp .gt _ => pI st fun y st => pI st fun x st => if y < x then k (ax e 0) ls st M else k e.2.2.1 ls st M
  | .if_icmp .le _ => pI st fun y st => pI st fun x st => if x ≤ y then k (ax e 0) ls st M else k e.2.2.1 ls st M
  | .tableswitch _ lo _ _ => pI st fun x st => zsw x (fun t => k t ls st M) (ax e 0) lo (e.2.2.2.1.drop 1)
  | .getfield _ => if ax e 0 = 30 then (if ax e 1 = 0 then pA st fun r st => if gK M r = 30 then k e.2.2.1 ls (.ref (r + 2) :: st) M else none
      else pA st fun r st => if gK M r = 30 then k e.2.2.1 ls (.int 0 :: st) M else none)
    else if ax e 2 = 0 then pA st fun r st => if gK M r = ax e 0 then k e.2.2.1 ls (.int (gI M r (ax e 1)) :: st) M else none
    else if ax e 2 = 1 then pA st fun r st => if gK M r = ax e 0 then k e.2.2.1 ls (.long (gL M r (ax e 1)) :: st) M else none
    else pA st fun r st => if gK M r = ax e 0 then k e.2.2.1 ls (.ref (gR M r (ax e 1)) :: st) M else none
  | .putfield _ => if ax e 2 = 0 then pI st fun x st => pA st fun r st => if gK M r = ax e 0 then k e.2.2.1 ls st (sI M r (ax e 1) x) else none
    else if ax e 2 = 1 then pL st fun x st => pA st fun r st => if gK M r = ax e 0 then k e.2.2.1 ls st (sL M r (ax e 1) x) else none
    else pA st fun x st => pA st fun r st => if gK M r = ax e 0 ∧ x < M.1.1 + 7 then k e.2.2.1 ls st (sR M r (ax e 1) x) else none
  | .getstatic _ => if ax e 0 = 0 then k e.2.2.1 ls (.int 1 :: st) M else k e.2.2.1 ls (.retAddr 0 :: st) M
  | .iaload => if ax e 0 = 40 then pS sc fun L xs => pI st fun i st => pA st fun r st => if r = 1 ∧ zin i L then k e.2.2.1 ls (.int (xs (zix i)) :: st) M else none
    else pI st fun i st => pA st fun r st => if gK M r = 20 ∧ zin i (gN M r) then k e.2.2.1 ls (.int (gI M r (zix i)) :: st) M else none
  | .laload => pI st fun i st => pA st fun r st => if gK M r = 23 ∧ zin i (gN M r) then k e.2.2.1 ls (.long (gL M r (zix i)) :: st) M else none
  | .baload => if ax e 0 = 31 then pI st fun i st => pA st fun r st => if gK M r = 31 ∧ zin i (zby r).length then k e.2.2.1 ls (.int ((zby r).getD (zix i) 0) :: st) M else none
    else pI st fun i st => pA st fun r st => if gK M r = ax e 0 ∧ zin i (gN M r) then k e.2.2.1 ls (.int (gI M r (zix i)) :: st) M else none
  | .aaload => pI st fun i st => pA st fun r st => if gK M r = ax e 0 ∧ zin i (gN M r) then k e.2.2.1 ls (.ref (gR M r (zix i)) :: st) M else none
  | .iastore => pI st fun x st => pI st fun i st => pA st fun r st => if gK M r = 20 ∧ zin i (gN M r) then k e.2.2.1 ls st (sI M r (zix i) x) else none
  | .lastore => pL st fun x st => pI st fun i st => pA st fun r st => if gK M r = 23 ∧ zin i (gN M r) then k e.2.2.1 ls st (sL M r (zix i) x) else none
  | .bastore => if ax e 0 = 21 then pI st fun x st => pI st fun i st => pA st fun r st => if gK M r = 21 ∧ zin i (gN M r) then k e.2.2.1 ls st (sI M r (zix i) x.toInt8.toInt32) else none
    else pI st fun x st => pI st fun i st => pA st fun r st => if gK M r = 22 ∧ zin i (gN M r) then k e.2.2.1 ls st (sI M r (zix i) (x &&& 1)) else none
  | .aastore => pA st fun x st => pI st fun i st => pA st fun r st => if gK M r = 24 ∧ zin i (gN M r) ∧ gK M x = 8 then k e.2.2.1 ls st (sR M r (zix i) x) else none
  | .arraylength => if ax e 0 = 40 then pS sc fun L _ => pA st fun r st => if r = 1 then k e.2.2.1 ls (.int (Int32.ofNat L) :: st) M else none
    else if ax e 0 = 31 then pA st fun r st => if gK M r = 31 then k e.2.2.1 ls (.int (Int32.ofNat (zby r).length) :: st) M else none
    else pA st fun r st => if gK M r = ax e 0 then k e.2.2.1 ls (.int (Int32.ofNat (gN M r)) :: st) M else none
  | .new _ => if okS M ls st = true then k e.2.2.1 ls (.ref (M.1.1 + 7) :: st) (alc M (ax e 0) (ax e 1)) else none
  | .newarray _ => pI st fun n st => if (0 ≤ n.toInt ∧ n.toInt < 100000) ∧ okS M ls st = true then k e.2.2.1 ls (.ref (M.1.1 + 7) :: st) (alc M (ax e 0) n.toInt.toNat) else none
  | .anewarray _ => pI st fun n st => if (0 ≤ n.toInt ∧ n.toInt < 100000) ∧ okS M ls st = true then k e.2.2.1 ls (.ref (M.1.1 + 7) :: st) (alc M 24 n.toInt.toNat) else none
  | .multianewarray _ _ => pI st fun m st => pI st fun n st => if (0 ≤ n.toInt ∧ n.toInt < 1000) ∧ (0 ≤ m.toInt ∧ m.toInt < 1000) ∧ okS M ls st = true then k e.2.2.1 ls (.ref (M.1.1 + 7) :: st) (alg M n.toInt.toNat m.toInt.toNat) else none
  | .invokestatic _ => if ax e 0 = 9999 then pI st fun n st => pI st fun dp st => pA st fun d st => pI st fun sp st => pA st fun s st =>
        if gK M s = 20 ∧ gK M d = 20 ∧ 0 ≤ sp.toInt ∧ 0 ≤ dp.toInt ∧ 0 ≤ n.toInt ∧ sp.toInt + n.toInt ≤ gN M s ∧ dp.toInt + n.toInt ≤ gN M d then pN st (k e.2.2.1 ls [] (cI M s (zix sp) d (zix dp) (zix n))) else none
    else pop (ax e 1) st fun as st => cBack (ax e 2) (cal (ax e 0) as M) fun v M1 => if M1.1.1 = M.1.1 then k e.2.2.1 ls (v ++ st) M1 else none
  | .invokevirtual _ => pop (ax e 1) st fun as st => pA st fun r st => if gK M r = ax e 3 then cBack (ax e 2) (cal (ax e 0) (.ref r :: as) M) fun v M1 => if M1.1.1 = M.1.1 then k e.2.2.1 ls (v ++ st) M1 else none else none
  | .invokespecial _ => if ax e 0 = 9998 then pA st fun _ st => pN st (k e.2.2.1 ls [] M)
    else pop (ax e 1) st fun as st => pA st fun r st => if okS M ls st = true then cBack 0 (cal (ax e 0) (.ref r :: as) M) fun v M1 => k e.2.2.1 ls (v ++ st) M1 else none
  | .ireturn => pI st fun x st => pN st (if ax e 0 = 0 then some (some (.int x), M)
      else if ax e 0 = 1 then (if x = 0 ∨ x = 1 then some (some (.int x), M) else none)
      else if ax e 0 = 2 then (if 0 ≤ x.toInt ∧ x.toInt < 65536 then some (some (.int x), M) else none)
      else if -128 ≤ x.toInt ∧ x.toInt < 128 then some (some (.int x), M) else none)
  | .lreturn => pL st fun x st => pN st (some (some (.long x), M))
  | .return_ => pN st (some (none, M))
  | _ => none
def zent : List zE → Nat → Option zE
  | [], _ => none
  | e :: r, pc => match Nat.beq e.1 pc with
    | true => some e
    | false => zent r pc
def zms (cd : List zE) (pc : Nat) (ls : zLs) : zLs := match zent cd pc with
  | some e => zmk e.2.2.2.2 ls
  | none => ls
def exe (sc : Option (Nat × (Nat → Int32))) (cal : zC) (cd : List zE) : Nat → zK
  | 0 => fun _ _ _ _ => none
  | n + 1 => fun pc ls st M => match zent cd pc with
    | none => none
    | some e => stp sc cal e ls st M (fun pc' ls' st' M' => exe sc cal cd n pc' (zms cd pc' ls') st' M')
/-- method y by its code, d calls deep at most, each of n instructions at most -/
def mth (cod : Nat → List zE) (n : Nat) : Nat → zC
  | 0 => fun _ _ _ => none
  | d + 1 => fun y as M => exe none (mth cod n d) (cod y) n 0 (lv_args 0 as) [] M
end
section
/-! the limit over the fuel: 'ev' has an equation an instruction -/
def cLe (c c' : zC) : Prop := ∀ z as M r, c z as M = some r → c' z as M = some r
def kLe (k k' : zK) : Prop := ∀ pc ls st M r, k pc ls st M = some r → k' pc ls st M = some r
noncomputable def lim (f : Nat → Option zR) : Option zR := @dite _ (∃ r, ∃ n, f n = some r) (Classical.propDecidable _) (fun h => some (Classical.choose h)) (fun _ => none)
theorem ch_le {f : Nat → Option zR} (hf : ∀ n r, f n = some r → f (n + 1) = some r) {r : zR} : ∀ {n m : Nat}, n ≤ m → f n = some r → f m = some r := by
  intro n m h e
  induction h with
  | refl => exact e
  | step _ ih => exact hf _ _ ih
theorem lim_of {f : Nat → Option zR} (hf : ∀ n r, f n = some r → f (n + 1) = some r) {r : zR} {n : Nat} (h : f n = some r) : lim f = some r := by
  have hx : ∃ r, ∃ n, f n = some r := ⟨r, n, h⟩
  have e : lim f = some (Classical.choose hx) := by unfold lim; exact dif_pos hx
  rw [e]
  obtain ⟨m, hm⟩ := Classical.choose_spec hx
  have h1 := ch_le hf (Nat.le_max_left n m) h
  have h2 := ch_le hf (Nat.le_max_right n m) hm
  exact h2.symm.trans h1
theorem lim_ex {f : Nat → Option zR} {r : zR} (h : lim f = some r) : ∃ n, f n = some r := by
  unfold lim at h
  split at h
  · rename_i hx
    cases h
    exact Classical.choose_spec hx
  · cases h
noncomputable def limC (c : Nat → zC) : zC := fun z as M => lim (fun n => c n z as M)
noncomputable def limK (k : Nat → zK) : zK := fun pc ls st M => lim (fun n => k n pc ls st M)
def Ct (F : zC → zK → Option zR) : Prop :=
  (∀ c c' k k' r, cLe c c' → kLe k k' → F c k = some r → F c' k' = some r) ∧
  (∀ (c : Nat → zC) (k : Nat → zK), (∀ n, cLe (c n) (c (n + 1))) → (∀ n, kLe (k n) (k (n + 1))) → ∀ r, F (limC c) (limK k) = some r → ∃ n, F (c n) (k n) = some r)
theorem Ct_k (pc : Nat) (ls : zLs) (st : List Value) (M : zM) : Ct (fun _ k => k pc ls st M) := ⟨fun _ _ _ _ r _ hk h => hk _ _ _ _ r h, fun _ _ _ _ _ h => lim_ex h⟩
theorem Ct_call (z : Nat) (as : List Value) (M : zM) : Ct (fun c _ => c z as M) := ⟨fun _ _ _ _ r hc _ h => hc _ _ _ r h, fun _ _ _ _ _ h => lim_ex h⟩
theorem Ct_o (o : Option zR) : Ct (fun _ _ => o) := ⟨fun _ _ _ _ _ _ _ h => h, fun _ _ _ _ _ h => ⟨0, h⟩⟩
theorem Ct_ite {p : Prop} {_ : Decidable p} {F G : zC → zK → Option zR} (hF : Ct F) (hG : Ct G) : Ct (fun c k => if p then F c k else G c k) := by
  by_cases h : p
  · simp only [h, if_true]; exact hF
  · simp only [h, if_false]; exact hG
theorem Ct_lI {ls : zLs} {i : Nat} {F : Int32 → zC → zK → Option zR} (h : ∀ x, Ct (F x)) : Ct (fun c k => lI ls i (fun x => F x c k)) := by
  unfold lI
  split
  · exact h _
  · exact Ct_o _
theorem Ct_lL {ls : zLs} {i : Nat} {F : Int64 → zC → zK → Option zR} (h : ∀ x, Ct (F x)) : Ct (fun c k => lL ls i (fun x => F x c k)) := by
  unfold lL
  split
  · exact h _
  · exact Ct_o _
theorem Ct_lA {ls : zLs} {i : Nat} {F : Nat → zC → zK → Option zR} (h : ∀ x, Ct (F x)) : Ct (fun c k => lA ls i (fun x => F x c k)) := by
  unfold lA
  split
  · exact h _
  · exact Ct_o _
theorem Ct_pI {st : List Value} {F : Int32 → List Value → zC → zK → Option zR} (h : ∀ x st, Ct (F x st)) : Ct (fun c k => pI st (fun x st => F x st c k)) := by
  unfold pI
  split
  · exact h _ _
  · exact Ct_o _
theorem Ct_pL {st : List Value} {F : Int64 → List Value → zC → zK → Option zR} (h : ∀ x st, Ct (F x st)) : Ct (fun c k => pL st (fun x st => F x st c k)) := by
  unfold pL
  split
  · exact h _ _
  · exact Ct_o _
theorem Ct_pA {st : List Value} {F : Nat → List Value → zC → zK → Option zR} (h : ∀ x st, Ct (F x st)) : Ct (fun c k => pA st (fun x st => F x st c k)) := by
  unfold pA
  split
  · exact h _ _
  · exact Ct_o _
theorem Ct_p1 {st : List Value} {F : Value → List Value → zC → zK → Option zR} (h : ∀ x st, Ct (F x st)) : Ct (fun c k => p1 st (fun x st => F x st c k)) := by
  unfold p1
  split
  · exact h _ _
  · exact h _ _
  · exact Ct_o _
theorem Ct_pN {st : List Value} {F : zC → zK → Option zR} (h : Ct F) : Ct (fun c k => pN st (F c k)) := by
  unfold pN
  split
  · exact h
  · exact Ct_o _
theorem Ct_pS {sc : Option (Nat × (Nat → Int32))} {F : Nat → (Nat → Int32) → zC → zK → Option zR} (h : ∀ x st, Ct (F x st)) : Ct (fun c k => pS sc (fun x st => F x st c k)) := by
  unfold pS
  split
  · exact h _ _
  · exact Ct_o _
theorem Ct_pop {n : Nat} {st : List Value} {F : List Value → List Value → zC → zK → Option zR} (h : ∀ x st, Ct (F x st)) : Ct (fun c k => pop n st (fun x st => F x st c k)) := by
  unfold pop
  exact Ct_ite (h _ _) (Ct_o _)
theorem Ct_zsw {x : Int32} {F : Nat → zC → zK → Option zR} (h : ∀ t, Ct (F t)) (d : Nat) : ∀ (ts : List Nat) (lo : Int), Ct (fun c k => zsw x (fun t => F t c k) d lo ts)
  | [], _ => h d
  | _ :: ts, lo => Ct_ite (h _) (Ct_zsw h d ts (lo + 1))
theorem bV_some {o : Option zR} {f : (zM → Option zR)} {r : zR} (h : bV o f = some r) : ∃ M, o = some (none, M) ∧ f M = some r := by
  unfold bV at h
  split at h
  · exact ⟨_, rfl, h⟩
  · cases h
theorem Ct_bV {G : zC → zK → Option zR} {F : zM → zC → zK → Option zR} (hG : Ct G) (h : ∀ M, Ct (F M)) : Ct (fun c k => bV (G c k) (fun M => F M c k)) := by
  refine ⟨fun c c' k k' r hc hk e => ?_, fun c k hc hk r e => ?_⟩
  · obtain ⟨M, e1, e2⟩ := bV_some e
    show bV (G c' k') (fun M => F M c' k') = some r
    rw [hG.1 _ _ _ _ _ hc hk e1]
    exact (h M).1 _ _ _ _ _ hc hk e2
  · obtain ⟨M, e1, e2⟩ := bV_some e
    obtain ⟨n1, h1⟩ := hG.2 _ _ hc hk _ e1
    obtain ⟨n2, h2⟩ := (h M).2 _ _ hc hk _ e2
    have cc : ∀ {n m : Nat}, n ≤ m → cLe (c n) (c m) := fun hnm z as M r => ch_le (f := fun n => c n z as M) (fun n r => hc n z as M r) hnm
    have kk : ∀ {n m : Nat}, n ≤ m → kLe (k n) (k m) := fun hnm a1 a2 a3 a4 r => ch_le (f := fun n => k n a1 a2 a3 a4) (fun n r => hk n a1 a2 a3 a4 r) hnm
    refine ⟨max n1 n2, ?_⟩
    have g1 := hG.1 _ _ _ _ _ (cc (Nat.le_max_left n1 n2)) (kk (Nat.le_max_left n1 n2)) h1
    have g2 := (h M).1 _ _ _ _ _ (cc (Nat.le_max_right n1 n2)) (kk (Nat.le_max_right n1 n2)) h2
    show bV (G (c (max n1 n2)) (k (max n1 n2))) (fun M => F M (c (max n1 n2)) (k (max n1 n2))) = some r
    rw [g1]
    exact g2
theorem bI_some {o : Option zR} {f : (Int32 → zM → Option zR)} {r : zR} (h : bI o f = some r) : ∃ x M, o = some (some (.int x), M) ∧ f x M = some r := by
  unfold bI at h
  split at h
  · exact ⟨_, _, rfl, h⟩
  · cases h
theorem Ct_bI {G : zC → zK → Option zR} {F : Int32 → zM → zC → zK → Option zR} (hG : Ct G) (h : ∀ x M, Ct (F x M)) : Ct (fun c k => bI (G c k) (fun x M => F x M c k)) := by
  refine ⟨fun c c' k k' r hc hk e => ?_, fun c k hc hk r e => ?_⟩
  · obtain ⟨x, M, e1, e2⟩ := bI_some e
    show bI (G c' k') (fun x M => F x M c' k') = some r
    rw [hG.1 _ _ _ _ _ hc hk e1]
    exact (h x M).1 _ _ _ _ _ hc hk e2
  · obtain ⟨x, M, e1, e2⟩ := bI_some e
    obtain ⟨n1, h1⟩ := hG.2 _ _ hc hk _ e1
    obtain ⟨n2, h2⟩ := (h x M).2 _ _ hc hk _ e2
    have cc : ∀ {n m : Nat}, n ≤ m → cLe (c n) (c m) := fun hnm z as M r => ch_le (f := fun n => c n z as M) (fun n r => hc n z as M r) hnm
    have kk : ∀ {n m : Nat}, n ≤ m → kLe (k n) (k m) := fun hnm a1 a2 a3 a4 r => ch_le (f := fun n => k n a1 a2 a3 a4) (fun n r => hk n a1 a2 a3 a4 r) hnm
    refine ⟨max n1 n2, ?_⟩
    have g1 := hG.1 _ _ _ _ _ (cc (Nat.le_max_left n1 n2)) (kk (Nat.le_max_left n1 n2)) h1
    have g2 := (h x M).1 _ _ _ _ _ (cc (Nat.le_max_right n1 n2)) (kk (Nat.le_max_right n1 n2)) h2
    show bI (G (c (max n1 n2)) (k (max n1 n2))) (fun x M => F x M (c (max n1 n2)) (k (max n1 n2))) = some r
    rw [g1]
    exact g2
theorem bL_some {o : Option zR} {f : (Int64 → zM → Option zR)} {r : zR} (h : bL o f = some r) : ∃ x M, o = some (some (.long x), M) ∧ f x M = some r := by
  unfold bL at h
  split at h
  · exact ⟨_, _, rfl, h⟩
  · cases h
theorem Ct_bL {G : zC → zK → Option zR} {F : Int64 → zM → zC → zK → Option zR} (hG : Ct G) (h : ∀ x M, Ct (F x M)) : Ct (fun c k => bL (G c k) (fun x M => F x M c k)) := by
  refine ⟨fun c c' k k' r hc hk e => ?_, fun c k hc hk r e => ?_⟩
  · obtain ⟨x, M, e1, e2⟩ := bL_some e
    show bL (G c' k') (fun x M => F x M c' k') = some r
    rw [hG.1 _ _ _ _ _ hc hk e1]
    exact (h x M).1 _ _ _ _ _ hc hk e2
  · obtain ⟨x, M, e1, e2⟩ := bL_some e
    obtain ⟨n1, h1⟩ := hG.2 _ _ hc hk _ e1
    obtain ⟨n2, h2⟩ := (h x M).2 _ _ hc hk _ e2
    have cc : ∀ {n m : Nat}, n ≤ m → cLe (c n) (c m) := fun hnm z as M r => ch_le (f := fun n => c n z as M) (fun n r => hc n z as M r) hnm
    have kk : ∀ {n m : Nat}, n ≤ m → kLe (k n) (k m) := fun hnm a1 a2 a3 a4 r => ch_le (f := fun n => k n a1 a2 a3 a4) (fun n r => hk n a1 a2 a3 a4 r) hnm
    refine ⟨max n1 n2, ?_⟩
    have g1 := hG.1 _ _ _ _ _ (cc (Nat.le_max_left n1 n2)) (kk (Nat.le_max_left n1 n2)) h1
    have g2 := (h x M).1 _ _ _ _ _ (cc (Nat.le_max_right n1 n2)) (kk (Nat.le_max_right n1 n2)) h2
    show bL (G (c (max n1 n2)) (k (max n1 n2))) (fun x M => F x M (c (max n1 n2)) (k (max n1 n2))) = some r
    rw [g1]
    exact g2
theorem Ct_cB {ret : Nat} {G : zC → zK → Option zR} {F : List Value → zM → zC → zK → Option zR} (hG : Ct G) (h : ∀ v M, Ct (F v M)) : Ct (fun c k => cBack ret (G c k) (fun v M => F v M c k)) := by
  unfold cBack
  exact Ct_ite (Ct_bV hG fun M => h _ M) (Ct_ite (Ct_bI hG fun x M => h _ M) (Ct_bL hG fun x M => h _ M))
theorem stp_Ct (sc : Option (Nat × (Nat → Int32))) (e : zE) (ls : zLs) (st : List Value) (M : zM) : Ct (fun c k => stp sc c e ls st M k) := by
  obtain ⟨pc, ins, nxt, aux, ld⟩ := e
  cases ins
  case ifCond c o => cases c <;> exact Ct_pI fun _ _ => Ct_ite (Ct_k ..) (Ct_k ..)
  case if_icmp c o => cases c <;> exact Ct_pI fun _ _ => Ct_pI fun _ _ => Ct_ite (Ct_k ..) (Ct_k ..)
  all_goals first
    | exact Ct_o none
    | exact Ct_k ..
    | exact Ct_lI fun _ => Ct_k ..
    | exact Ct_lL fun _ => Ct_k ..
    | exact Ct_lA fun _ => Ct_k ..
    | exact Ct_pI fun _ _ => Ct_k ..
    | exact Ct_pL fun _ _ => Ct_k ..
    | exact Ct_pA fun _ _ => Ct_k ..
    | exact Ct_p1 fun _ _ => Ct_k ..
    | exact Ct_p1 fun _ _ => Ct_p1 fun _ _ => Ct_k ..
    | exact Ct_pI fun _ _ => Ct_pI fun _ _ => Ct_k ..
    | exact Ct_pL fun _ _ => Ct_pL fun _ _ => Ct_k ..
    | exact Ct_pI fun _ _ => Ct_pI fun _ _ => Ct_ite (Ct_o _) (Ct_k ..)
    | exact Ct_pI fun _ _ => Ct_ite (Ct_k ..) (Ct_o _)
    | exact Ct_pI fun _ _ => Ct_pI fun _ _ => Ct_ite (Ct_k ..) (Ct_o _)
    | exact Ct_pN (Ct_o _)
    | exact Ct_pI fun _ _ => Ct_pN (Ct_o _)
    | exact Ct_pL fun _ _ => Ct_pN (Ct_o _)
    | exact Ct_ite (Ct_k ..) (Ct_k ..)
    | exact Ct_ite (Ct_k ..) (Ct_o _)
    | exact Ct_pI fun _ _ => Ct_pA fun _ _ => Ct_ite (Ct_k ..) (Ct_o _)
    | exact Ct_pI fun _ _ => Ct_pI fun _ _ => Ct_pA fun _ _ => Ct_ite (Ct_k ..) (Ct_o _)
    | exact Ct_pL fun _ _ => Ct_pI fun _ _ => Ct_pA fun _ _ => Ct_ite (Ct_k ..) (Ct_o _)
    | exact Ct_pA fun _ _ => Ct_pI fun _ _ => Ct_pA fun _ _ => Ct_ite (Ct_k ..) (Ct_o _)
    | skip
  case tableswitch d lo hi os => exact Ct_pI fun _ _ => Ct_zsw (fun _ => Ct_k ..) _ _ _
  case getfield i => exact Ct_ite (Ct_ite (Ct_pA fun _ _ => Ct_ite (Ct_k ..) (Ct_o _)) (Ct_pA fun _ _ => Ct_ite (Ct_k ..) (Ct_o _))) (Ct_ite (Ct_pA fun _ _ => Ct_ite (Ct_k ..) (Ct_o _)) (Ct_ite (Ct_pA fun _ _ => Ct_ite (Ct_k ..) (Ct_o _)) (Ct_pA fun _ _ => Ct_ite (Ct_k ..) (Ct_o _))))
  case putfield i => exact Ct_ite (Ct_pI fun _ _ => Ct_pA fun _ _ => Ct_ite (Ct_k ..) (Ct_o _)) (Ct_ite (Ct_pL fun _ _ => Ct_pA fun _ _ => Ct_ite (Ct_k ..) (Ct_o _)) (Ct_pA fun _ _ => Ct_pA fun _ _ => Ct_ite (Ct_k ..) (Ct_o _)))
  case iaload => exact Ct_ite (Ct_pS fun _ _ => Ct_pI fun _ _ => Ct_pA fun _ _ => Ct_ite (Ct_k ..) (Ct_o _)) (Ct_pI fun _ _ => Ct_pA fun _ _ => Ct_ite (Ct_k ..) (Ct_o _))
  case baload => exact Ct_ite (Ct_pI fun _ _ => Ct_pA fun _ _ => Ct_ite (Ct_k ..) (Ct_o _)) (Ct_pI fun _ _ => Ct_pA fun _ _ => Ct_ite (Ct_k ..) (Ct_o _))
  case bastore => exact Ct_ite (Ct_pI fun _ _ => Ct_pI fun _ _ => Ct_pA fun _ _ => Ct_ite (Ct_k ..) (Ct_o _)) (Ct_pI fun _ _ => Ct_pI fun _ _ => Ct_pA fun _ _ => Ct_ite (Ct_k ..) (Ct_o _))
  case arraylength => exact Ct_ite (Ct_pS fun _ _ => Ct_pA fun _ _ => Ct_ite (Ct_k ..) (Ct_o _)) (Ct_ite (Ct_pA fun _ _ => Ct_ite (Ct_k ..) (Ct_o _)) (Ct_pA fun _ _ => Ct_ite (Ct_k ..) (Ct_o _)))
  case invokestatic i => exact Ct_ite (Ct_pI fun _ _ => Ct_pI fun _ _ => Ct_pA fun _ _ => Ct_pI fun _ _ => Ct_pA fun _ _ => Ct_ite (Ct_pN (Ct_k ..)) (Ct_o _)) (Ct_pop fun _ _ => Ct_cB (Ct_call ..) fun _ _ => Ct_ite (Ct_k ..) (Ct_o _))
  case invokevirtual i =>
    show Ct (fun c k => pop (aux.getD 1 0) st fun as st => pA st fun r st => if gK M r = aux.getD 3 0 then cBack (aux.getD 2 0) (c (aux.getD 0 0) (.ref r :: as) M) fun v M1 => if M1.1.1 = M.1.1 then k nxt ls (v ++ st) M1 else none else none)
    refine Ct_pop fun as st => Ct_pA fun r st => ?_
    refine Ct_ite ?_ (Ct_o _)
    exact Ct_cB (Ct_call ..) fun _ _ => Ct_ite (Ct_k ..) (Ct_o _)
  case dup => 
    show Ct (fun c k => p1 st fun v st => k nxt ls (v :: v :: st) M)
    refine Ct_p1 fun v st => ?_
    exact Ct_k ..
  case dup2 =>
    show Ct (fun c k => p1 st fun v st => p1 st fun w st => k nxt ls (v :: w :: v :: w :: st) M)
    refine Ct_p1 fun v st => Ct_p1 fun w st => ?_
    exact Ct_k ..
  case pop =>
    show Ct (fun c k => p1 st fun _ st => k nxt ls st M)
    refine Ct_p1 fun v st => ?_
    exact Ct_k ..
  case invokespecial i => exact Ct_ite (Ct_pA fun _ _ => Ct_pN (Ct_k ..)) (Ct_pop fun _ _ => Ct_pA fun _ _ => Ct_ite (Ct_cB (Ct_call ..) fun _ _ => Ct_k ..) (Ct_o _))
/-- more fuel does no harm -/
theorem exe_c {sc : Option (Nat × (Nat → Int32))} {c c' : zC} (hc : cLe c c') (cd : List zE) : ∀ n, kLe (exe sc c cd n) (exe sc c' cd n)
  | 0 => fun _ _ _ _ _ h => by cases h
  | n + 1 => fun pc ls st M r h => by
    unfold exe at h ⊢
    split at h
    · cases h
    · rename_i e he
      exact (stp_Ct sc e ls st M).1 _ _ _ _ r hc (fun a1 a2 a3 a4 r => exe_c hc cd n a1 _ a3 a4 r) h
theorem exe_f {sc : Option (Nat × (Nat → Int32))} {c : zC} (cd : List zE) : ∀ n, kLe (exe sc c cd n) (exe sc c cd (n + 1))
  | 0 => fun _ _ _ _ _ h => by cases h
  | n + 1 => fun pc ls st M r h => by
    unfold exe at h ⊢
    split at h
    · cases h
    · rename_i e he
      exact (stp_Ct sc e ls st M).1 _ _ _ _ r (fun _ _ _ _ h => h) (fun a1 a2 a3 a4 r => exe_f cd n a1 _ a3 a4 r) h
theorem exe_up {sc : Option (Nat × (Nat → Int32))} {c c' : zC} (hc : cLe c c') (cd : List zE) (n : Nat) : kLe (exe sc c cd n) (exe sc c' cd (n + 1)) := fun a1 a2 a3 a4 r h => exe_f cd n _ _ _ _ _ (exe_c hc cd n a1 a2 a3 a4 r h)
theorem mth_up (cod : Nat → List zE) (n : Nat) : ∀ d, cLe (mth cod n d) (mth cod (n + 1) d)
  | 0 => fun _ _ _ _ h => by cases h
  | d + 1 => fun z as M r h => exe_up (mth_up cod n d) (cod z) n 0 _ [] M r h
noncomputable def evM (cod : Nat → List zE) (d : Nat) : zC := limC (fun n => mth cod n d)
noncomputable def evk (cod : Nat → List zE) (sc : Option (Nat × (Nat → Int32))) (d : Nat) (cd : List zE) : zK := limK (fun n => exe sc (mth cod n d) cd n)
theorem evk_ex {cod : Nat → List zE} {sc : Option (Nat × (Nat → Int32))} {d : Nat} {cd : List zE} {pc : Nat} {ls : zLs} {st : List Value} {M : zM} {r : zR} (h : evk cod sc d cd pc ls st M = some r) : ∃ n, exe sc (mth cod n d) cd n pc ls st M = some r := lim_ex h
/-- THE EQUATION of an instruction -/
theorem evk_eq (cod : Nat → List zE) (sc : Option (Nat × (Nat → Int32))) (d : Nat) (cd : List zE) (pc : Nat) (ls : zLs) (st : List Value) (M : zM) :
    evk cod sc d cd pc ls st M = match zent cd pc with
      | none => none
      | some e => stp sc (evM cod d) e ls st M (fun pc' ls' st' M' => evk cod sc d cd pc' (zms cd pc' ls') st' M') := by
  have up : ∀ n, kLe (exe sc (mth cod n d) cd n) (exe sc (mth cod (n + 1) d) cd (n + 1)) := fun n => exe_up (mth_up cod n d) cd n
  have key : ∀ r, evk cod sc d cd pc ls st M = some r ↔ (match zent cd pc with
      | none => none
      | some e => stp sc (evM cod d) e ls st M (fun pc' ls' st' M' => evk cod sc d cd pc' (zms cd pc' ls') st' M')) = some r := by
    intro r
    constructor
    · intro h
      obtain ⟨n, hn⟩ := lim_ex h
      cases n with
      | zero => cases hn
      | succ n =>
        simp only [exe] at hn
        split at hn
        · cases hn
        · rename_i e he
          rw [he]
          refine (stp_Ct sc e ls st M).1 _ _ _ _ r ?_ ?_ hn
          · intro z as M r h
            exact lim_of (f := fun n => mth cod n d z as M) (n := n + 1) (fun n r h => mth_up cod n d z as M r h) h
          · intro a1 a2 a3 a4 r h
            exact lim_of (f := fun n => exe sc (mth cod n d) cd n a1 (zms cd a1 a2) a3 a4) (n := n + 1) (fun n r h => up n _ _ _ _ r h) (exe_f cd n _ _ _ _ r h)
    · intro h
      cases hz : zent cd pc with
      | none => rw [hz] at h; cases h
      | some e =>
        rw [hz] at h
        obtain ⟨n, hn⟩ := (stp_Ct sc e ls st M).2 (fun n => mth cod n d) (fun n pc' ls' st' M' => exe sc (mth cod n d) cd n pc' (zms cd pc' ls') st' M') (fun n => mth_up cod n d) (fun n a1 a2 a3 a4 r h => up n _ _ _ _ r h) r h
        refine lim_of (n := n + 1) (fun n r h => up n _ _ _ _ r h) ?_
        unfold exe
        rw [hz]
        exact (stp_Ct sc e ls st M).1 _ _ _ _ r (mth_up cod n d) (fun a1 a2 a3 a4 r h => exe_c (mth_up cod n d) cd n _ _ _ _ r h) hn
  cases h1 : evk cod sc d cd pc ls st M with
  | some r => exact ((key r).mp h1).symm
  | none =>
    cases h2 : (match zent cd pc with
      | none => none
      | some e => stp sc (evM cod d) e ls st M (fun pc' ls' st' M' => evk cod sc d cd pc' (zms cd pc' ls') st' M')) with
    | none => rfl
    | some r => rw [(key r).mpr h2] at h1; cases h1
end
section
/-! a stretch of code at once -/
def blk (sc : Option (Nat × (Nat → Int32))) (cal : zC) (kk : zK) : List zE → zLs → List Value → zM → Option zR
  | [] => fun _ _ _ => none
  | e :: r => fun ls st M => stp sc cal e ls st M (fun pc' ls' st' M' => match r with
      | [] => kk pc' ls' st' M'
      | e2 :: _ => match Nat.beq pc' e2.1 with
        | true => blk sc cal kk r ls' st' M'
        | false => kk pc' ls' st' M')
def blkOk (cd : List zE) : List zE → Bool
  | [] => true
  | e :: r => decide (zent cd e.1 = some e) && (match r with
      | [] => true
      | e2 :: _ => decide (e2.2.2.2.2 = none) && blkOk cd r)
theorem blk_ok (cod : Nat → List zE) (sc : Option (Nat × (Nat → Int32))) (d : Nat) (cd : List zE) : ∀ (r : List zE) (e : zE) (_ : blkOk cd (e :: r) = true) (ls : zLs) (st : List Value) (M : zM),
    evk cod sc d cd e.1 ls st M = blk sc (evM cod d) (fun pc' ls' st' M' => evk cod sc d cd pc' (zms cd pc' ls') st' M') (e :: r) ls st M
  | [], e, h, ls, st, M => by
    rw [evk_eq]
    simp only [blkOk, Bool.and_true, decide_eq_true_eq] at h
    rw [h]
    rfl
  | e2 :: r, e, h, ls, st, M => by
    rw [evk_eq]
    unfold blkOk at h
    simp only [Bool.and_eq_true, decide_eq_true_eq] at h
    obtain ⟨h1, h2, h3⟩ := h
    rw [h1]
    unfold blk
    dsimp only
    congr 1
    funext pc' ls' st' M'
    cases hb : Nat.beq pc' e2.1 with
    | false => rfl
    | true =>
      have hpc : pc' = e2.1 := Nat.eq_of_beq_eq_true hb
      subst hpc
      have hz : zent cd e2.1 = some e2 := by
        unfold blkOk at h3
        simp only [Bool.and_eq_true, decide_eq_true_eq] at h3
        exact h3.1
      have hm : zms cd e2.1 ls' = ls' := by
        unfold zms
        rw [hz]
        dsimp only
        rw [h2]
        rfl
      rw [hm]
      exact blk_ok cod sc d cd r e2 h3 ls' st' M'
end
section
/-! how the pure machine's memory lies in the heap -/
def rfv (ad : Nat → Nat) (r : Nat) : Value := if r = 0 then .null else .ref (ad r)
def zv (fv : Value) (ad : Nat → Nat) : Value → Value
  | .ref r => rfv ad r
  | .retAddr _ => fv
  | v => v
def zq (fv : Value) (ad : Nat → Nat) (q : Nat × Value) : Nat × Value := (q.1, zv fv ad q.2)
def ztc : FieldType → Nat
  | .int => 0
  | .long => 1
  | .object _ => 2
  | .array _ => 2
  | _ => 3
def zsv (ad : Nat → Nat) (M : zM) (r ci j : Nat) : Value := if ztc (zTy ci j) = 0 then .int (gI M r j) else if ztc (zTy ci j) = 1 then .long (gL M r j) else rfv ad (gR M r j)
def zfs (ad : Nat → Nat) (M : zM) (r ci : Nat) : List Value := (List.range (zN ci)).map (fun j => zsv ad M r ci j)
def zaf (ad : Nat → Nat) (M : zM) (r : Nat) : Nat → Option Nat := fun j => if gR M r j = 0 then none else some (ad (gR M r j))
def zce (ad : Nat → Nat) (cA : Nat → ClassId) (M : zM) (r : Nat) : va_E :=
  if M.1.2.2.1 r < 13 then .inr (M.1.2.2.1 r, zfs ad M r (M.1.2.2.1 r))
  else if M.1.2.2.1 r = 23 then .inl (cA 23, gN M r, .inr (.inl (gL M r)))
  else if M.1.2.2.1 r = 24 ∨ M.1.2.2.1 r = 25 then .inl (cA (M.1.2.2.1 r), gN M r, .inr (.inr (.inr (.inr (zaf ad M r)))))
  else .inl (cA (M.1.2.2.1 r), gN M r, .inl (gI M r))
def zws (ad : Nat → Nat) (cA : Nat → ClassId) (M : zM) : va_W := (List.range M.1.1).map (fun i => (ad (i + 7), zce ad cA M (i + 7)))
def ztys (cA : Nat → ClassId) : List (ClassId × FieldType) := [(cA 20, .int), (cA 21, .byte), (cA 22, .boolean), (cA 23, .long), (cA 24, .object "SilkRise$State"), (cA 25, .array .int)]
def zwf (M : zM) : Prop := ∀ r j, gR M r j < M.1.1 + 7
theorem zgk {M : zM} {r k : Nat} (h : gK M r = k) (h9 : k ≠ 99) (h30 : k ≠ 30) (h31 : k ≠ 31) : 7 ≤ r ∧ r < M.1.1 + 7 ∧ M.1.2.2.1 r = k := by
  unfold gK at h
  split at h
  · split at h
    · exact absurd h.symm h30
    · split at h
      · exact absurd h.symm h30
      · split at h
        · exact absurd h.symm h31
        · split at h
          · exact absurd h.symm h31
          · exact absurd h.symm h9
  · split at h
    · rename_i h1 h2
      exact ⟨Nat.le_of_not_lt h1, h2, h⟩
    · exact absurd h.symm h9
theorem zgk30 {M : zM} {r : Nat} (h : gK M r = 30) (hn : ∀ a, M.1.2.2.1 a ≠ 30) : r = 2 ∨ r = 3 := by
  unfold gK at h
  split at h
  · split at h
    · omega
    · split at h
      · omega
      · split at h
        · omega
        · split at h <;> omega
  · split at h
    · exact absurd h (hn r)
    · omega
theorem zgk31 {M : zM} {r : Nat} (h : gK M r = 31) (hn : ∀ a, M.1.2.2.1 a ≠ 31) : r = 4 ∨ r = 5 := by
  unfold gK at h
  split at h
  · split at h
    · omega
    · split at h
      · omega
      · split at h
        · omega
        · split at h <;> omega
  · split at h
    · exact absurd h (hn r)
    · omega
theorem zws_get {ad : Nat → Nat} {cA : Nat → ClassId} {M : zM} {r : Nat} (h1 : 7 ≤ r) (h2 : r < M.1.1 + 7) : (zws ad cA M)[r - 7]? = some (ad r, zce ad cA M r) := by
  unfold zws
  rw [List.getElem?_map, List.getElem?_range (by omega)]
  simp only [Option.map_some]
  rw [show r - 7 + 7 = r by omega]
theorem zws_len {ad : Nat → Nat} {cA : Nat → ClassId} {M : zM} : (zws ad cA M).length = M.1.1 := by simp [zws]
theorem zws_set {ad : Nat → Nat} {cA : Nat → ClassId} {M M' : zM} {r : Nat} {x : va_E} (hn : M'.1.1 = M.1.1) (h1 : 7 ≤ r) (h2 : r < M.1.1 + 7) (hE : ∀ a, a ≠ r → zce ad cA M' a = zce ad cA M a) (hx : zce ad cA M' r = x) : zws ad cA M' = (zws ad cA M).set (r - 7) (ad r, x) := by
  apply List.ext_getElem?
  intro i
  by_cases hi : i < M.1.1
  · have hl := zws_get (ad := ad) (cA := cA) (M := M') (r := i + 7) (by omega) (by omega)
    rw [show i + 7 - 7 = i by omega] at hl
    rw [hl, List.getElem?_set]
    by_cases e : r - 7 = i
    · rw [if_pos e, if_pos (by rw [zws_len]; omega)]
      have e2 : i + 7 = r := by omega
      rw [e2, hx]
    · rw [if_neg e]
      have hl2 := zws_get (ad := ad) (cA := cA) (M := M) (r := i + 7) (by omega) (by omega)
      rw [show i + 7 - 7 = i by omega] at hl2
      rw [hl2, hE _ (by omega)]
  · rw [List.getElem?_eq_none (by rw [zws_len]; omega), List.getElem?_eq_none (by rw [List.length_set, zws_len]; omega)]
theorem zfs_get {ad : Nat → Nat} {M : zM} {r ci j : Nat} (h : j < zN ci) : (zfs ad M r ci)[j]? = some (zsv ad M r ci j) := by
  unfold zfs
  rw [List.getElem?_map, List.getElem?_range h]
  rfl
theorem zfs_len {ad : Nat → Nat} {M : zM} {r ci : Nat} : (zfs ad M r ci).length = zN ci := by simp [zfs]
theorem zfs_set {ad : Nat → Nat} {M M' : zM} {r ci j : Nat} {v : Value} (h : j < zN ci) (hv : zsv ad M' r ci j = v) (hE : ∀ i, i ≠ j → zsv ad M' r ci i = zsv ad M r ci i) : zfs ad M' r ci = (zfs ad M r ci).set j v := by
  apply List.ext_getElem?
  intro i
  by_cases hi : i < zN ci
  · rw [zfs_get hi, List.getElem?_set]
    by_cases e : j = i
    · subst e
      rw [if_pos rfl, if_pos (by rw [zfs_len]; exact h), hv]
    · rw [if_neg e, zfs_get hi, hE i (fun q => e q.symm)]
  · rw [List.getElem?_eq_none (by rw [zfs_len]; omega), List.getElem?_eq_none (by rw [List.length_set, zfs_len]; omega)]
theorem gI_ne {M : zM} {r j : Nat} {x : Int32} {a b : Nat} (h : ¬ (a = r ∧ b = j)) : gI (sI M r j x) a b = gI M a b := by simp [gI, sI, h]
theorem gI_eq {M : zM} {r j : Nat} {x : Int32} : gI (sI M r j x) r j = x := by simp [gI, sI]
theorem gL_ne {M : zM} {r j : Nat} {x : Int64} {a b : Nat} (h : ¬ (a = r ∧ b = j)) : gL (sL M r j x) a b = gL M a b := by simp [gL, sL, h]
theorem gL_eq {M : zM} {r j : Nat} {x : Int64} : gL (sL M r j x) r j = x := by simp [gL, sL]
theorem gR_ne {M : zM} {r j x : Nat} {a b : Nat} (h : ¬ (a = r ∧ b = j)) : gR (sR M r j x) a b = gR M a b := by simp [gR, sR, h]
theorem gR_eq {M : zM} {r j x : Nat} : gR (sR M r j x) r j = x := by simp [gR, sR]
/-- a cell hangs on its own row alone -/
theorem zce_congr {ad : Nat → Nat} {cA : Nat → ClassId} {M M' : zM} {a : Nat} (hk : M'.1.2.2.1 a = M.1.2.2.1 a) (hn : gN M' a = gN M a) (hI : gI M' a = gI M a) (hL : gL M' a = gL M a) (hR : gR M' a = gR M a) : zce ad cA M' a = zce ad cA M a := by
  unfold zce zfs zsv zaf
  rw [hk, hn, hI, hL, hR]
theorem zce_ad {ad ad' : Nat → Nat} {cA : Nat → ClassId} {M : zM} {a : Nat} (h : ∀ j, gR M a j ≠ 0 → ad' (gR M a j) = ad (gR M a j)) : zce ad' cA M a = zce ad cA M a := by
  have h1 : ∀ j, rfv ad' (gR M a j) = rfv ad (gR M a j) := fun j => by
    unfold rfv
    by_cases e : gR M a j = 0
    · rw [if_pos e, if_pos e]
    · rw [if_neg e, if_neg e, h j e]
  have h2 : zaf ad' M a = zaf ad M a := by
    funext j
    unfold zaf
    by_cases e : gR M a j = 0
    · rw [if_pos e, if_pos e]
    · rw [if_neg e, if_neg e, h j e]
  have h3 : ∀ ci, zfs ad' M a ci = zfs ad M a ci := fun ci => by
    unfold zfs zsv
    simp only [h1]
  unfold zce
  rw [h2, h3]
theorem zce_obj {ad : Nat → Nat} {cA : Nat → ClassId} {M : zM} {r ci : Nat} (h : M.1.2.2.1 r = ci) (hc : ci < 13) : zce ad cA M r = .inr (ci, zfs ad M r ci) := by
  unfold zce
  rw [h, if_pos hc]
theorem zce_int {ad : Nat → Nat} {cA : Nat → ClassId} {M : zM} {r k : Nat} (h : M.1.2.2.1 r = k) (hc : 20 ≤ k ∧ k ≤ 22) : zce ad cA M r = .inl (cA k, gN M r, .inl (gI M r)) := by
  unfold zce
  rw [h, if_neg (by omega), if_neg (by omega), if_neg (by omega)]
theorem zce_long {ad : Nat → Nat} {cA : Nat → ClassId} {M : zM} {r : Nat} (h : M.1.2.2.1 r = 23) : zce ad cA M r = .inl (cA 23, gN M r, .inr (.inl (gL M r))) := by
  unfold zce
  rw [h, if_neg (by omega), if_pos rfl]
theorem zce_refs {ad : Nat → Nat} {cA : Nat → ClassId} {M : zM} {r k : Nat} (h : M.1.2.2.1 r = k) (hc : k = 24 ∨ k = 25) : zce ad cA M r = .inl (cA k, gN M r, .inr (.inr (.inr (.inr (zaf ad M r))))) := by
  unfold zce
  rw [h, if_neg (by omega), if_neg (by omega), if_pos hc]
theorem zce_sI {ad : Nat → Nat} {cA : Nat → ClassId} {M : zM} {r j : Nat} {x : Int32} {a : Nat} (h : a ≠ r) : zce ad cA (sI M r j x) a = zce ad cA M a :=
  zce_congr rfl rfl (funext fun b => gI_ne (fun q => h q.1)) rfl rfl
theorem zce_sL {ad : Nat → Nat} {cA : Nat → ClassId} {M : zM} {r j : Nat} {x : Int64} {a : Nat} (h : a ≠ r) : zce ad cA (sL M r j x) a = zce ad cA M a :=
  zce_congr rfl rfl rfl (funext fun b => gL_ne (fun q => h q.1)) rfl
theorem zce_sR {ad : Nat → Nat} {cA : Nat → ClassId} {M : zM} {r j x : Nat} {a : Nat} (h : a ≠ r) : zce ad cA (sR M r j x) a = zce ad cA M a :=
  zce_congr rfl rfl rfl rfl (funext fun b => gR_ne (fun q => h q.1))
/-- a field of whole numbers is stored to -/
theorem zws_sIf {ad : Nat → Nat} {cA : Nat → ClassId} {M : zM} {r ci j : Nat} {x : Int32} (h1 : 7 ≤ r) (h2 : r < M.1.1 + 7) (hk : M.1.2.2.1 r = ci) (hc : ci < 13) (hj : j < zN ci) (ht : ztc (zTy ci j) = 0) :
    zws ad cA (sI M r j x) = (zws ad cA M).set (r - 7) (ad r, .inr (ci, (zfs ad M r ci).set j (.int x))) := by
  refine zws_set rfl h1 h2 (fun a h => zce_sI h) ?_
  rw [zce_obj (M := sI M r j x) (r := r) (ci := ci) hk hc]
  refine congrArg (fun f => Sum.inr (ci, f)) (zfs_set hj ?_ ?_)
  · unfold zsv
    rw [if_pos ht, gI_eq]
  · intro i hi
    unfold zsv
    rw [gI_ne (fun q => hi q.2)]
    rfl
theorem zws_sLf {ad : Nat → Nat} {cA : Nat → ClassId} {M : zM} {r ci j : Nat} {x : Int64} (h1 : 7 ≤ r) (h2 : r < M.1.1 + 7) (hk : M.1.2.2.1 r = ci) (hc : ci < 13) (hj : j < zN ci) (ht : ztc (zTy ci j) = 1) :
    zws ad cA (sL M r j x) = (zws ad cA M).set (r - 7) (ad r, .inr (ci, (zfs ad M r ci).set j (.long x))) := by
  refine zws_set rfl h1 h2 (fun a h => zce_sL h) ?_
  rw [zce_obj (M := sL M r j x) (r := r) (ci := ci) hk hc]
  refine congrArg (fun f => Sum.inr (ci, f)) (zfs_set hj ?_ ?_)
  · unfold zsv
    rw [if_neg (by omega), if_pos ht, gL_eq]
  · intro i hi
    unfold zsv
    rw [gL_ne (fun q => hi q.2)]
    rfl
theorem zws_sRf {ad : Nat → Nat} {cA : Nat → ClassId} {M : zM} {r ci j x : Nat} (h1 : 7 ≤ r) (h2 : r < M.1.1 + 7) (hk : M.1.2.2.1 r = ci) (hc : ci < 13) (hj : j < zN ci) (ht : ztc (zTy ci j) = 2) :
    zws ad cA (sR M r j x) = (zws ad cA M).set (r - 7) (ad r, .inr (ci, (zfs ad M r ci).set j (rfv ad x))) := by
  refine zws_set rfl h1 h2 (fun a h => zce_sR h) ?_
  rw [zce_obj (M := sR M r j x) (r := r) (ci := ci) hk hc]
  refine congrArg (fun f => Sum.inr (ci, f)) (zfs_set hj ?_ ?_)
  · unfold zsv
    rw [if_neg (by omega), if_neg (by omega), gR_eq]
  · intro i hi
    unfold zsv
    rw [gR_ne (fun q => hi q.2)]
    rfl
/-- an array is stored to -/
theorem zws_sIa {ad : Nat → Nat} {cA : Nat → ClassId} {M : zM} {r k j : Nat} {x : Int32} (h1 : 7 ≤ r) (h2 : r < M.1.1 + 7) (hk : M.1.2.2.1 r = k) (hc : 20 ≤ k ∧ k ≤ 22) :
    zws ad cA (sI M r j x) = (zws ad cA M).set (r - 7) (ad r, .inl (cA k, gN M r, .inl (upd (gI M r) j x))) := by
  refine zws_set rfl h1 h2 (fun a h => zce_sI h) ?_
  rw [zce_int (M := sI M r j x) (r := r) (k := k) hk hc]
  refine congrArg (fun f => Sum.inl (cA k, gN M r, Sum.inl f)) (funext fun b => ?_)
  unfold upd
  by_cases e : b = j
  · subst e
    rw [gI_eq, if_pos rfl]
  · rw [gI_ne (fun q => e q.2), if_neg e]
theorem zws_sLa {ad : Nat → Nat} {cA : Nat → ClassId} {M : zM} {r j : Nat} {x : Int64} (h1 : 7 ≤ r) (h2 : r < M.1.1 + 7) (hk : M.1.2.2.1 r = 23) :
    zws ad cA (sL M r j x) = (zws ad cA M).set (r - 7) (ad r, .inl (cA 23, gN M r, .inr (.inl (vp_updL (gL M r) j x)))) := by
  refine zws_set rfl h1 h2 (fun a h => zce_sL h) ?_
  rw [zce_long (M := sL M r j x) (r := r) hk]
  refine congrArg (fun f => Sum.inl (cA 23, gN M r, Sum.inr (Sum.inl f))) (funext fun b => ?_)
  unfold vp_updL
  by_cases e : b = j
  · subst e
    rw [gL_eq, if_pos rfl]
  · rw [gL_ne (fun q => e q.2), if_neg e]
theorem zws_sRa {ad : Nat → Nat} {cA : Nat → ClassId} {M : zM} {r k j x : Nat} (h1 : 7 ≤ r) (h2 : r < M.1.1 + 7) (hk : M.1.2.2.1 r = k) (hc : k = 24 ∨ k = 25) (hx : x ≠ 0) :
    zws ad cA (sR M r j x) = (zws ad cA M).set (r - 7) (ad r, .inl (cA k, gN M r, .inr (.inr (.inr (.inr (va_up (zaf ad M r) j (some (ad x)))))))) := by
  refine zws_set rfl h1 h2 (fun a h => zce_sR h) ?_
  rw [zce_refs (M := sR M r j x) (r := r) (k := k) hk hc]
  refine congrArg (fun f => Sum.inl (cA k, gN M r, Sum.inr (Sum.inr (Sum.inr (Sum.inr f))))) (funext fun b => ?_)
  unfold va_up zaf
  by_cases e : b = j
  · subst e
    rw [gR_eq, if_neg hx, if_pos rfl]
  · rw [gR_ne (fun q => e q.2), if_neg e]
/-- copied to an int array -/
theorem zws_cI {ad : Nat → Nat} {cA : Nat → ClassId} {M : zM} {r s sp dp n : Nat} (h1 : 7 ≤ r) (h2 : r < M.1.1 + 7) (hk : M.1.2.2.1 r = 20) :
    zws ad cA (cI M s sp r dp n) = (zws ad cA M).set (r - 7) (ad r, .inl (cA 20, gN M r, .inl (va_cpy (gI M s) (gI M r) sp dp n))) := by
  refine zws_set rfl h1 h2 (fun a h => zce_congr rfl rfl (funext fun b => ?_) rfl rfl) ?_
  · show (if a = r ∧ dp ≤ b ∧ b < dp + n then _ else _) = _
    rw [if_neg (fun q => h q.1)]
    rfl
  · rw [zce_int (M := cI M s sp r dp n) (r := r) (k := 20) hk (by omega)]
    refine congrArg (fun f => Sum.inl (cA 20, gN M r, Sum.inl f)) (funext fun b => ?_)
    show (if r = r ∧ dp ≤ b ∧ b < dp + n then _ else _) = _
    unfold va_cpy
    by_cases e : dp ≤ b ∧ b < dp + n
    · rw [if_pos ⟨rfl, e⟩, if_pos e]
      rfl
    · rw [if_neg (fun q => e q.2), if_neg e]
      rfl
/-- one cell more -/
theorem zws_alc {ad ad' : Nat → Nat} {cA : Nat → ClassId} {M : zM} {kd len : Nat} (hw : zwf M) (had : ∀ r, r ≠ M.1.1 + 7 → ad' r = ad r) :
    zws ad' cA (alc M kd len) = zws ad cA M ++ [(ad' (M.1.1 + 7), zce ad' cA (alc M kd len) (M.1.1 + 7))] := by
  unfold zws
  rw [show (alc M kd len).1.1 = M.1.1 + 1 from rfl, List.range_succ, List.map_append]
  congr 1
  apply List.map_congr_left
  intro i hi
  have hi : i < M.1.1 := List.mem_range.mp hi
  have hne : ∀ {α : Type} (x y : α), (if i + 7 = M.1.1 + 7 then x else y) = y := fun x y => if_neg (by omega)
  rw [had _ (by omega)]
  congr 1
  have e1 : zce ad' cA (alc M kd len) (i + 7) = zce ad' cA M (i + 7) := by
    refine zce_congr ?_ ?_ (funext fun b => ?_) (funext fun b => ?_) (funext fun b => ?_)
    · exact hne _ _
    · exact hne _ _
    · exact hne _ _
    · exact hne _ _
    · exact hne _ _
  rw [e1]
  exact zce_ad fun j _ => had _ (by have := hw (i + 7) j; omega)
theorem zwf_alc {M : zM} {kd len : Nat} (h : zwf M) : zwf (alc M kd len) := by
  intro r j
  show (if r = M.1.1 + 7 then 0 else _) < M.1.1 + 1 + 7
  split
  · omega
  · have := h r j
    unfold gR at this
    omega
theorem zwf_sR {M : zM} {r j x : Nat} (h : zwf M) (hx : x < M.1.1 + 7) : zwf (sR M r j x) := by
  intro a b
  by_cases e : a = r ∧ b = j
  · obtain ⟨rfl, rfl⟩ := e
    rw [gR_eq]
    exact hx
  · rw [gR_ne e]
    exact h a b
/-- the stack and the locals under another naming of what is to come -/
theorem zv_ad {fv : Value} {ad ad' : Nat → Nat} {M : zM} (had : ∀ r, r < M.1.1 + 7 → ad' r = ad r) {v : Value} (h : okv M v = true) : zv fv ad' v = zv fv ad v := by
  cases v with
  | ref r =>
    have hr : r < M.1.1 + 7 := by simpa [okv] using h
    show rfv ad' r = rfv ad r
    unfold rfv
    rw [had r hr]
  | _ => rfl
theorem okS_st {fv : Value} {ad ad' : Nat → Nat} {M : zM} (had : ∀ r, r < M.1.1 + 7 → ad' r = ad r) {ls : zLs} {st : List Value} (h : okS M ls st = true) : st.map (zv fv ad') = st.map (zv fv ad) ∧ ls.map (zq fv ad') = ls.map (zq fv ad) := by
  unfold okS at h
  rw [Bool.and_eq_true, List.all_eq_true, List.all_eq_true] at h
  refine ⟨List.map_congr_left fun v hv => zv_ad had (h.1 v hv), List.map_congr_left fun q hq => ?_⟩
  unfold zq
  rw [zv_ad had (h.2 q hq)]
theorem rfv_cat {ad : Nat → Nat} (r : Nat) : (rfv ad r).category = 1 := by
  unfold rfv
  split <;> rfl
theorem zv_cat {fv : Value} {ad : Nat → Nat} (hf : fv.category = 1) (v : Value) : (zv fv ad v).category = v.category := by
  cases v with
  | ref r => exact rfv_cat r
  | retAddr _ => exact hf
  | _ => rfl
theorem zsum_map {fv : Value} {ad : Nat → Nat} (hf : fv.category = 1) (st : List Value) : ((st.map (zv fv ad)).map fun v => v.category).sum = zsum st := by
  unfold zsum
  rw [List.map_map]
  exact congrArg List.sum (List.map_congr_left fun v _ => zv_cat hf v)
theorem zl_mem {ls : zLs} {i : Nat} {v : Value} (h : zl ls i = some v) : (i, v) ∈ ls := by
  induction ls with
  | nil => cases h
  | cons q r ih =>
    unfold zl at h
    split at h
    · rename_i hb
      cases h
      have := Nat.eq_of_beq_eq_true hb
      subst this
      exact List.mem_cons_self
    · exact List.mem_cons_of_mem _ (ih h)
theorem zl_has {fv : Value} {ad : Nat → Nat} {L : Array Slot} {nL : Nat} {ls : zLs} (hl : lv_has L nL (ls.map (zq fv ad))) {i : Nat} {v : Value} (h : zl ls i = some v) : L[i]? = some (.val (zv fv ad v)) :=
  hl.2.2 (i, zv fv ad v) (List.mem_map.mpr ⟨(i, v), zl_mem h, rfl⟩)
theorem zs1_map {fv : Value} {ad : Nat → Nat} (hf : fv.category = 1) (ls : zLs) (i : Nat) (v : Value) : (i, zv fv ad v) :: (ls.map (zq fv ad)).filter (fun q => !(q.1 == i) && !(q.1 + 1 == i && q.2.category == 2)) = (zs1 ls i v).map (zq fv ad) := by
  unfold zs1
  rw [List.map_cons]
  congr 1
  rw [List.filter_map]
  congr 1
  apply List.filter_congr
  intro q _
  simp [Function.comp, zq, zv_cat hf]
theorem zs2_map {fv : Value} {ad : Nat → Nat} (hf : fv.category = 1) (ls : zLs) (i : Nat) (v : Value) : (i, zv fv ad v) :: (ls.map (zq fv ad)).filter (fun q => !(q.1 == i) && (!(q.1 == i + 1) && !(q.1 + 1 == i && q.2.category == 2))) = (zs2 ls i v).map (zq fv ad) := by
  unfold zs2
  rw [List.map_cons]
  congr 1
  rw [List.filter_map]
  congr 1
  apply List.filter_congr
  intro q _
  simp [Function.comp, zq, zv_cat hf]
theorem zmk_mem {o : Option (List Nat)} {ls : zLs} {q : Nat × Value} (h : q ∈ zmk o ls) : q ∈ ls := by
  unfold zmk at h
  split at h
  · exact h
  · rw [List.mem_filterMap] at h
    obtain ⟨i, _, hi⟩ := h
    rw [Option.map_eq_some_iff] at hi
    obtain ⟨v, hv, rfl⟩ := hi
    exact zl_mem hv
theorem zms_mem {cd : List zE} {pc : Nat} {ls : zLs} {q : Nat × Value} (h : q ∈ zms cd pc ls) : q ∈ ls := by
  unfold zms at h
  split at h
  · exact zmk_mem h
  · exact h
theorem lv_fewer {L : Array Slot} {nL : Nat} {l l' : List (Nat × Value)} (h : lv_has L nL l) (hm : ∀ q ∈ l', q ∈ l) : lv_has L nL l' := ⟨h.1, h.2.1, fun q hq => h.2.2 q (hm q hq)⟩
/-- what a step's parts say -/
theorem lI_some {ls : zLs} {i : Nat} {f : Int32 → Option zR} {r : zR} (h : lI ls i f = some r) : ∃ x, zl ls i = some (.int x) ∧ f x = some r := by
  unfold lI at h
  split at h
  · exact ⟨_, by assumption, h⟩
  · cases h
theorem lL_some {ls : zLs} {i : Nat} {f : Int64 → Option zR} {r : zR} (h : lL ls i f = some r) : ∃ x, zl ls i = some (.long x) ∧ f x = some r := by
  unfold lL at h
  split at h
  · exact ⟨_, by assumption, h⟩
  · cases h
theorem lA_some {ls : zLs} {i : Nat} {f : Nat → Option zR} {r : zR} (h : lA ls i f = some r) : ∃ x, zl ls i = some (.ref x) ∧ f x = some r := by
  unfold lA at h
  split at h
  · exact ⟨_, by assumption, h⟩
  · cases h
theorem pI_some {st : List Value} {f : Int32 → List Value → Option zR} {r : zR} (h : pI st f = some r) : ∃ x st', st = .int x :: st' ∧ f x st' = some r := by
  unfold pI at h
  split at h
  · exact ⟨_, _, rfl, h⟩
  · cases h
theorem pL_some {st : List Value} {f : Int64 → List Value → Option zR} {r : zR} (h : pL st f = some r) : ∃ x st', st = .long x :: st' ∧ f x st' = some r := by
  unfold pL at h
  split at h
  · exact ⟨_, _, rfl, h⟩
  · cases h
theorem pA_some {st : List Value} {f : Nat → List Value → Option zR} {r : zR} (h : pA st f = some r) : ∃ x st', st = .ref x :: st' ∧ f x st' = some r := by
  unfold pA at h
  split at h
  · exact ⟨_, _, rfl, h⟩
  · cases h
theorem p1_some {fv : Value} {ad : Nat → Nat} {st : List Value} {f : Value → List Value → Option zR} {r : zR} (h : p1 st f = some r) : ∃ x st', st = x :: st' ∧ (zv fv ad x).category = 1 ∧ f x st' = some r := by
  unfold p1 at h
  split at h
  · exact ⟨_, _, rfl, rfl, h⟩
  · exact ⟨_, _, rfl, rfv_cat _, h⟩
  · cases h
theorem pN_some {st : List Value} {o : Option zR} {r : zR} (h : pN st o = some r) : st = [] ∧ o = some r := by
  unfold pN at h
  split at h
  · exact ⟨rfl, h⟩
  · cases h
theorem pS_some {sc : Option (Nat × (Nat → Int32))} {f : Nat → (Nat → Int32) → Option zR} {r : zR} (h : pS sc f = some r) : ∃ a b, sc = some (a, b) ∧ f a b = some r := by
  unfold pS at h
  split at h
  · exact ⟨_, _, rfl, h⟩
  · cases h
theorem pop_some {n : Nat} {st : List Value} {f : List Value → List Value → Option zR} {r : zR} (h : pop n st f = some r) : ∃ as st', st = as.reverse ++ st' ∧ as.length = n ∧ zsum st' ≤ 8 ∧ f as st' = some r := by
  unfold pop at h
  split at h
  · rename_i hc
    refine ⟨(st.take n).reverse, st.drop n, ?_, ?_, hc.2, h⟩
    · rw [List.reverse_reverse, List.take_append_drop]
    · rw [List.length_reverse, List.length_take]
      omega
  · cases h
theorem ite_some {p : Prop} {_ : Decidable p} {o : Option zR} {r : zR} (h : (if p then o else none) = some r) : p ∧ o = some r := by
  split at h
  · exact ⟨by assumption, h⟩
  · cases h
end
