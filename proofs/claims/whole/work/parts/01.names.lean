/-- a private method of a class that the tables say can be made, by its rows of tables_1 -/
def lw_okq (q : MethodName × Nat) : Prop := (q.1.cls ≠ "java/lang/invoke/MethodHandle" ∧ q.1.cls ≠ "java/lang/invoke/VarHandle") ∧ Cond.instantiable q.1.cls q.2 ∈ tables_1 ∧ Cond.privateMethod q.1 ∈ tables_1 ∧ Cond.instanceMethod q.1 ∈ tables_1
theorem lw_p0 : lw_okq (⟨"NextMustShare$Reader", "readLine", "(LNextMustShare$Text;LNextMustShare$Larder;)Z"⟩, 3) := ⟨⟨by decide +kernel, by decide +kernel⟩, List.mem_of_getElem? (i := 79) (by decide +kernel), List.mem_of_getElem? (i := 366) (by decide +kernel), List.mem_of_getElem? (i := 367) (by decide +kernel)⟩
theorem lw_p1 : lw_okq (⟨"NextMustShare$Reader", "readGuest", "(LNextMustShare$Text;LNextMustShare$Larder;)Z"⟩, 3) := ⟨⟨by decide +kernel, by decide +kernel⟩, List.mem_of_getElem? (i := 79) (by decide +kernel), List.mem_of_getElem? (i := 374) (by decide +kernel), List.mem_of_getElem? (i := 375) (by decide +kernel)⟩
theorem lw_p2 : lw_okq (⟨"NextMustShare$Reader", "readStuffs", "(LNextMustShare$Text;)I"⟩, 3) := ⟨⟨by decide +kernel, by decide +kernel⟩, List.mem_of_getElem? (i := 79) (by decide +kernel), List.mem_of_getElem? (i := 378) (by decide +kernel), List.mem_of_getElem? (i := 379) (by decide +kernel)⟩
theorem lw_p3 : lw_okq (⟨"NextMustShare$Reader", "readDish", "(LNextMustShare$Text;LNextMustShare$Larder;)Z"⟩, 3) := ⟨⟨by decide +kernel, by decide +kernel⟩, List.mem_of_getElem? (i := 79) (by decide +kernel), List.mem_of_getElem? (i := 386) (by decide +kernel), List.mem_of_getElem? (i := 387) (by decide +kernel)⟩
theorem lw_p4 : lw_okq (⟨"NextMustShare$Reader", "readDigit", "(LNextMustShare$Text;)I"⟩, 3) := ⟨⟨by decide +kernel, by decide +kernel⟩, List.mem_of_getElem? (i := 79) (by decide +kernel), List.mem_of_getElem? (i := 395) (by decide +kernel), List.mem_of_getElem? (i := 396) (by decide +kernel)⟩
theorem lw_p5 : lw_okq (⟨"NextMustShare$Taste", "readExpression", "(LNextMustShare$Text;I)Z"⟩, 7) := ⟨⟨by decide +kernel, by decide +kernel⟩, List.mem_of_getElem? (i := 95) (by decide +kernel), List.mem_of_getElem? (i := 420) (by decide +kernel), List.mem_of_getElem? (i := 421) (by decide +kernel)⟩
theorem lw_p6 : lw_okq (⟨"NextMustShare$Taste", "readSum", "(LNextMustShare$Text;I)Z"⟩, 7) := ⟨⟨by decide +kernel, by decide +kernel⟩, List.mem_of_getElem? (i := 95) (by decide +kernel), List.mem_of_getElem? (i := 424) (by decide +kernel), List.mem_of_getElem? (i := 425) (by decide +kernel)⟩
theorem lw_p7 : lw_okq (⟨"NextMustShare$Taste", "readProduct", "(LNextMustShare$Text;I)Z"⟩, 7) := ⟨⟨by decide +kernel, by decide +kernel⟩, List.mem_of_getElem? (i := 95) (by decide +kernel), List.mem_of_getElem? (i := 428) (by decide +kernel), List.mem_of_getElem? (i := 429) (by decide +kernel)⟩
theorem lw_p8 : lw_okq (⟨"NextMustShare$Taste", "readFactor", "(LNextMustShare$Text;I)Z"⟩, 7) := ⟨⟨by decide +kernel, by decide +kernel⟩, List.mem_of_getElem? (i := 95) (by decide +kernel), List.mem_of_getElem? (i := 432) (by decide +kernel), List.mem_of_getElem? (i := 433) (by decide +kernel)⟩
theorem lw_p9 : lw_okq (⟨"NextMustShare$Taste", "readThing", "(LNextMustShare$Text;I)Z"⟩, 7) := ⟨⟨by decide +kernel, by decide +kernel⟩, List.mem_of_getElem? (i := 95) (by decide +kernel), List.mem_of_getElem? (i := 437) (by decide +kernel), List.mem_of_getElem? (i := 438) (by decide +kernel)⟩
theorem lw_p10 : lw_okq (⟨"NextMustShare$Taste", "readBracket", "(LNextMustShare$Text;I)Z"⟩, 7) := ⟨⟨by decide +kernel, by decide +kernel⟩, List.mem_of_getElem? (i := 95) (by decide +kernel), List.mem_of_getElem? (i := 441) (by decide +kernel), List.mem_of_getElem? (i := 442) (by decide +kernel)⟩
theorem lw_p11 : lw_okq (⟨"NextMustShare$Taste", "readNumber", "(LNextMustShare$Text;)V"⟩, 7) := ⟨⟨by decide +kernel, by decide +kernel⟩, List.mem_of_getElem? (i := 95) (by decide +kernel), List.mem_of_getElem? (i := 446) (by decide +kernel), List.mem_of_getElem? (i := 447) (by decide +kernel)⟩
theorem lw_p12 : lw_okq (⟨"NextMustShare$Taste", "emit", "(I)V"⟩, 7) := ⟨⟨by decide +kernel, by decide +kernel⟩, List.mem_of_getElem? (i := 95) (by decide +kernel), List.mem_of_getElem? (i := 450) (by decide +kernel), List.mem_of_getElem? (i := 451) (by decide +kernel)⟩
theorem lw_p13 : lw_okq (⟨"NextMustShare$Law", "isAgainstHeat", "(IIII)Z"⟩, 4) := ⟨⟨by decide +kernel, by decide +kernel⟩, List.mem_of_getElem? (i := 123) (by decide +kernel), List.mem_of_getElem? (i := 544) (by decide +kernel), List.mem_of_getElem? (i := 545) (by decide +kernel)⟩
theorem lw_p14 : lw_okq (⟨"NextMustShare", "isLaid", "(I)Z"⟩, 16) := ⟨⟨by decide +kernel, by decide +kernel⟩, List.mem_of_getElem? (i := 23) (by decide +kernel), List.mem_of_getElem? (i := 601) (by decide +kernel), List.mem_of_getElem? (i := 602) (by decide +kernel)⟩
theorem lw_p15 : lw_okq (⟨"NextMustShare$Menu", "setTill", "(I)I"⟩, 3) := ⟨⟨by decide +kernel, by decide +kernel⟩, List.mem_of_getElem? (i := 162) (by decide +kernel), List.mem_of_getElem? (i := 621) (by decide +kernel), List.mem_of_getElem? (i := 622) (by decide +kernel)⟩
def lw_privs_1 : List (MethodName × Nat) := [(⟨"NextMustShare$Reader", "readLine", "(LNextMustShare$Text;LNextMustShare$Larder;)Z"⟩, 3), (⟨"NextMustShare$Reader", "readGuest", "(LNextMustShare$Text;LNextMustShare$Larder;)Z"⟩, 3), (⟨"NextMustShare$Reader", "readStuffs", "(LNextMustShare$Text;)I"⟩, 3), (⟨"NextMustShare$Reader", "readDish", "(LNextMustShare$Text;LNextMustShare$Larder;)Z"⟩, 3), (⟨"NextMustShare$Reader", "readDigit", "(LNextMustShare$Text;)I"⟩, 3), (⟨"NextMustShare$Taste", "readExpression", "(LNextMustShare$Text;I)Z"⟩, 7), (⟨"NextMustShare$Taste", "readSum", "(LNextMustShare$Text;I)Z"⟩, 7), (⟨"NextMustShare$Taste", "readProduct", "(LNextMustShare$Text;I)Z"⟩, 7), (⟨"NextMustShare$Taste", "readFactor", "(LNextMustShare$Text;I)Z"⟩, 7), (⟨"NextMustShare$Taste", "readThing", "(LNextMustShare$Text;I)Z"⟩, 7), (⟨"NextMustShare$Taste", "readBracket", "(LNextMustShare$Text;I)Z"⟩, 7), (⟨"NextMustShare$Taste", "readNumber", "(LNextMustShare$Text;)V"⟩, 7), (⟨"NextMustShare$Taste", "emit", "(I)V"⟩, 7), (⟨"NextMustShare$Law", "isAgainstHeat", "(IIII)Z"⟩, 4), (⟨"NextMustShare", "isLaid", "(I)Z"⟩, 16), (⟨"NextMustShare$Menu", "setTill", "(I)I"⟩, 3)]
theorem lw_r1 : ∀ q ∈ lw_privs_1, lw_okq q := List.forall_mem_cons.mpr ⟨lw_p0, List.forall_mem_cons.mpr ⟨lw_p1, List.forall_mem_cons.mpr ⟨lw_p2, List.forall_mem_cons.mpr ⟨lw_p3, List.forall_mem_cons.mpr ⟨lw_p4, List.forall_mem_cons.mpr ⟨lw_p5, List.forall_mem_cons.mpr ⟨lw_p6, List.forall_mem_cons.mpr ⟨lw_p7, List.forall_mem_cons.mpr ⟨lw_p8, List.forall_mem_cons.mpr ⟨lw_p9, List.forall_mem_cons.mpr ⟨lw_p10, List.forall_mem_cons.mpr ⟨lw_p11, List.forall_mem_cons.mpr ⟨lw_p12, List.forall_mem_cons.mpr ⟨lw_p13, List.forall_mem_cons.mpr ⟨lw_p14, List.forall_mem_cons.mpr ⟨lw_p15, fun _ h => absurd h List.not_mem_nil⟩⟩⟩⟩⟩⟩⟩⟩⟩⟩⟩⟩⟩⟩⟩⟩
theorem lw_p16 : lw_okq (⟨"NextMustShare$Menu", "put", "(II)V"⟩, 3) := ⟨⟨by decide +kernel, by decide +kernel⟩, List.mem_of_getElem? (i := 162) (by decide +kernel), List.mem_of_getElem? (i := 668) (by decide +kernel), List.mem_of_getElem? (i := 669) (by decide +kernel)⟩
theorem lw_p17 : lw_okq (⟨"NextMustShare", "isWhole", "(I)Z"⟩, 16) := ⟨⟨by decide +kernel, by decide +kernel⟩, List.mem_of_getElem? (i := 23) (by decide +kernel), List.mem_of_getElem? (i := 685) (by decide +kernel), List.mem_of_getElem? (i := 686) (by decide +kernel)⟩
theorem lw_p18 : lw_okq (⟨"NextMustShare", "goOn", "(I)V"⟩, 16) := ⟨⟨by decide +kernel, by decide +kernel⟩, List.mem_of_getElem? (i := 23) (by decide +kernel), List.mem_of_getElem? (i := 714) (by decide +kernel), List.mem_of_getElem? (i := 715) (by decide +kernel)⟩
theorem lw_p19 : lw_okq (⟨"NextMustShare$Steps", "isStocked", "(I)Z"⟩, 11) := ⟨⟨by decide +kernel, by decide +kernel⟩, List.mem_of_getElem? (i := 180) (by decide +kernel), List.mem_of_getElem? (i := 743) (by decide +kernel), List.mem_of_getElem? (i := 744) (by decide +kernel)⟩
theorem lw_p20 : lw_okq (⟨"NextMustShare", "tellMost", "()I"⟩, 16) := ⟨⟨by decide +kernel, by decide +kernel⟩, List.mem_of_getElem? (i := 23) (by decide +kernel), List.mem_of_getElem? (i := 765) (by decide +kernel), List.mem_of_getElem? (i := 766) (by decide +kernel)⟩
theorem lw_p21 : lw_okq (⟨"NextMustShare$Plan", "isGoal", "(LNextMustShare$Steps;III)Z"⟩, 8) := ⟨⟨by decide +kernel, by decide +kernel⟩, List.mem_of_getElem? (i := 221) (by decide +kernel), List.mem_of_getElem? (i := 801) (by decide +kernel), List.mem_of_getElem? (i := 802) (by decide +kernel)⟩
theorem lw_p22 : lw_okq (⟨"NextMustShare$Plan", "worth", "(LNextMustShare$Steps;I)I"⟩, 8) := ⟨⟨by decide +kernel, by decide +kernel⟩, List.mem_of_getElem? (i := 221) (by decide +kernel), List.mem_of_getElem? (i := 813) (by decide +kernel), List.mem_of_getElem? (i := 814) (by decide +kernel)⟩
theorem lw_p23 : lw_okq (⟨"NextMustShare$Plan", "lead", "(LNextMustShare$Steps;)V"⟩, 8) := ⟨⟨by decide +kernel, by decide +kernel⟩, List.mem_of_getElem? (i := 221) (by decide +kernel), List.mem_of_getElem? (i := 820) (by decide +kernel), List.mem_of_getElem? (i := 821) (by decide +kernel)⟩
theorem lw_p24 : lw_okq (⟨"NextMustShare$Plan", "isMarked", "(II)Z"⟩, 8) := ⟨⟨by decide +kernel, by decide +kernel⟩, List.mem_of_getElem? (i := 221) (by decide +kernel), List.mem_of_getElem? (i := 829) (by decide +kernel), List.mem_of_getElem? (i := 830) (by decide +kernel)⟩
theorem lw_p25 : lw_okq (⟨"NextMustShare$Match", "setValue", "(III)V"⟩, 2) := ⟨⟨by decide +kernel, by decide +kernel⟩, List.mem_of_getElem? (i := 254) (by decide +kernel), List.mem_of_getElem? (i := 861) (by decide +kernel), List.mem_of_getElem? (i := 862) (by decide +kernel)⟩
theorem lw_p26 : lw_okq (⟨"NextMustShare$Match", "countWith", "(II)I"⟩, 2) := ⟨⟨by decide +kernel, by decide +kernel⟩, List.mem_of_getElem? (i := 254) (by decide +kernel), List.mem_of_getElem? (i := 868) (by decide +kernel), List.mem_of_getElem? (i := 869) (by decide +kernel)⟩
theorem lw_p27 : lw_okq (⟨"NextMustShare$Match", "value", "(II)I"⟩, 2) := ⟨⟨by decide +kernel, by decide +kernel⟩, List.mem_of_getElem? (i := 254) (by decide +kernel), List.mem_of_getElem? (i := 872) (by decide +kernel), List.mem_of_getElem? (i := 873) (by decide +kernel)⟩
theorem lw_p28 : lw_okq (⟨"NextMustShare$Match", "countOn", "(LNextMustShare$Steps;I)V"⟩, 2) := ⟨⟨by decide +kernel, by decide +kernel⟩, List.mem_of_getElem? (i := 254) (by decide +kernel), List.mem_of_getElem? (i := 876) (by decide +kernel), List.mem_of_getElem? (i := 877) (by decide +kernel)⟩
theorem lw_p29 : lw_okq (⟨"NextMustShare", "tellBetween", "(III)I"⟩, 16) := ⟨⟨by decide +kernel, by decide +kernel⟩, List.mem_of_getElem? (i := 23) (by decide +kernel), List.mem_of_getElem? (i := 887) (by decide +kernel), List.mem_of_getElem? (i := 888) (by decide +kernel)⟩
theorem lw_p30 : lw_okq (⟨"NextMustShare", "beginAnew", "(LNextMustShare$Law;)V"⟩, 16) := ⟨⟨by decide +kernel, by decide +kernel⟩, List.mem_of_getElem? (i := 23) (by decide +kernel), List.mem_of_getElem? (i := 891) (by decide +kernel), List.mem_of_getElem? (i := 892) (by decide +kernel)⟩
theorem lw_p31 : lw_okq (⟨"NextMustShare", "goRound", "(I)V"⟩, 16) := ⟨⟨by decide +kernel, by decide +kernel⟩, List.mem_of_getElem? (i := 23) (by decide +kernel), List.mem_of_getElem? (i := 942) (by decide +kernel), List.mem_of_getElem? (i := 943) (by decide +kernel)⟩
def lw_privs_2 : List (MethodName × Nat) := [(⟨"NextMustShare$Menu", "put", "(II)V"⟩, 3), (⟨"NextMustShare", "isWhole", "(I)Z"⟩, 16), (⟨"NextMustShare", "goOn", "(I)V"⟩, 16), (⟨"NextMustShare$Steps", "isStocked", "(I)Z"⟩, 11), (⟨"NextMustShare", "tellMost", "()I"⟩, 16), (⟨"NextMustShare$Plan", "isGoal", "(LNextMustShare$Steps;III)Z"⟩, 8), (⟨"NextMustShare$Plan", "worth", "(LNextMustShare$Steps;I)I"⟩, 8), (⟨"NextMustShare$Plan", "lead", "(LNextMustShare$Steps;)V"⟩, 8), (⟨"NextMustShare$Plan", "isMarked", "(II)Z"⟩, 8), (⟨"NextMustShare$Match", "setValue", "(III)V"⟩, 2), (⟨"NextMustShare$Match", "countWith", "(II)I"⟩, 2), (⟨"NextMustShare$Match", "value", "(II)I"⟩, 2), (⟨"NextMustShare$Match", "countOn", "(LNextMustShare$Steps;I)V"⟩, 2), (⟨"NextMustShare", "tellBetween", "(III)I"⟩, 16), (⟨"NextMustShare", "beginAnew", "(LNextMustShare$Law;)V"⟩, 16), (⟨"NextMustShare", "goRound", "(I)V"⟩, 16)]
theorem lw_r2 : ∀ q ∈ lw_privs_2, lw_okq q := List.forall_mem_cons.mpr ⟨lw_p16, List.forall_mem_cons.mpr ⟨lw_p17, List.forall_mem_cons.mpr ⟨lw_p18, List.forall_mem_cons.mpr ⟨lw_p19, List.forall_mem_cons.mpr ⟨lw_p20, List.forall_mem_cons.mpr ⟨lw_p21, List.forall_mem_cons.mpr ⟨lw_p22, List.forall_mem_cons.mpr ⟨lw_p23, List.forall_mem_cons.mpr ⟨lw_p24, List.forall_mem_cons.mpr ⟨lw_p25, List.forall_mem_cons.mpr ⟨lw_p26, List.forall_mem_cons.mpr ⟨lw_p27, List.forall_mem_cons.mpr ⟨lw_p28, List.forall_mem_cons.mpr ⟨lw_p29, List.forall_mem_cons.mpr ⟨lw_p30, List.forall_mem_cons.mpr ⟨lw_p31, fun _ h => absurd h List.not_mem_nil⟩⟩⟩⟩⟩⟩⟩⟩⟩⟩⟩⟩⟩⟩⟩⟩
theorem lw_p32 : lw_okq (⟨"NextMustShare$Taste", "push", "(I)V"⟩, 7) := ⟨⟨by decide +kernel, by decide +kernel⟩, List.mem_of_getElem? (i := 95) (by decide +kernel), List.mem_of_getElem? (i := 979) (by decide +kernel), List.mem_of_getElem? (i := 980) (by decide +kernel)⟩
theorem lw_p33 : lw_okq (⟨"NextMustShare$Taste", "pop", "()I"⟩, 7) := ⟨⟨by decide +kernel, by decide +kernel⟩, List.mem_of_getElem? (i := 95) (by decide +kernel), List.mem_of_getElem? (i := 996) (by decide +kernel), List.mem_of_getElem? (i := 997) (by decide +kernel)⟩
theorem lw_p34 : lw_okq (⟨"NextMustShare", "tellJoy", "(II)I"⟩, 16) := ⟨⟨by decide +kernel, by decide +kernel⟩, List.mem_of_getElem? (i := 23) (by decide +kernel), List.mem_of_getElem? (i := 1006) (by decide +kernel), List.mem_of_getElem? (i := 1007) (by decide +kernel)⟩
theorem lw_p35 : lw_okq (⟨"NextMustShare", "tellCost", "(III)I"⟩, 16) := ⟨⟨by decide +kernel, by decide +kernel⟩, List.mem_of_getElem? (i := 23) (by decide +kernel), List.mem_of_getElem? (i := 1031) (by decide +kernel), List.mem_of_getElem? (i := 1032) (by decide +kernel)⟩
theorem lw_p36 : lw_okq (⟨"NextMustShare$Match", "leastFor", "(II)I"⟩, 2) := ⟨⟨by decide +kernel, by decide +kernel⟩, List.mem_of_getElem? (i := 254) (by decide +kernel), List.mem_of_getElem? (i := 1047) (by decide +kernel), List.mem_of_getElem? (i := 1048) (by decide +kernel)⟩
theorem lw_p37 : lw_okq (⟨"NextMustShare$Match", "worthToOther", "(III)I"⟩, 2) := ⟨⟨by decide +kernel, by decide +kernel⟩, List.mem_of_getElem? (i := 254) (by decide +kernel), List.mem_of_getElem? (i := 1065) (by decide +kernel), List.mem_of_getElem? (i := 1066) (by decide +kernel)⟩
theorem lw_p38 : lw_okq (⟨"NextMustShare$Match", "mostJoyful", "(I)I"⟩, 2) := ⟨⟨by decide +kernel, by decide +kernel⟩, List.mem_of_getElem? (i := 254) (by decide +kernel), List.mem_of_getElem? (i := 1069) (by decide +kernel), List.mem_of_getElem? (i := 1070) (by decide +kernel)⟩
theorem lw_p39 : lw_okq (⟨"NextMustShare$Match", "fewestChanges", "(IILNextMustShare$Menu;)I"⟩, 2) := ⟨⟨by decide +kernel, by decide +kernel⟩, List.mem_of_getElem? (i := 254) (by decide +kernel), List.mem_of_getElem? (i := 1082) (by decide +kernel), List.mem_of_getElem? (i := 1083) (by decide +kernel)⟩
theorem lw_p40 : lw_okq (⟨"NextMustShare$Match", "changesWith", "(IILNextMustShare$Menu;)I"⟩, 2) := ⟨⟨by decide +kernel, by decide +kernel⟩, List.mem_of_getElem? (i := 254) (by decide +kernel), List.mem_of_getElem? (i := 1088) (by decide +kernel), List.mem_of_getElem? (i := 1089) (by decide +kernel)⟩
theorem lw_p41 : lw_okq (⟨"NextMustShare$Match", "tellMended", "(LNextMustShare$Steps;LNextMustShare$Menu;LNextMustShare$Row;)V"⟩, 2) := ⟨⟨by decide +kernel, by decide +kernel⟩, List.mem_of_getElem? (i := 254) (by decide +kernel), List.mem_of_getElem? (i := 1094) (by decide +kernel), List.mem_of_getElem? (i := 1095) (by decide +kernel)⟩
theorem lw_p42 : lw_okq (⟨"NextMustShare", "layFilled", "(LNextMustShare$Menu;)V"⟩, 16) := ⟨⟨by decide +kernel, by decide +kernel⟩, List.mem_of_getElem? (i := 23) (by decide +kernel), List.mem_of_getElem? (i := 1103) (by decide +kernel), List.mem_of_getElem? (i := 1104) (by decide +kernel)⟩
theorem lw_p43 : lw_okq (⟨"NextMustShare$Plan", "findBeginnings", "(LNextMustShare$Steps;)V"⟩, 8) := ⟨⟨by decide +kernel, by decide +kernel⟩, List.mem_of_getElem? (i := 221) (by decide +kernel), List.mem_of_getElem? (i := 1168) (by decide +kernel), List.mem_of_getElem? (i := 1169) (by decide +kernel)⟩
theorem lw_p44 : lw_okq (⟨"NextMustShare$Plan", "findGaps", "(LNextMustShare$Steps;I)V"⟩, 8) := ⟨⟨by decide +kernel, by decide +kernel⟩, List.mem_of_getElem? (i := 221) (by decide +kernel), List.mem_of_getElem? (i := 1183) (by decide +kernel), List.mem_of_getElem? (i := 1184) (by decide +kernel)⟩
theorem lw_p45 : lw_okq (⟨"NextMustShare$Plan", "joins", "(ILNextMustShare$Larder;LNextMustShare$Law;)Z"⟩, 8) := ⟨⟨by decide +kernel, by decide +kernel⟩, List.mem_of_getElem? (i := 221) (by decide +kernel), List.mem_of_getElem? (i := 1188) (by decide +kernel), List.mem_of_getElem? (i := 1189) (by decide +kernel)⟩
theorem lw_p46 : lw_okq (⟨"NextMustShare", "menusLaid", "()I"⟩, 16) := ⟨⟨by decide +kernel, by decide +kernel⟩, List.mem_of_getElem? (i := 23) (by decide +kernel), List.mem_of_getElem? (i := 1219) (by decide +kernel), List.mem_of_getElem? (i := 1220) (by decide +kernel)⟩
theorem lw_p47 : lw_okq (⟨"java/lang/Throwable", "fillInStackTrace", "(I)Ljava/lang/Throwable;"⟩, 6) := ⟨⟨by decide +kernel, by decide +kernel⟩, List.mem_of_getElem? (i := 1267) (by decide +kernel), List.mem_of_getElem? (i := 1265) (by decide +kernel), List.mem_of_getElem? (i := 1266) (by decide +kernel)⟩
def lw_privs_3 : List (MethodName × Nat) := [(⟨"NextMustShare$Taste", "push", "(I)V"⟩, 7), (⟨"NextMustShare$Taste", "pop", "()I"⟩, 7), (⟨"NextMustShare", "tellJoy", "(II)I"⟩, 16), (⟨"NextMustShare", "tellCost", "(III)I"⟩, 16), (⟨"NextMustShare$Match", "leastFor", "(II)I"⟩, 2), (⟨"NextMustShare$Match", "worthToOther", "(III)I"⟩, 2), (⟨"NextMustShare$Match", "mostJoyful", "(I)I"⟩, 2), (⟨"NextMustShare$Match", "fewestChanges", "(IILNextMustShare$Menu;)I"⟩, 2), (⟨"NextMustShare$Match", "changesWith", "(IILNextMustShare$Menu;)I"⟩, 2), (⟨"NextMustShare$Match", "tellMended", "(LNextMustShare$Steps;LNextMustShare$Menu;LNextMustShare$Row;)V"⟩, 2), (⟨"NextMustShare", "layFilled", "(LNextMustShare$Menu;)V"⟩, 16), (⟨"NextMustShare$Plan", "findBeginnings", "(LNextMustShare$Steps;)V"⟩, 8), (⟨"NextMustShare$Plan", "findGaps", "(LNextMustShare$Steps;I)V"⟩, 8), (⟨"NextMustShare$Plan", "joins", "(ILNextMustShare$Larder;LNextMustShare$Law;)Z"⟩, 8), (⟨"NextMustShare", "menusLaid", "()I"⟩, 16), (⟨"java/lang/Throwable", "fillInStackTrace", "(I)Ljava/lang/Throwable;"⟩, 6)]
theorem lw_r3 : ∀ q ∈ lw_privs_3, lw_okq q := List.forall_mem_cons.mpr ⟨lw_p32, List.forall_mem_cons.mpr ⟨lw_p33, List.forall_mem_cons.mpr ⟨lw_p34, List.forall_mem_cons.mpr ⟨lw_p35, List.forall_mem_cons.mpr ⟨lw_p36, List.forall_mem_cons.mpr ⟨lw_p37, List.forall_mem_cons.mpr ⟨lw_p38, List.forall_mem_cons.mpr ⟨lw_p39, List.forall_mem_cons.mpr ⟨lw_p40, List.forall_mem_cons.mpr ⟨lw_p41, List.forall_mem_cons.mpr ⟨lw_p42, List.forall_mem_cons.mpr ⟨lw_p43, List.forall_mem_cons.mpr ⟨lw_p44, List.forall_mem_cons.mpr ⟨lw_p45, List.forall_mem_cons.mpr ⟨lw_p46, List.forall_mem_cons.mpr ⟨lw_p47, fun _ h => absurd h List.not_mem_nil⟩⟩⟩⟩⟩⟩⟩⟩⟩⟩⟩⟩⟩⟩⟩⟩
theorem lw_p48 : lw_okq (⟨"NextMustShareModel", "begin", "([BII)V"⟩, 53) := ⟨⟨by decide +kernel, by decide +kernel⟩, List.mem_of_getElem? (i := 1322) (by decide +kernel), List.mem_of_getElem? (i := 1509) (by decide +kernel), List.mem_of_getElem? (i := 1510) (by decide +kernel)⟩
theorem lw_p49 : lw_okq (⟨"NextMustShareModel", "fine", "()Z"⟩, 53) := ⟨⟨by decide +kernel, by decide +kernel⟩, List.mem_of_getElem? (i := 1322) (by decide +kernel), List.mem_of_getElem? (i := 1513) (by decide +kernel), List.mem_of_getElem? (i := 1514) (by decide +kernel)⟩
theorem lw_p50 : lw_okq (⟨"NextMustShareModel", "here", "()I"⟩, 53) := ⟨⟨by decide +kernel, by decide +kernel⟩, List.mem_of_getElem? (i := 1322) (by decide +kernel), List.mem_of_getElem? (i := 1517) (by decide +kernel), List.mem_of_getElem? (i := 1518) (by decide +kernel)⟩
theorem lw_p51 : lw_okq (⟨"NextMustShareModel", "fault", "(I)V"⟩, 53) := ⟨⟨by decide +kernel, by decide +kernel⟩, List.mem_of_getElem? (i := 1322) (by decide +kernel), List.mem_of_getElem? (i := 1521) (by decide +kernel), List.mem_of_getElem? (i := 1522) (by decide +kernel)⟩
theorem lw_p52 : lw_okq (⟨"NextMustShareModel", "readGuest", "(I)V"⟩, 53) := ⟨⟨by decide +kernel, by decide +kernel⟩, List.mem_of_getElem? (i := 1322) (by decide +kernel), List.mem_of_getElem? (i := 1525) (by decide +kernel), List.mem_of_getElem? (i := 1526) (by decide +kernel)⟩
theorem lw_p53 : lw_okq (⟨"NextMustShareModel", "letters", "(Z)I"⟩, 53) := ⟨⟨by decide +kernel, by decide +kernel⟩, List.mem_of_getElem? (i := 1322) (by decide +kernel), List.mem_of_getElem? (i := 1529) (by decide +kernel), List.mem_of_getElem? (i := 1530) (by decide +kernel)⟩
theorem lw_p54 : lw_okq (⟨"NextMustShareModel", "passes", "(C)Z"⟩, 53) := ⟨⟨by decide +kernel, by decide +kernel⟩, List.mem_of_getElem? (i := 1322) (by decide +kernel), List.mem_of_getElem? (i := 1533) (by decide +kernel), List.mem_of_getElem? (i := 1534) (by decide +kernel)⟩
theorem lw_p55 : lw_okq (⟨"NextMustShareModel", "number", "(I)I"⟩, 53) := ⟨⟨by decide +kernel, by decide +kernel⟩, List.mem_of_getElem? (i := 1322) (by decide +kernel), List.mem_of_getElem? (i := 1537) (by decide +kernel), List.mem_of_getElem? (i := 1538) (by decide +kernel)⟩
theorem lw_p56 : lw_okq (⟨"NextMustShareModel", "held", "(I)I"⟩, 53) := ⟨⟨by decide +kernel, by decide +kernel⟩, List.mem_of_getElem? (i := 1322) (by decide +kernel), List.mem_of_getElem? (i := 1545) (by decide +kernel), List.mem_of_getElem? (i := 1546) (by decide +kernel)⟩
theorem lw_p57 : lw_okq (⟨"NextMustShareModel", "sum", "(I)I"⟩, 53) := ⟨⟨by decide +kernel, by decide +kernel⟩, List.mem_of_getElem? (i := 1322) (by decide +kernel), List.mem_of_getElem? (i := 1549) (by decide +kernel), List.mem_of_getElem? (i := 1550) (by decide +kernel)⟩
theorem lw_p58 : lw_okq (⟨"NextMustShareModel", "product", "(I)I"⟩, 53) := ⟨⟨by decide +kernel, by decide +kernel⟩, List.mem_of_getElem? (i := 1322) (by decide +kernel), List.mem_of_getElem? (i := 1553) (by decide +kernel), List.mem_of_getElem? (i := 1554) (by decide +kernel)⟩
theorem lw_p59 : lw_okq (⟨"NextMustShareModel", "thing", "(I)I"⟩, 53) := ⟨⟨by decide +kernel, by decide +kernel⟩, List.mem_of_getElem? (i := 1322) (by decide +kernel), List.mem_of_getElem? (i := 1557) (by decide +kernel), List.mem_of_getElem? (i := 1558) (by decide +kernel)⟩
theorem lw_p60 : lw_okq (⟨"NextMustShareModel", "letter", "(I)I"⟩, 53) := ⟨⟨by decide +kernel, by decide +kernel⟩, List.mem_of_getElem? (i := 1322) (by decide +kernel), List.mem_of_getElem? (i := 1561) (by decide +kernel), List.mem_of_getElem? (i := 1562) (by decide +kernel)⟩
theorem lw_p61 : lw_okq (⟨"NextMustShareModel", "isDish", "(I)Z"⟩, 53) := ⟨⟨by decide +kernel, by decide +kernel⟩, List.mem_of_getElem? (i := 1322) (by decide +kernel), List.mem_of_getElem? (i := 1570) (by decide +kernel), List.mem_of_getElem? (i := 1571) (by decide +kernel)⟩
theorem lw_p62 : lw_okq (⟨"NextMustShareModel", "lost", "()I"⟩, 53) := ⟨⟨by decide +kernel, by decide +kernel⟩, List.mem_of_getElem? (i := 1322) (by decide +kernel), List.mem_of_getElem? (i := 1574) (by decide +kernel), List.mem_of_getElem? (i := 1575) (by decide +kernel)⟩
theorem lw_p63 : lw_okq (⟨"NextMustShareModel", "isHungry", "(II)Z"⟩, 53) := ⟨⟨by decide +kernel, by decide +kernel⟩, List.mem_of_getElem? (i := 1322) (by decide +kernel), List.mem_of_getElem? (i := 1578) (by decide +kernel), List.mem_of_getElem? (i := 1579) (by decide +kernel)⟩
def lw_privs_4 : List (MethodName × Nat) := [(⟨"NextMustShareModel", "begin", "([BII)V"⟩, 53), (⟨"NextMustShareModel", "fine", "()Z"⟩, 53), (⟨"NextMustShareModel", "here", "()I"⟩, 53), (⟨"NextMustShareModel", "fault", "(I)V"⟩, 53), (⟨"NextMustShareModel", "readGuest", "(I)V"⟩, 53), (⟨"NextMustShareModel", "letters", "(Z)I"⟩, 53), (⟨"NextMustShareModel", "passes", "(C)Z"⟩, 53), (⟨"NextMustShareModel", "number", "(I)I"⟩, 53), (⟨"NextMustShareModel", "held", "(I)I"⟩, 53), (⟨"NextMustShareModel", "sum", "(I)I"⟩, 53), (⟨"NextMustShareModel", "product", "(I)I"⟩, 53), (⟨"NextMustShareModel", "thing", "(I)I"⟩, 53), (⟨"NextMustShareModel", "letter", "(I)I"⟩, 53), (⟨"NextMustShareModel", "isDish", "(I)Z"⟩, 53), (⟨"NextMustShareModel", "lost", "()I"⟩, 53), (⟨"NextMustShareModel", "isHungry", "(II)Z"⟩, 53)]
theorem lw_r4 : ∀ q ∈ lw_privs_4, lw_okq q := List.forall_mem_cons.mpr ⟨lw_p48, List.forall_mem_cons.mpr ⟨lw_p49, List.forall_mem_cons.mpr ⟨lw_p50, List.forall_mem_cons.mpr ⟨lw_p51, List.forall_mem_cons.mpr ⟨lw_p52, List.forall_mem_cons.mpr ⟨lw_p53, List.forall_mem_cons.mpr ⟨lw_p54, List.forall_mem_cons.mpr ⟨lw_p55, List.forall_mem_cons.mpr ⟨lw_p56, List.forall_mem_cons.mpr ⟨lw_p57, List.forall_mem_cons.mpr ⟨lw_p58, List.forall_mem_cons.mpr ⟨lw_p59, List.forall_mem_cons.mpr ⟨lw_p60, List.forall_mem_cons.mpr ⟨lw_p61, List.forall_mem_cons.mpr ⟨lw_p62, List.forall_mem_cons.mpr ⟨lw_p63, fun _ h => absurd h List.not_mem_nil⟩⟩⟩⟩⟩⟩⟩⟩⟩⟩⟩⟩⟩⟩⟩⟩
theorem lw_p64 : lw_okq (⟨"NextMustShareModel", "joyOfAll", "(I)I"⟩, 53) := ⟨⟨by decide +kernel, by decide +kernel⟩, List.mem_of_getElem? (i := 1322) (by decide +kernel), List.mem_of_getElem? (i := 1582) (by decide +kernel), List.mem_of_getElem? (i := 1583) (by decide +kernel)⟩
theorem lw_p65 : lw_okq (⟨"NextMustShareModel", "joyOf", "(II)I"⟩, 53) := ⟨⟨by decide +kernel, by decide +kernel⟩, List.mem_of_getElem? (i := 1322) (by decide +kernel), List.mem_of_getElem? (i := 1586) (by decide +kernel), List.mem_of_getElem? (i := 1587) (by decide +kernel)⟩
theorem lw_p66 : lw_okq (⟨"NextMustShareModel", "isGuest", "(I)Z"⟩, 53) := ⟨⟨by decide +kernel, by decide +kernel⟩, List.mem_of_getElem? (i := 1322) (by decide +kernel), List.mem_of_getElem? (i := 1596) (by decide +kernel), List.mem_of_getElem? (i := 1597) (by decide +kernel)⟩
theorem lw_p67 : lw_okq (⟨"NextMustShareModel", "servedSet", "()I"⟩, 53) := ⟨⟨by decide +kernel, by decide +kernel⟩, List.mem_of_getElem? (i := 1322) (by decide +kernel), List.mem_of_getElem? (i := 1623) (by decide +kernel), List.mem_of_getElem? (i := 1624) (by decide +kernel)⟩
theorem lw_p68 : lw_okq (⟨"NextMustShareModel", "servedLast", "()I"⟩, 53) := ⟨⟨by decide +kernel, by decide +kernel⟩, List.mem_of_getElem? (i := 1322) (by decide +kernel), List.mem_of_getElem? (i := 1627) (by decide +kernel), List.mem_of_getElem? (i := 1628) (by decide +kernel)⟩
theorem lw_p69 : lw_okq (⟨"NextMustShareModel", "refusal", "(III)I"⟩, 53) := ⟨⟨by decide +kernel, by decide +kernel⟩, List.mem_of_getElem? (i := 1322) (by decide +kernel), List.mem_of_getElem? (i := 1631) (by decide +kernel), List.mem_of_getElem? (i := 1632) (by decide +kernel)⟩
theorem lw_p70 : lw_okq (⟨"NextMustShareModel", "shared", "(II)I"⟩, 53) := ⟨⟨by decide +kernel, by decide +kernel⟩, List.mem_of_getElem? (i := 1322) (by decide +kernel), List.mem_of_getElem? (i := 1638) (by decide +kernel), List.mem_of_getElem? (i := 1639) (by decide +kernel)⟩
theorem lw_p71 : lw_okq (⟨"NextMustShareModel", "hasHot", "(I)Z"⟩, 53) := ⟨⟨by decide +kernel, by decide +kernel⟩, List.mem_of_getElem? (i := 1322) (by decide +kernel), List.mem_of_getElem? (i := 1642) (by decide +kernel), List.mem_of_getElem? (i := 1643) (by decide +kernel)⟩
theorem lw_p72 : lw_okq (⟨"NextMustShareModel", "fits", "(IIZ)Z"⟩, 53) := ⟨⟨by decide +kernel, by decide +kernel⟩, List.mem_of_getElem? (i := 1322) (by decide +kernel), List.mem_of_getElem? (i := 1646) (by decide +kernel), List.mem_of_getElem? (i := 1647) (by decide +kernel)⟩
theorem lw_p73 : lw_okq (⟨"NextMustShareModel", "isMenu", "(I)Z"⟩, 53) := ⟨⟨by decide +kernel, by decide +kernel⟩, List.mem_of_getElem? (i := 1322) (by decide +kernel), List.mem_of_getElem? (i := 1670) (by decide +kernel), List.mem_of_getElem? (i := 1671) (by decide +kernel)⟩
theorem lw_p74 : lw_okq (⟨"NextMustShareModel", "lookFromNothing", "()V"⟩, 53) := ⟨⟨by decide +kernel, by decide +kernel⟩, List.mem_of_getElem? (i := 1322) (by decide +kernel), List.mem_of_getElem? (i := 1674) (by decide +kernel), List.mem_of_getElem? (i := 1675) (by decide +kernel)⟩
theorem lw_p75 : lw_okq (⟨"NextMustShareModel", "lookOn", "(I)I"⟩, 53) := ⟨⟨by decide +kernel, by decide +kernel⟩, List.mem_of_getElem? (i := 1322) (by decide +kernel), List.mem_of_getElem? (i := 1678) (by decide +kernel), List.mem_of_getElem? (i := 1679) (by decide +kernel)⟩
theorem lw_p76 : lw_okq (⟨"NextMustShareModel", "tell", "(I)V"⟩, 53) := ⟨⟨by decide +kernel, by decide +kernel⟩, List.mem_of_getElem? (i := 1322) (by decide +kernel), List.mem_of_getElem? (i := 1682) (by decide +kernel), List.mem_of_getElem? (i := 1683) (by decide +kernel)⟩
theorem lw_p77 : lw_okq (⟨"NextMustShareModel", "isWhole", "(I)Z"⟩, 53) := ⟨⟨by decide +kernel, by decide +kernel⟩, List.mem_of_getElem? (i := 1322) (by decide +kernel), List.mem_of_getElem? (i := 1698) (by decide +kernel), List.mem_of_getElem? (i := 1699) (by decide +kernel)⟩
theorem lw_p78 : lw_okq (⟨"NextMustShareModel", "isLawful", "(I)Z"⟩, 53) := ⟨⟨by decide +kernel, by decide +kernel⟩, List.mem_of_getElem? (i := 1322) (by decide +kernel), List.mem_of_getElem? (i := 1706) (by decide +kernel), List.mem_of_getElem? (i := 1707) (by decide +kernel)⟩
theorem lw_p79 : lw_okq (⟨"NextMustShareModel", "all", "()I"⟩, 53) := ⟨⟨by decide +kernel, by decide +kernel⟩, List.mem_of_getElem? (i := 1322) (by decide +kernel), List.mem_of_getElem? (i := 1714) (by decide +kernel), List.mem_of_getElem? (i := 1715) (by decide +kernel)⟩
def lw_privs_5 : List (MethodName × Nat) := [(⟨"NextMustShareModel", "joyOfAll", "(I)I"⟩, 53), (⟨"NextMustShareModel", "joyOf", "(II)I"⟩, 53), (⟨"NextMustShareModel", "isGuest", "(I)Z"⟩, 53), (⟨"NextMustShareModel", "servedSet", "()I"⟩, 53), (⟨"NextMustShareModel", "servedLast", "()I"⟩, 53), (⟨"NextMustShareModel", "refusal", "(III)I"⟩, 53), (⟨"NextMustShareModel", "shared", "(II)I"⟩, 53), (⟨"NextMustShareModel", "hasHot", "(I)Z"⟩, 53), (⟨"NextMustShareModel", "fits", "(IIZ)Z"⟩, 53), (⟨"NextMustShareModel", "isMenu", "(I)Z"⟩, 53), (⟨"NextMustShareModel", "lookFromNothing", "()V"⟩, 53), (⟨"NextMustShareModel", "lookOn", "(I)I"⟩, 53), (⟨"NextMustShareModel", "tell", "(I)V"⟩, 53), (⟨"NextMustShareModel", "isWhole", "(I)Z"⟩, 53), (⟨"NextMustShareModel", "isLawful", "(I)Z"⟩, 53), (⟨"NextMustShareModel", "all", "()I"⟩, 53)]
theorem lw_r5 : ∀ q ∈ lw_privs_5, lw_okq q := List.forall_mem_cons.mpr ⟨lw_p64, List.forall_mem_cons.mpr ⟨lw_p65, List.forall_mem_cons.mpr ⟨lw_p66, List.forall_mem_cons.mpr ⟨lw_p67, List.forall_mem_cons.mpr ⟨lw_p68, List.forall_mem_cons.mpr ⟨lw_p69, List.forall_mem_cons.mpr ⟨lw_p70, List.forall_mem_cons.mpr ⟨lw_p71, List.forall_mem_cons.mpr ⟨lw_p72, List.forall_mem_cons.mpr ⟨lw_p73, List.forall_mem_cons.mpr ⟨lw_p74, List.forall_mem_cons.mpr ⟨lw_p75, List.forall_mem_cons.mpr ⟨lw_p76, List.forall_mem_cons.mpr ⟨lw_p77, List.forall_mem_cons.mpr ⟨lw_p78, List.forall_mem_cons.mpr ⟨lw_p79, fun _ h => absurd h List.not_mem_nil⟩⟩⟩⟩⟩⟩⟩⟩⟩⟩⟩⟩⟩⟩⟩⟩
theorem lw_p80 : lw_okq (⟨"NextMustShareModel", "longestBy", "(I)I"⟩, 53) := ⟨⟨by decide +kernel, by decide +kernel⟩, List.mem_of_getElem? (i := 1322) (by decide +kernel), List.mem_of_getElem? (i := 1718) (by decide +kernel), List.mem_of_getElem? (i := 1719) (by decide +kernel)⟩
theorem lw_p81 : lw_okq (⟨"NextMustShareModel", "findRows", "(III)V"⟩, 53) := ⟨⟨by decide +kernel, by decide +kernel⟩, List.mem_of_getElem? (i := 1322) (by decide +kernel), List.mem_of_getElem? (i := 1722) (by decide +kernel), List.mem_of_getElem? (i := 1723) (by decide +kernel)⟩
theorem lw_p82 : lw_okq (⟨"NextMustShareModel", "may", "(III)Z"⟩, 53) := ⟨⟨by decide +kernel, by decide +kernel⟩, List.mem_of_getElem? (i := 1322) (by decide +kernel), List.mem_of_getElem? (i := 1732) (by decide +kernel), List.mem_of_getElem? (i := 1733) (by decide +kernel)⟩
theorem lw_p83 : lw_okq (⟨"NextMustShareModel", "noEnds", "()V"⟩, 53) := ⟨⟨by decide +kernel, by decide +kernel⟩, List.mem_of_getElem? (i := 1322) (by decide +kernel), List.mem_of_getElem? (i := 1736) (by decide +kernel), List.mem_of_getElem? (i := 1737) (by decide +kernel)⟩
theorem lw_p84 : lw_okq (⟨"NextMustShareModel", "findEnds", "(I)V"⟩, 53) := ⟨⟨by decide +kernel, by decide +kernel⟩, List.mem_of_getElem? (i := 1322) (by decide +kernel), List.mem_of_getElem? (i := 1740) (by decide +kernel), List.mem_of_getElem? (i := 1741) (by decide +kernel)⟩
theorem lw_p85 : lw_okq (⟨"NextMustShareModel", "tellWay", "(III)V"⟩, 53) := ⟨⟨by decide +kernel, by decide +kernel⟩, List.mem_of_getElem? (i := 1322) (by decide +kernel), List.mem_of_getElem? (i := 1744) (by decide +kernel), List.mem_of_getElem? (i := 1745) (by decide +kernel)⟩
theorem lw_p86 : lw_okq (⟨"NextMustShareModel", "betweenBy", "(IIZ)I"⟩, 53) := ⟨⟨by decide +kernel, by decide +kernel⟩, List.mem_of_getElem? (i := 1322) (by decide +kernel), List.mem_of_getElem? (i := 1757) (by decide +kernel), List.mem_of_getElem? (i := 1758) (by decide +kernel)⟩
theorem lw_p87 : lw_okq (⟨"NextMustShareModel", "tellFrom", "(II)Z"⟩, 53) := ⟨⟨by decide +kernel, by decide +kernel⟩, List.mem_of_getElem? (i := 1322) (by decide +kernel), List.mem_of_getElem? (i := 1761) (by decide +kernel), List.mem_of_getElem? (i := 1762) (by decide +kernel)⟩
theorem lw_p88 : lw_okq (⟨"NextMustShareModel", "besides", "(I)I"⟩, 53) := ⟨⟨by decide +kernel, by decide +kernel⟩, List.mem_of_getElem? (i := 1322) (by decide +kernel), List.mem_of_getElem? (i := 1777) (by decide +kernel), List.mem_of_getElem? (i := 1778) (by decide +kernel)⟩
theorem lw_p89 : lw_okq (⟨"NextMustShareModel", "tellBest", "(III)I"⟩, 53) := ⟨⟨by decide +kernel, by decide +kernel⟩, List.mem_of_getElem? (i := 1322) (by decide +kernel), List.mem_of_getElem? (i := 1801) (by decide +kernel), List.mem_of_getElem? (i := 1802) (by decide +kernel)⟩
theorem lw_p90 : lw_okq (⟨"NextMustShareModel", "findBest", "(IIII)Z"⟩, 53) := ⟨⟨by decide +kernel, by decide +kernel⟩, List.mem_of_getElem? (i := 1322) (by decide +kernel), List.mem_of_getElem? (i := 1805) (by decide +kernel), List.mem_of_getElem? (i := 1806) (by decide +kernel)⟩
theorem lw_p91 : lw_okq (⟨"NextMustShareModel", "costIn", "(I)I"⟩, 53) := ⟨⟨by decide +kernel, by decide +kernel⟩, List.mem_of_getElem? (i := 1322) (by decide +kernel), List.mem_of_getElem? (i := 1810) (by decide +kernel), List.mem_of_getElem? (i := 1811) (by decide +kernel)⟩
theorem lw_p92 : lw_okq (⟨"NextMustShareModel", "scoreOf", "(II)I"⟩, 53) := ⟨⟨by decide +kernel, by decide +kernel⟩, List.mem_of_getElem? (i := 1322) (by decide +kernel), List.mem_of_getElem? (i := 1814) (by decide +kernel), List.mem_of_getElem? (i := 1815) (by decide +kernel)⟩
theorem lw_p93 : lw_okq (⟨"NextMustShareModel", "joyIn", "(II)I"⟩, 53) := ⟨⟨by decide +kernel, by decide +kernel⟩, List.mem_of_getElem? (i := 1322) (by decide +kernel), List.mem_of_getElem? (i := 1819) (by decide +kernel), List.mem_of_getElem? (i := 1820) (by decide +kernel)⟩
theorem lw_p94 : lw_okq (⟨"NextMustShareModel", "tellCost", "(III)I"⟩, 53) := ⟨⟨by decide +kernel, by decide +kernel⟩, List.mem_of_getElem? (i := 1322) (by decide +kernel), List.mem_of_getElem? (i := 1831) (by decide +kernel), List.mem_of_getElem? (i := 1832) (by decide +kernel)⟩
theorem lw_p95 : lw_okq (⟨"NextMustShareModel", "findGame", "()V"⟩, 53) := ⟨⟨by decide +kernel, by decide +kernel⟩, List.mem_of_getElem? (i := 1322) (by decide +kernel), List.mem_of_getElem? (i := 1844) (by decide +kernel), List.mem_of_getElem? (i := 1845) (by decide +kernel)⟩
def lw_privs_6 : List (MethodName × Nat) := [(⟨"NextMustShareModel", "longestBy", "(I)I"⟩, 53), (⟨"NextMustShareModel", "findRows", "(III)V"⟩, 53), (⟨"NextMustShareModel", "may", "(III)Z"⟩, 53), (⟨"NextMustShareModel", "noEnds", "()V"⟩, 53), (⟨"NextMustShareModel", "findEnds", "(I)V"⟩, 53), (⟨"NextMustShareModel", "tellWay", "(III)V"⟩, 53), (⟨"NextMustShareModel", "betweenBy", "(IIZ)I"⟩, 53), (⟨"NextMustShareModel", "tellFrom", "(II)Z"⟩, 53), (⟨"NextMustShareModel", "besides", "(I)I"⟩, 53), (⟨"NextMustShareModel", "tellBest", "(III)I"⟩, 53), (⟨"NextMustShareModel", "findBest", "(IIII)Z"⟩, 53), (⟨"NextMustShareModel", "costIn", "(I)I"⟩, 53), (⟨"NextMustShareModel", "scoreOf", "(II)I"⟩, 53), (⟨"NextMustShareModel", "joyIn", "(II)I"⟩, 53), (⟨"NextMustShareModel", "tellCost", "(III)I"⟩, 53), (⟨"NextMustShareModel", "findGame", "()V"⟩, 53)]
theorem lw_r6 : ∀ q ∈ lw_privs_6, lw_okq q := List.forall_mem_cons.mpr ⟨lw_p80, List.forall_mem_cons.mpr ⟨lw_p81, List.forall_mem_cons.mpr ⟨lw_p82, List.forall_mem_cons.mpr ⟨lw_p83, List.forall_mem_cons.mpr ⟨lw_p84, List.forall_mem_cons.mpr ⟨lw_p85, List.forall_mem_cons.mpr ⟨lw_p86, List.forall_mem_cons.mpr ⟨lw_p87, List.forall_mem_cons.mpr ⟨lw_p88, List.forall_mem_cons.mpr ⟨lw_p89, List.forall_mem_cons.mpr ⟨lw_p90, List.forall_mem_cons.mpr ⟨lw_p91, List.forall_mem_cons.mpr ⟨lw_p92, List.forall_mem_cons.mpr ⟨lw_p93, List.forall_mem_cons.mpr ⟨lw_p94, List.forall_mem_cons.mpr ⟨lw_p95, fun _ h => absurd h List.not_mem_nil⟩⟩⟩⟩⟩⟩⟩⟩⟩⟩⟩⟩⟩⟩⟩⟩
theorem lw_p96 : lw_okq (⟨"NextMustShareModel", "findTurn", "(II)V"⟩, 53) := ⟨⟨by decide +kernel, by decide +kernel⟩, List.mem_of_getElem? (i := 1322) (by decide +kernel), List.mem_of_getElem? (i := 1848) (by decide +kernel), List.mem_of_getElem? (i := 1849) (by decide +kernel)⟩
theorem lw_p97 : lw_okq (⟨"NextMustShareModel", "findGreedy", "(II)V"⟩, 53) := ⟨⟨by decide +kernel, by decide +kernel⟩, List.mem_of_getElem? (i := 1322) (by decide +kernel), List.mem_of_getElem? (i := 1856) (by decide +kernel), List.mem_of_getElem? (i := 1857) (by decide +kernel)⟩
theorem lw_p98 : lw_okq (⟨"NextMustShareModel", "menuAt", "(II)I"⟩, 53) := ⟨⟨by decide +kernel, by decide +kernel⟩, List.mem_of_getElem? (i := 1322) (by decide +kernel), List.mem_of_getElem? (i := 1864) (by decide +kernel), List.mem_of_getElem? (i := 1865) (by decide +kernel)⟩
theorem lw_p99 : lw_okq (⟨"NextMustShareModel", "tellMended", "(II)V"⟩, 53) := ⟨⟨by decide +kernel, by decide +kernel⟩, List.mem_of_getElem? (i := 1322) (by decide +kernel), List.mem_of_getElem? (i := 1868) (by decide +kernel), List.mem_of_getElem? (i := 1869) (by decide +kernel)⟩
theorem lw_p100 : lw_okq (⟨"NextMustShareModel", "findFills", "(I)J"⟩, 53) := ⟨⟨by decide +kernel, by decide +kernel⟩, List.mem_of_getElem? (i := 1322) (by decide +kernel), List.mem_of_getElem? (i := 1877) (by decide +kernel), List.mem_of_getElem? (i := 1878) (by decide +kernel)⟩
theorem lw_p101 : lw_okq (⟨"NextMustShareModel", "isAsked", "(III)Z"⟩, 53) := ⟨⟨by decide +kernel, by decide +kernel⟩, List.mem_of_getElem? (i := 1322) (by decide +kernel), List.mem_of_getElem? (i := 1881) (by decide +kernel), List.mem_of_getElem? (i := 1882) (by decide +kernel)⟩
theorem lw_p102 : lw_okq (⟨"NextMustShareModel", "ateOf", "(II)I"⟩, 53) := ⟨⟨by decide +kernel, by decide +kernel⟩, List.mem_of_getElem? (i := 1322) (by decide +kernel), List.mem_of_getElem? (i := 1901) (by decide +kernel), List.mem_of_getElem? (i := 1902) (by decide +kernel)⟩
theorem lw_p103 : lw_okq (⟨"NextMustShareModel", "canAll", "(I)Z"⟩, 53) := ⟨⟨by decide +kernel, by decide +kernel⟩, List.mem_of_getElem? (i := 1322) (by decide +kernel), List.mem_of_getElem? (i := 1913) (by decide +kernel), List.mem_of_getElem? (i := 1914) (by decide +kernel)⟩
def lw_privs_7 : List (MethodName × Nat) := [(⟨"NextMustShareModel", "findTurn", "(II)V"⟩, 53), (⟨"NextMustShareModel", "findGreedy", "(II)V"⟩, 53), (⟨"NextMustShareModel", "menuAt", "(II)I"⟩, 53), (⟨"NextMustShareModel", "tellMended", "(II)V"⟩, 53), (⟨"NextMustShareModel", "findFills", "(I)J"⟩, 53), (⟨"NextMustShareModel", "isAsked", "(III)Z"⟩, 53), (⟨"NextMustShareModel", "ateOf", "(II)I"⟩, 53), (⟨"NextMustShareModel", "canAll", "(I)Z"⟩, 53)]
theorem lw_r7 : ∀ q ∈ lw_privs_7, lw_okq q := List.forall_mem_cons.mpr ⟨lw_p96, List.forall_mem_cons.mpr ⟨lw_p97, List.forall_mem_cons.mpr ⟨lw_p98, List.forall_mem_cons.mpr ⟨lw_p99, List.forall_mem_cons.mpr ⟨lw_p100, List.forall_mem_cons.mpr ⟨lw_p101, List.forall_mem_cons.mpr ⟨lw_p102, List.forall_mem_cons.mpr ⟨lw_p103, fun _ h => absurd h List.not_mem_nil⟩⟩⟩⟩⟩⟩⟩⟩
def lw_privs : List (MethodName × Nat) := lw_privs_1 ++ (lw_privs_2 ++ (lw_privs_3 ++ (lw_privs_4 ++ (lw_privs_5 ++ (lw_privs_6 ++ (lw_privs_7))))))
def lw_tbl : List Cond := k2_sels lw_privs ++ tables_1
theorem lw_privs_ok : ∀ q ∈ lw_privs, lw_okq q := by
  show ∀ q ∈ lw_privs_1 ++ (lw_privs_2 ++ (lw_privs_3 ++ (lw_privs_4 ++ (lw_privs_5 ++ (lw_privs_6 ++ (lw_privs_7)))))), lw_okq q
  exact List.forall_mem_append.mpr ⟨lw_r1, List.forall_mem_append.mpr ⟨lw_r2, List.forall_mem_append.mpr ⟨lw_r3, List.forall_mem_append.mpr ⟨lw_r4, List.forall_mem_append.mpr ⟨lw_r5, List.forall_mem_append.mpr ⟨lw_r6, lw_r7⟩⟩⟩⟩⟩⟩
def RX0 : String := "NextMustShare$Banquet"
def TX0 : u_T := fun k => match k with
  | 0 => ("NextMustShare$Banquet", "row", "[I", true)
  | 1 => ("NextMustShare$Banquet", "size", "I", false)
  | _ => ("NextMustShare$Banquet", "set", "I", false)
def tyX0 : Nat → FieldType := fun k => match k with
  | 0 => .array .int
  | 1 => .int
  | _ => .int
abbrev wsX00 : List Cond := u_ws RX0 TX0 3
theorem nmX0 : ∀ a, a < 3 → ∀ b, b < 3 → a ≠ b → (TX0 a).2.1 ≠ (TX0 b).2.1 := by decide +kernel
theorem tyX0_ok : ∀ k, k < 3 → parseFieldDescriptor (TX0 k).2.2.1 = some (tyX0 k) := by decide +kernel
abbrev cX0_init : ByteArray := prog_2_method_1_code
def yX0_init : MethodName := ⟨RX0, "<init>", "()V"⟩
abbrev cX0_size : ByteArray := prog_2_method_2_code
def yX0_size : MethodName := ⟨RX0, "size", "()I"⟩
abbrev cX0_set : ByteArray := prog_2_method_3_code
def yX0_set : MethodName := ⟨RX0, "set", "()I"⟩
abbrev cX0_last : ByteArray := prog_2_method_4_code
def yX0_last : MethodName := ⟨RX0, "last", "()I"⟩
abbrev cX0_add : ByteArray := prog_2_method_5_code
def yX0_add : MethodName := ⟨RX0, "add", "(I)V"⟩
abbrev cX0_takeLast : ByteArray := prog_2_method_6_code
def yX0_takeLast : MethodName := ⟨RX0, "takeLast", "()I"⟩
abbrev cX0_clear : ByteArray := prog_2_method_7_code
def yX0_clear : MethodName := ⟨RX0, "clear", "()V"⟩
abbrev cX0_copy : ByteArray := prog_2_method_8_code
def yX0_copy : MethodName := ⟨RX0, "copy", "(LNextMustShare$Banquet;)V"⟩
def RX1 : String := "NextMustShare$Larder"
def TX1 : u_T := fun k => match k with
  | 0 => ("NextMustShare$Larder", "stuffs", "[I", true)
  | 1 => ("NextMustShare$Larder", "costs", "[I", true)
  | 2 => ("NextMustShare$Larder", "heats", "[I", true)
  | 3 => ("NextMustShare$Larder", "hours", "[I", true)
  | 4 => ("NextMustShare$Larder", "loves", "[I", true)
  | 5 => ("NextMustShare$Larder", "bars", "[I", true)
  | 6 => ("NextMustShare$Larder", "holders", "[I", true)
  | 7 => ("NextMustShare$Larder", "dishes", "I", false)
  | _ => ("NextMustShare$Larder", "guests", "I", false)
def tyX1 : Nat → FieldType := fun k => match k with
  | 0 => .array .int
  | 1 => .array .int
  | 2 => .array .int
  | 3 => .array .int
  | 4 => .array .int
  | 5 => .array .int
  | 6 => .array .int
  | 7 => .int
  | _ => .int
abbrev wsX10 : List Cond := u_ws RX1 TX1 9
theorem nmX1 : ∀ a, a < 9 → ∀ b, b < 9 → a ≠ b → (TX1 a).2.1 ≠ (TX1 b).2.1 := by decide +kernel
theorem tyX1_ok : ∀ k, k < 9 → parseFieldDescriptor (TX1 k).2.2.1 = some (tyX1 k) := by decide +kernel
abbrev cX1_init : ByteArray := prog_3_method_1_code
def yX1_init : MethodName := ⟨RX1, "<init>", "()V"⟩
abbrev cX1_dishes : ByteArray := prog_3_method_2_code
def yX1_dishes : MethodName := ⟨RX1, "dishes", "()I"⟩
abbrev cX1_guests : ByteArray := prog_3_method_3_code
def yX1_guests : MethodName := ⟨RX1, "guests", "()I"⟩
abbrev cX1_hasDish : ByteArray := prog_3_method_4_code
def yX1_hasDish : MethodName := ⟨RX1, "hasDish", "(I)Z"⟩
abbrev cX1_hasGuest : ByteArray := prog_3_method_5_code
def yX1_hasGuest : MethodName := ⟨RX1, "hasGuest", "(I)Z"⟩
abbrev cX1_all : ByteArray := prog_3_method_6_code
def yX1_all : MethodName := ⟨RX1, "all", "()I"⟩
abbrev cX1_stuffsOf : ByteArray := prog_3_method_7_code
def yX1_stuffsOf : MethodName := ⟨RX1, "stuffsOf", "(I)I"⟩
abbrev cX1_costOf : ByteArray := prog_3_method_8_code
def yX1_costOf : MethodName := ⟨RX1, "costOf", "(I)I"⟩
abbrev cX1_heatOf : ByteArray := prog_3_method_9_code
def yX1_heatOf : MethodName := ⟨RX1, "heatOf", "(I)I"⟩
abbrev cX1_hoursOf : ByteArray := prog_3_method_10_code
def yX1_hoursOf : MethodName := ⟨RX1, "hoursOf", "(I)I"⟩
abbrev cX1_lovedBy : ByteArray := prog_3_method_11_code
def yX1_lovedBy : MethodName := ⟨RX1, "lovedBy", "(I)I"⟩
abbrev cX1_barredBy : ByteArray := prog_3_method_12_code
def yX1_barredBy : MethodName := ⟨RX1, "barredBy", "(I)I"⟩
abbrev cX1_holdersOf : ByteArray := prog_3_method_13_code
def yX1_holdersOf : MethodName := ⟨RX1, "holdersOf", "(I)I"⟩
abbrev cX1_draftDish : ByteArray := prog_3_method_14_code
def yX1_draftDish : MethodName := ⟨RX1, "draftDish", "(IIIII)V"⟩
abbrev cX1_draftGuest : ByteArray := prog_3_method_15_code
def yX1_draftGuest : MethodName := ⟨RX1, "draftGuest", "(III)V"⟩
abbrev cX1_takeIn : ByteArray := prog_3_method_16_code
def yX1_takeIn : MethodName := ⟨RX1, "takeIn", "(II)V"⟩
abbrev cX1_price : ByteArray := prog_3_method_17_code
def yX1_price : MethodName := ⟨RX1, "price", "(II)V"⟩
abbrev cX1_costOfAll : ByteArray := prog_3_method_18_code
def yX1_costOfAll : MethodName := ⟨RX1, "costOfAll", "(I)I"⟩
abbrev cX1_isHungry : ByteArray := prog_3_method_19_code
def yX1_isHungry : MethodName := ⟨RX1, "isHungry", "(II)Z"⟩
abbrev cX1_hungryAt : ByteArray := prog_3_method_20_code
def yX1_hungryAt : MethodName := ⟨RX1, "hungryAt", "(I)I"⟩
abbrev cX1_barredTo : ByteArray := prog_3_method_21_code
def yX1_barredTo : MethodName := ⟨RX1, "barredTo", "(I)I"⟩
abbrev cX1_barredToNobody : ByteArray := prog_3_method_22_code
def yX1_barredToNobody : MethodName := ⟨RX1, "barredToNobody", "()I"⟩
abbrev cX1_hotDishes : ByteArray := prog_3_method_23_code
def yX1_hotDishes : MethodName := ⟨RX1, "hotDishes", "()I"⟩
abbrev cX1_holdersOfSome : ByteArray := prog_3_method_24_code
def yX1_holdersOfSome : MethodName := ⟨RX1, "holdersOfSome", "(II)I"⟩
abbrev cX1_sharing : ByteArray := prog_3_method_25_code
def yX1_sharing : MethodName := ⟨RX1, "sharing", "(II)I"⟩
abbrev cX1_partOf : ByteArray := prog_3_method_26_code
def yX1_partOf : MethodName := ⟨RX1, "partOf", "(II)I"⟩
def RX2 : String := "NextMustShare$Law"
def TX2 : u_T := fun k => match k with
  | 0 => ("NextMustShare$Law", "stores", "[I", true)
  | 1 => ("NextMustShare$Law", "share", "I", false)
  | 2 => ("NextMustShare$Law", "times", "I", false)
  | _ => ("NextMustShare$Law", "heat", "I", false)
def tyX2 : Nat → FieldType := fun k => match k with
  | 0 => .array .int
  | 1 => .int
  | 2 => .int
  | _ => .int
abbrev wsX20 : List Cond := u_ws RX2 TX2 4
theorem nmX2 : ∀ a, a < 4 → ∀ b, b < 4 → a ≠ b → (TX2 a).2.1 ≠ (TX2 b).2.1 := by decide +kernel
theorem tyX2_ok : ∀ k, k < 4 → parseFieldDescriptor (TX2 k).2.2.1 = some (tyX2 k) := by decide +kernel
abbrev cX2_init : ByteArray := prog_4_method_1_code
def yX2_init : MethodName := ⟨RX2, "<init>", "()V"⟩
abbrev cX2_allows : ByteArray := prog_4_method_2_code
def yX2_allows : MethodName := ⟨RX2, "allows", "(II)Z"⟩
abbrev cX2_share : ByteArray := prog_4_method_3_code
def yX2_share : MethodName := ⟨RX2, "share", "()I"⟩
abbrev cX2_heat : ByteArray := prog_4_method_4_code
def yX2_heat : MethodName := ⟨RX2, "heat", "()I"⟩
abbrev cX2_most : ByteArray := prog_4_method_5_code
def yX2_most : MethodName := ⟨RX2, "most", "(I)I"⟩
abbrev cX2_change : ByteArray := prog_4_method_6_code
def yX2_change : MethodName := ⟨RX2, "change", "(II)I"⟩
abbrev cX2_restock : ByteArray := prog_4_method_7_code
def yX2_restock : MethodName := ⟨RX2, "restock", "(II)I"⟩
abbrev cX2_copy : ByteArray := prog_4_method_8_code
def yX2_copy : MethodName := ⟨RX2, "copy", "(LNextMustShare$Law;)V"⟩
abbrev cX2_useUp : ByteArray := prog_4_method_9_code
def yX2_useUp : MethodName := ⟨RX2, "useUp", "(LNextMustShare$Larder;I)V"⟩
abbrev cX2_refusal : ByteArray := prog_4_method_10_code
def yX2_refusal : MethodName := ⟨RX2, "refusal", "(LNextMustShare$Larder;III)I"⟩
abbrev cX2_isAgainstHeat : ByteArray := prog_4_method_11_code
def yX2_isAgainstHeat : MethodName := ⟨RX2, "isAgainstHeat", "(IIII)Z"⟩
def RX3 : String := "NextMustShare$Match"
def TX3 : u_T := fun k => match k with
  | 0 => ("NextMustShare$Match", "values", "[I", true)
  | _ => ("NextMustShare$Match", "joys", "[I", true)
def tyX3 : Nat → FieldType := fun k => match k with
  | 0 => .array .int
  | _ => .array .int
abbrev wsX30 : List Cond := u_ws RX3 TX3 2
theorem nmX3 : ∀ a, a < 2 → ∀ b, b < 2 → a ≠ b → (TX3 a).2.1 ≠ (TX3 b).2.1 := by decide +kernel
theorem tyX3_ok : ∀ k, k < 2 → parseFieldDescriptor (TX3 k).2.2.1 = some (tyX3 k) := by decide +kernel
abbrev cX3_init : ByteArray := prog_5_method_1_code
def yX3_init : MethodName := ⟨RX3, "<init>", "()V"⟩
abbrev cX3_value : ByteArray := prog_5_method_2_code
def yX3_value : MethodName := ⟨RX3, "value", "(II)I"⟩
abbrev cX3_setValue : ByteArray := prog_5_method_3_code
def yX3_setValue : MethodName := ⟨RX3, "setValue", "(III)V"⟩
abbrev cX3_countRows : ByteArray := prog_5_method_4_code
def yX3_countRows : MethodName := ⟨RX3, "countRows", "(LNextMustShare$Steps;I)J"⟩
abbrev cX3_countOn : ByteArray := prog_5_method_5_code
def yX3_countOn : MethodName := ⟨RX3, "countOn", "(LNextMustShare$Steps;I)V"⟩
abbrev cX3_countWith : ByteArray := prog_5_method_6_code
def yX3_countWith : MethodName := ⟨RX3, "countWith", "(II)I"⟩
abbrev cX3_mending : ByteArray := prog_5_method_7_code
def yX3_mending : MethodName := ⟨RX3, "mending", "(LNextMustShare$Steps;LNextMustShare$Menu;LNextMustShare$Row;)I"⟩
abbrev cX3_fewestChanges : ByteArray := prog_5_method_8_code
def yX3_fewestChanges : MethodName := ⟨RX3, "fewestChanges", "(IILNextMustShare$Menu;)I"⟩
abbrev cX3_changesWith : ByteArray := prog_5_method_9_code
def yX3_changesWith : MethodName := ⟨RX3, "changesWith", "(IILNextMustShare$Menu;)I"⟩
abbrev cX3_tellMended : ByteArray := prog_5_method_10_code
def yX3_tellMended : MethodName := ⟨RX3, "tellMended", "(LNextMustShare$Steps;LNextMustShare$Menu;LNextMustShare$Row;)V"⟩
abbrev cX3_playBoth : ByteArray := prog_5_method_11_code
def yX3_playBoth : MethodName := ⟨RX3, "playBoth", "(LNextMustShare$Steps;LNextMustShare$Row;)I"⟩
abbrev cX3_playGreedy : ByteArray := prog_5_method_12_code
def yX3_playGreedy : MethodName := ⟨RX3, "playGreedy", "(LNextMustShare$Steps;LNextMustShare$Larder;LNextMustShare$Taste;LNextMustShare$Row;)I"⟩
abbrev cX3_worthToOther : ByteArray := prog_5_method_13_code
def yX3_worthToOther : MethodName := ⟨RX3, "worthToOther", "(III)I"⟩
abbrev cX3_mostJoyful : ByteArray := prog_5_method_14_code
def yX3_mostJoyful : MethodName := ⟨RX3, "mostJoyful", "(I)I"⟩
abbrev cX3_leastFor : ByteArray := prog_5_method_15_code
def yX3_leastFor : MethodName := ⟨RX3, "leastFor", "(II)I"⟩
def RX4 : String := "NextMustShare$Menu"
def TX4 : u_T := fun k => match k with
  | 0 => ("NextMustShare$Menu", "places", "[I", true)
  | 1 => ("NextMustShare$Menu", "free", "[I", true)
  | _ => ("NextMustShare$Menu", "size", "I", false)
def tyX4 : Nat → FieldType := fun k => match k with
  | 0 => .array .int
  | 1 => .array .int
  | _ => .int
abbrev wsX40 : List Cond := u_ws RX4 TX4 3
theorem nmX4 : ∀ a, a < 3 → ∀ b, b < 3 → a ≠ b → (TX4 a).2.1 ≠ (TX4 b).2.1 := by decide +kernel
theorem tyX4_ok : ∀ k, k < 3 → parseFieldDescriptor (TX4 k).2.2.1 = some (tyX4 k) := by decide +kernel
abbrev cX4_init : ByteArray := prog_6_method_1_code
def yX4_init : MethodName := ⟨RX4, "<init>", "(I)V"⟩
abbrev cX4_size : ByteArray := prog_6_method_2_code
def yX4_size : MethodName := ⟨RX4, "size", "()I"⟩
abbrev cX4_at : ByteArray := prog_6_method_3_code
def yX4_at : MethodName := ⟨RX4, "at", "(I)I"⟩
abbrev cX4_isKnown : ByteArray := prog_6_method_4_code
def yX4_isKnown : MethodName := ⟨RX4, "isKnown", "()Z"⟩
abbrev cX4_clear : ByteArray := prog_6_method_5_code
def yX4_clear : MethodName := ⟨RX4, "clear", "()V"⟩
abbrev cX4_addAll : ByteArray := prog_6_method_6_code
def yX4_addAll : MethodName := ⟨RX4, "addAll", "(LNextMustShare$Menu;)V"⟩
abbrev cX4_read : ByteArray := prog_6_method_7_code
def yX4_read : MethodName := ⟨RX4, "read", "(LNextMustShare$Text;I)I"⟩
abbrev cX4_exchange : ByteArray := prog_6_method_8_code
def yX4_exchange : MethodName := ⟨RX4, "exchange", "(II)Z"⟩
abbrev cX4_reverse : ByteArray := prog_6_method_9_code
def yX4_reverse : MethodName := ⟨RX4, "reverse", "()V"⟩
abbrev cX4_put : ByteArray := prog_6_method_10_code
def yX4_put : MethodName := ⟨RX4, "put", "(II)V"⟩
abbrev cX4_fault : ByteArray := prog_6_method_11_code
def yX4_fault : MethodName := ⟨RX4, "fault", "(LNextMustShare$Larder;LNextMustShare$Law;)I"⟩
abbrev cX4_whyAt : ByteArray := prog_6_method_12_code
def yX4_whyAt : MethodName := ⟨RX4, "whyAt", "(ILNextMustShare$Larder;LNextMustShare$Law;)I"⟩
abbrev cX4_setTill : ByteArray := prog_6_method_13_code
def yX4_setTill : MethodName := ⟨RX4, "setTill", "(I)I"⟩
abbrev cX4_costTill : ByteArray := prog_6_method_14_code
def yX4_costTill : MethodName := ⟨RX4, "costTill", "(ILNextMustShare$Larder;)I"⟩
abbrev cX4_hungryTill : ByteArray := prog_6_method_15_code
def yX4_hungryTill : MethodName := ⟨RX4, "hungryTill", "(ILNextMustShare$Larder;)I"⟩
abbrev cX4_mostAtOnce : ByteArray := prog_6_method_16_code
def yX4_mostAtOnce : MethodName := ⟨RX4, "mostAtOnce", "(LNextMustShare$Larder;)I"⟩
abbrev cX4_cook : ByteArray := prog_6_method_17_code
def yX4_cook : MethodName := ⟨RX4, "cook", "(LNextMustShare$Larder;ILNextMustShare$Row;)I"⟩
abbrev cX4_placesEaten : ByteArray := prog_6_method_18_code
def yX4_placesEaten : MethodName := ⟨RX4, "placesEaten", "(LNextMustShare$Larder;I)I"⟩
abbrev cX4_stuffsEaten : ByteArray := prog_6_method_19_code
def yX4_stuffsEaten : MethodName := ⟨RX4, "stuffsEaten", "(LNextMustShare$Larder;I)I"⟩
def RX5 : String := "NextMustShare$Plan"
def TX5 : u_T := fun k => match k with
  | 0 => ("NextMustShare$Plan", "weights", "[[I", true)
  | 1 => ("NextMustShare$Plan", "goals", "[I", true)
  | 2 => ("NextMustShare$Plan", "costs", "[I", true)
  | 3 => ("NextMustShare$Plan", "follow", "[I", true)
  | 4 => ("NextMustShare$Plan", "lines", "I", false)
  | 5 => ("NextMustShare$Plan", "lasts", "I", false)
  | 6 => ("NextMustShare$Plan", "purse", "I", false)
  | _ => ("NextMustShare$Plan", "more", "I", false)
def tyX5 : Nat → FieldType := fun k => match k with
  | 0 => .array (.array .int)
  | 1 => .array .int
  | 2 => .array .int
  | 3 => .array .int
  | 4 => .int
  | 5 => .int
  | 6 => .int
  | _ => .int
abbrev wsX50 : List Cond := u_ws RX5 TX5 8
theorem nmX5 : ∀ a, a < 8 → ∀ b, b < 8 → a ≠ b → (TX5 a).2.1 ≠ (TX5 b).2.1 := by decide +kernel
theorem tyX5_ok : ∀ k, k < 8 → parseFieldDescriptor (TX5 k).2.2.1 = some (tyX5 k) := by decide +kernel
abbrev cX5_init : ByteArray := prog_7_method_1_code
def yX5_init : MethodName := ⟨RX5, "<init>", "()V"⟩
abbrev cX5_begin : ByteArray := prog_7_method_2_code
def yX5_begin : MethodName := ⟨RX5, "begin", "()V"⟩
abbrev cX5_addLine : ByteArray := prog_7_method_3_code
def yX5_addLine : MethodName := ⟨RX5, "addLine", "()V"⟩
abbrev cX5_weigh : ByteArray := prog_7_method_4_code
def yX5_weigh : MethodName := ⟨RX5, "weigh", "(II)V"⟩
abbrev cX5_weighAll : ByteArray := prog_7_method_5_code
def yX5_weighAll : MethodName := ⟨RX5, "weighAll", "(LNextMustShare$Larder;I)V"⟩
abbrev cX5_endWith : ByteArray := prog_7_method_6_code
def yX5_endWith : MethodName := ⟨RX5, "endWith", "(I)V"⟩
abbrev cX5_limit : ByteArray := prog_7_method_7_code
def yX5_limit : MethodName := ⟨RX5, "limit", "(LNextMustShare$Larder;I)V"⟩
abbrev cX5_greatest : ByteArray := prog_7_method_8_code
def yX5_greatest : MethodName := ⟨RX5, "greatest", "(LNextMustShare$Steps;II)I"⟩
abbrev cX5_seek : ByteArray := prog_7_method_9_code
def yX5_seek : MethodName := ⟨RX5, "seek", "(LNextMustShare$Steps;II)I"⟩
abbrev cX5_isGoal : ByteArray := prog_7_method_10_code
def yX5_isGoal : MethodName := ⟨RX5, "isGoal", "(LNextMustShare$Steps;III)Z"⟩
abbrev cX5_worth : ByteArray := prog_7_method_11_code
def yX5_worth : MethodName := ⟨RX5, "worth", "(LNextMustShare$Steps;I)I"⟩
abbrev cX5_sum : ByteArray := prog_7_method_12_code
def yX5_sum : MethodName := ⟨RX5, "sum", "([II)I"⟩
abbrev cX5_lead : ByteArray := prog_7_method_13_code
def yX5_lead : MethodName := ⟨RX5, "lead", "(LNextMustShare$Steps;)V"⟩
abbrev cX5_isMarked : ByteArray := prog_7_method_14_code
def yX5_isMarked : MethodName := ⟨RX5, "isMarked", "(II)Z"⟩
abbrev cX5_tell : ByteArray := prog_7_method_15_code
def yX5_tell : MethodName := ⟨RX5, "tell", "(LNextMustShare$Steps;LNextMustShare$Row;)V"⟩
abbrev cX5_possibleAt : ByteArray := prog_7_method_16_code
def yX5_possibleAt : MethodName := ⟨RX5, "possibleAt", "(LNextMustShare$Steps;I)I"⟩
abbrev cX5_joiningStuffs : ByteArray := prog_7_method_17_code
def yX5_joiningStuffs : MethodName := ⟨RX5, "joiningStuffs", "(LNextMustShare$Steps;LNextMustShare$Larder;LNextMustShare$Law;)I"⟩
abbrev cX5_findBeginnings : ByteArray := prog_7_method_18_code
def yX5_findBeginnings : MethodName := ⟨RX5, "findBeginnings", "(LNextMustShare$Steps;)V"⟩
abbrev cX5_isHeatLost : ByteArray := prog_7_method_19_code
def yX5_isHeatLost : MethodName := ⟨RX5, "isHeatLost", "(LNextMustShare$Steps;II)Z"⟩
abbrev cX5_findGaps : ByteArray := prog_7_method_20_code
def yX5_findGaps : MethodName := ⟨RX5, "findGaps", "(LNextMustShare$Steps;I)V"⟩
abbrev cX5_joins : ByteArray := prog_7_method_21_code
def yX5_joins : MethodName := ⟨RX5, "joins", "(ILNextMustShare$Larder;LNextMustShare$Law;)Z"⟩
def RX6 : String := "NextMustShare$Reader"
def TX6 : u_T := fun k => match k with
  | 0 => ("NextMustShare$Reader", "place", "I", false)
  | 1 => ("NextMustShare$Reader", "dishes", "I", false)
  | _ => ("NextMustShare$Reader", "guests", "I", false)
def tyX6 : Nat → FieldType := fun k => match k with
  | 0 => .int
  | 1 => .int
  | _ => .int
abbrev wsX60 : List Cond := u_ws RX6 TX6 3
theorem nmX6 : ∀ a, a < 3 → ∀ b, b < 3 → a ≠ b → (TX6 a).2.1 ≠ (TX6 b).2.1 := by decide +kernel
theorem tyX6_ok : ∀ k, k < 3 → parseFieldDescriptor (TX6 k).2.2.1 = some (tyX6 k) := by decide +kernel
abbrev cX6_init : ByteArray := prog_8_method_1_code
def yX6_init : MethodName := ⟨RX6, "<init>", "()V"⟩
abbrev cX6_read : ByteArray := prog_8_method_2_code
def yX6_read : MethodName := ⟨RX6, "read", "(LNextMustShare$Text;LNextMustShare$Larder;)I"⟩
abbrev cX6_readLine : ByteArray := prog_8_method_3_code
def yX6_readLine : MethodName := ⟨RX6, "readLine", "(LNextMustShare$Text;LNextMustShare$Larder;)Z"⟩
abbrev cX6_readGuest : ByteArray := prog_8_method_4_code
def yX6_readGuest : MethodName := ⟨RX6, "readGuest", "(LNextMustShare$Text;LNextMustShare$Larder;)Z"⟩
abbrev cX6_readDish : ByteArray := prog_8_method_5_code
def yX6_readDish : MethodName := ⟨RX6, "readDish", "(LNextMustShare$Text;LNextMustShare$Larder;)Z"⟩
abbrev cX6_readDigit : ByteArray := prog_8_method_6_code
def yX6_readDigit : MethodName := ⟨RX6, "readDigit", "(LNextMustShare$Text;)I"⟩
abbrev cX6_readStuffs : ByteArray := prog_8_method_7_code
def yX6_readStuffs : MethodName := ⟨RX6, "readStuffs", "(LNextMustShare$Text;)I"⟩
def RX7 : String := "NextMustShare$Row"
def TX7 : u_T := fun k => match k with
  | 0 => ("NextMustShare$Row", "numbers", "[I", true)
  | _ => ("NextMustShare$Row", "size", "I", false)
def tyX7 : Nat → FieldType := fun k => match k with
  | 0 => .array .int
  | _ => .int
abbrev wsX70 : List Cond := u_ws RX7 TX7 2
theorem nmX7 : ∀ a, a < 2 → ∀ b, b < 2 → a ≠ b → (TX7 a).2.1 ≠ (TX7 b).2.1 := by decide +kernel
theorem tyX7_ok : ∀ k, k < 2 → parseFieldDescriptor (TX7 k).2.2.1 = some (tyX7 k) := by decide +kernel
abbrev cX7_init : ByteArray := prog_9_method_1_code
def yX7_init : MethodName := ⟨RX7, "<init>", "()V"⟩
abbrev cX7_size : ByteArray := prog_9_method_2_code
def yX7_size : MethodName := ⟨RX7, "size", "()I"⟩
abbrev cX7_at : ByteArray := prog_9_method_3_code
def yX7_at : MethodName := ⟨RX7, "at", "(I)I"⟩
abbrev cX7_clear : ByteArray := prog_9_method_4_code
def yX7_clear : MethodName := ⟨RX7, "clear", "()V"⟩
abbrev cX7_add : ByteArray := prog_9_method_5_code
def yX7_add : MethodName := ⟨RX7, "add", "(I)V"⟩
def RX8 : String := "NextMustShare$Steps"
def TX8 : u_T := fun k => match k with
  | 0 => ("NextMustShare$Steps", "fits", "[Z", true)
  | 1 => ("NextMustShare$Steps", "ends", "[I", true)
  | 2 => ("NextMustShare$Steps", "near", "[I", true)
  | 3 => ("NextMustShare$Steps", "allowed", "[I", true)
  | 4 => ("NextMustShare$Steps", "holders", "[I", true)
  | 5 => ("NextMustShare$Steps", "most", "[I", true)
  | 6 => ("NextMustShare$Steps", "dishes", "I", false)
  | 7 => ("NextMustShare$Steps", "hot", "I", false)
  | 8 => ("NextMustShare$Steps", "hotStaysHot", "Z", false)
  | 9 => ("NextMustShare$Steps", "from", "I", false)
  | _ => ("NextMustShare$Steps", "start", "I", false)
def tyX8 : Nat → FieldType := fun k => match k with
  | 0 => .array .boolean
  | 1 => .array .int
  | 2 => .array .int
  | 3 => .array .int
  | 4 => .array .int
  | 5 => .array .int
  | 6 => .int
  | 7 => .int
  | 8 => .boolean
  | 9 => .int
  | _ => .int
abbrev wsX80 : List Cond := u_ws RX8 TX8 11
theorem nmX8 : ∀ a, a < 11 → ∀ b, b < 11 → a ≠ b → (TX8 a).2.1 ≠ (TX8 b).2.1 := by decide +kernel
theorem tyX8_ok : ∀ k, k < 11 → parseFieldDescriptor (TX8 k).2.2.1 = some (tyX8 k) := by decide +kernel
abbrev cX8_init : ByteArray := prog_10_method_1_code
def yX8_init : MethodName := ⟨RX8, "<init>", "()V"⟩
abbrev cX8_learn : ByteArray := prog_10_method_2_code
def yX8_learn : MethodName := ⟨RX8, "learn", "(LNextMustShare$Larder;LNextMustShare$Law;)V"⟩
abbrev cX8_isStocked : ByteArray := prog_10_method_3_code
def yX8_isStocked : MethodName := ⟨RX8, "isStocked", "(I)Z"⟩
abbrev cX8_begin : ByteArray := prog_10_method_4_code
def yX8_begin : MethodName := ⟨RX8, "begin", "(III)V"⟩
abbrev cX8_allow : ByteArray := prog_10_method_5_code
def yX8_allow : MethodName := ⟨RX8, "allow", "(II)V"⟩
abbrev cX8_dishes : ByteArray := prog_10_method_6_code
def yX8_dishes : MethodName := ⟨RX8, "dishes", "()I"⟩
abbrev cX8_sets : ByteArray := prog_10_method_7_code
def yX8_sets : MethodName := ⟨RX8, "sets", "()I"⟩
abbrev cX8_from : ByteArray := prog_10_method_8_code
def yX8_from : MethodName := ⟨RX8, "from", "()I"⟩
abbrev cX8_start : ByteArray := prog_10_method_9_code
def yX8_start : MethodName := ⟨RX8, "start", "()I"⟩
abbrev cX8_hot : ByteArray := prog_10_method_10_code
def yX8_hot : MethodName := ⟨RX8, "hot", "()I"⟩
abbrev cX8_isHotToStay : ByteArray := prog_10_method_11_code
def yX8_isHotToStay : MethodName := ⟨RX8, "isHotToStay", "()Z"⟩
abbrev cX8_near : ByteArray := prog_10_method_12_code
def yX8_near : MethodName := ⟨RX8, "near", "(I)I"⟩
abbrev cX8_fits : ByteArray := prog_10_method_13_code
def yX8_fits : MethodName := ⟨RX8, "fits", "(I)Z"⟩
abbrev cX8_ends : ByteArray := prog_10_method_14_code
def yX8_ends : MethodName := ⟨RX8, "ends", "(I)I"⟩
abbrev cX8_more : ByteArray := prog_10_method_15_code
def yX8_more : MethodName := ⟨RX8, "more", "(I)I"⟩
abbrev cX8_open : ByteArray := prog_10_method_16_code
def yX8_open : MethodName := ⟨RX8, "open", "(I)I"⟩
abbrev cX8_reach : ByteArray := prog_10_method_17_code
def yX8_reach : MethodName := ⟨RX8, "reach", "()V"⟩
abbrev cX8_inSetsAbove : ByteArray := prog_10_method_18_code
def yX8_inSetsAbove : MethodName := ⟨RX8, "inSetsAbove", "(I)I"⟩
def RX9 : String := "NextMustShare$Taste"
def TX9 : u_T := fun k => match k with
  | 0 => ("NextMustShare$Taste", "codes", "[I", true)
  | 1 => ("NextMustShare$Taste", "draft", "[I", true)
  | 2 => ("NextMustShare$Taste", "stack", "[I", true)
  | 3 => ("NextMustShare$Taste", "size", "I", false)
  | 4 => ("NextMustShare$Taste", "drafted", "I", false)
  | 5 => ("NextMustShare$Taste", "top", "I", false)
  | _ => ("NextMustShare$Taste", "place", "I", false)
def tyX9 : Nat → FieldType := fun k => match k with
  | 0 => .array .int
  | 1 => .array .int
  | 2 => .array .int
  | 3 => .int
  | 4 => .int
  | 5 => .int
  | _ => .int
abbrev wsX90 : List Cond := u_ws RX9 TX9 7
theorem nmX9 : ∀ a, a < 7 → ∀ b, b < 7 → a ≠ b → (TX9 a).2.1 ≠ (TX9 b).2.1 := by decide +kernel
theorem tyX9_ok : ∀ k, k < 7 → parseFieldDescriptor (TX9 k).2.2.1 = some (tyX9 k) := by decide +kernel
abbrev cX9_init : ByteArray := prog_11_method_1_code
def yX9_init : MethodName := ⟨RX9, "<init>", "()V"⟩
abbrev cX9_read : ByteArray := prog_11_method_2_code
def yX9_read : MethodName := ⟨RX9, "read", "(LNextMustShare$Text;)I"⟩
abbrev cX9_readExpression : ByteArray := prog_11_method_3_code
def yX9_readExpression : MethodName := ⟨RX9, "readExpression", "(LNextMustShare$Text;I)Z"⟩
abbrev cX9_readSum : ByteArray := prog_11_method_4_code
def yX9_readSum : MethodName := ⟨RX9, "readSum", "(LNextMustShare$Text;I)Z"⟩
abbrev cX9_readProduct : ByteArray := prog_11_method_5_code
def yX9_readProduct : MethodName := ⟨RX9, "readProduct", "(LNextMustShare$Text;I)Z"⟩
abbrev cX9_readFactor : ByteArray := prog_11_method_6_code
def yX9_readFactor : MethodName := ⟨RX9, "readFactor", "(LNextMustShare$Text;I)Z"⟩
abbrev cX9_readThing : ByteArray := prog_11_method_7_code
def yX9_readThing : MethodName := ⟨RX9, "readThing", "(LNextMustShare$Text;I)Z"⟩
abbrev cX9_readBracket : ByteArray := prog_11_method_8_code
def yX9_readBracket : MethodName := ⟨RX9, "readBracket", "(LNextMustShare$Text;I)Z"⟩
abbrev cX9_readNumber : ByteArray := prog_11_method_9_code
def yX9_readNumber : MethodName := ⟨RX9, "readNumber", "(LNextMustShare$Text;)V"⟩
abbrev cX9_isQuality : ByteArray := prog_11_method_10_code
def yX9_isQuality : MethodName := ⟨RX9, "isQuality", "(I)Z"⟩
abbrev cX9_emit : ByteArray := prog_11_method_11_code
def yX9_emit : MethodName := ⟨RX9, "emit", "(I)V"⟩
abbrev cX9_of : ByteArray := prog_11_method_12_code
def yX9_of : MethodName := ⟨RX9, "of", "(LNextMustShare$Larder;II)I"⟩
abbrev cX9_ofAll : ByteArray := prog_11_method_13_code
def yX9_ofAll : MethodName := ⟨RX9, "ofAll", "(LNextMustShare$Larder;I)I"⟩
abbrev cX9_push : ByteArray := prog_11_method_14_code
def yX9_push : MethodName := ⟨RX9, "push", "(I)V"⟩
abbrev cX9_pop : ByteArray := prog_11_method_15_code
def yX9_pop : MethodName := ⟨RX9, "pop", "()I"⟩
abbrev cX9_quality : ByteArray := prog_11_method_16_code
def yX9_quality : MethodName := ⟨RX9, "quality", "(ILNextMustShare$Larder;II)I"⟩
abbrev cX9_result : ByteArray := prog_11_method_17_code
def yX9_result : MethodName := ⟨RX9, "result", "(III)I"⟩
def RX10 : String := "NextMustShare$Text"
def TX10 : u_T := fun k => match k with
  | 0 => ("NextMustShare$Text", "signs", "[I", true)
  | _ => ("NextMustShare$Text", "length", "I", false)
def tyX10 : Nat → FieldType := fun k => match k with
  | 0 => .array .int
  | _ => .int
abbrev wsX100 : List Cond := u_ws RX10 TX10 2
theorem nmX10 : ∀ a, a < 2 → ∀ b, b < 2 → a ≠ b → (TX10 a).2.1 ≠ (TX10 b).2.1 := by decide +kernel
theorem tyX10_ok : ∀ k, k < 2 → parseFieldDescriptor (TX10 k).2.2.1 = some (tyX10 k) := by decide +kernel
abbrev cX10_init : ByteArray := prog_12_method_1_code
def yX10_init : MethodName := ⟨RX10, "<init>", "()V"⟩
abbrev cX10_length : ByteArray := prog_12_method_2_code
def yX10_length : MethodName := ⟨RX10, "length", "()I"⟩
abbrev cX10_append : ByteArray := prog_12_method_3_code
def yX10_append : MethodName := ⟨RX10, "append", "(I)Z"⟩
abbrev cX10_cutTo : ByteArray := prog_12_method_4_code
def yX10_cutTo : MethodName := ⟨RX10, "cutTo", "(I)Z"⟩
abbrev cX10_clear : ByteArray := prog_12_method_5_code
def yX10_clear : MethodName := ⟨RX10, "clear", "()V"⟩
abbrev cX10_at : ByteArray := prog_12_method_6_code
def yX10_at : MethodName := ⟨RX10, "at", "(II)I"⟩
abbrev cX10_hasDigit : ByteArray := prog_12_method_7_code
def yX10_hasDigit : MethodName := ⟨RX10, "hasDigit", "(II)Z"⟩
def RX11 : String := "NextMustShare"
def TX11 : u_T := fun k => match k with
  | 0 => ("NextMustShare", "text", "LNextMustShare$Text;", true)
  | 1 => ("NextMustShare", "larder", "LNextMustShare$Larder;", true)
  | 2 => ("NextMustShare", "reader", "LNextMustShare$Reader;", true)
  | 3 => ("NextMustShare", "taste", "LNextMustShare$Taste;", true)
  | 4 => ("NextMustShare", "rules", "LNextMustShare$Law;", true)
  | 5 => ("NextMustShare", "otherRules", "LNextMustShare$Law;", true)
  | 6 => ("NextMustShare", "table", "LNextMustShare$Banquet;", true)
  | 7 => ("NextMustShare", "menus", "[LNextMustShare$Menu;", true)
  | 8 => ("NextMustShare", "bothMenus", "LNextMustShare$Menu;", true)
  | 9 => ("NextMustShare", "keptRules", "[LNextMustShare$Law;", true)
  | 10 => ("NextMustShare", "keptTables", "[LNextMustShare$Banquet;", true)
  | 11 => ("NextMustShare", "keptDishes", "[I", true)
  | 12 => ("NextMustShare", "steps", "LNextMustShare$Steps;", true)
  | 13 => ("NextMustShare", "plan", "LNextMustShare$Plan;", true)
  | 14 => ("NextMustShare", "match", "LNextMustShare$Match;", true)
  | _ => ("NextMustShare", "told", "LNextMustShare$Row;", true)
def tyX11 : Nat → FieldType := fun k => match k with
  | 0 => .object "NextMustShare$Text"
  | 1 => .object "NextMustShare$Larder"
  | 2 => .object "NextMustShare$Reader"
  | 3 => .object "NextMustShare$Taste"
  | 4 => .object "NextMustShare$Law"
  | 5 => .object "NextMustShare$Law"
  | 6 => .object "NextMustShare$Banquet"
  | 7 => .array (.object "NextMustShare$Menu")
  | 8 => .object "NextMustShare$Menu"
  | 9 => .array (.object "NextMustShare$Law")
  | 10 => .array (.object "NextMustShare$Banquet")
  | 11 => .array .int
  | 12 => .object "NextMustShare$Steps"
  | 13 => .object "NextMustShare$Plan"
  | 14 => .object "NextMustShare$Match"
  | _ => .object "NextMustShare$Row"
abbrev wsX110 : List Cond := u_ws RX11 TX11 16
theorem nmX11 : ∀ a, a < 16 → ∀ b, b < 16 → a ≠ b → (TX11 a).2.1 ≠ (TX11 b).2.1 := by decide +kernel
theorem tyX11_ok : ∀ k, k < 16 → parseFieldDescriptor (TX11 k).2.2.1 = some (tyX11 k) := by decide +kernel
abbrev cX11_init : ByteArray := prog_1_method_1_code
def yX11_init : MethodName := ⟨RX11, "<init>", "()V"⟩
abbrev cX11_sign : ByteArray := prog_1_method_2_code
def yX11_sign : MethodName := ⟨RX11, "sign", "(I)I"⟩
abbrev cX11_end : ByteArray := prog_1_method_3_code
def yX11_end : MethodName := ⟨RX11, "end", "(I)Z"⟩
abbrev cX11_kitchen : ByteArray := prog_1_method_4_code
def yX11_kitchen : MethodName := ⟨RX11, "kitchen", "()I"⟩
abbrev cX11_rule : ByteArray := prog_1_method_5_code
def yX11_rule : MethodName := ⟨RX11, "rule", "()I"⟩
abbrev cX11_dish : ByteArray := prog_1_method_6_code
def yX11_dish : MethodName := ⟨RX11, "dish", "(II)I"⟩
abbrev cX11_guest : ByteArray := prog_1_method_7_code
def yX11_guest : MethodName := ⟨RX11, "guest", "(II)I"⟩
abbrev cX11_joy : ByteArray := prog_1_method_8_code
def yX11_joy : MethodName := ⟨RX11, "joy", "(II)I"⟩
abbrev cX11_law : ByteArray := prog_1_method_9_code
def yX11_law : MethodName := ⟨RX11, "law", "(II)I"⟩
abbrev cX11_store : ByteArray := prog_1_method_10_code
def yX11_store : MethodName := ⟨RX11, "store", "(II)I"⟩
abbrev cX11_sheet : ByteArray := prog_1_method_11_code
def yX11_sheet : MethodName := ⟨RX11, "sheet", "(IIII)I"⟩
abbrev cX11_asEntry : ByteArray := prog_1_method_12_code
def yX11_asEntry : MethodName := ⟨RX11, "asEntry", "(II)I"⟩
abbrev cX11_serve : ByteArray := prog_1_method_13_code
def yX11_serve : MethodName := ⟨RX11, "serve", "(I)I"⟩
abbrev cX11_back : ByteArray := prog_1_method_14_code
def yX11_back : MethodName := ⟨RX11, "back", "()I"⟩
abbrev cX11_over : ByteArray := prog_1_method_15_code
def yX11_over : MethodName := ⟨RX11, "over", "()I"⟩
abbrev cX11_can : ByteArray := prog_1_method_16_code
def yX11_can : MethodName := ⟨RX11, "can", "()I"⟩
abbrev cX11_menu : ByteArray := prog_1_method_17_code
def yX11_menu : MethodName := ⟨RX11, "menu", "(I)I"⟩
abbrev cX11_look : ByteArray := prog_1_method_18_code
def yX11_look : MethodName := ⟨RX11, "look", "(I)I"⟩
abbrev cX11_swap : ByteArray := prog_1_method_19_code
def yX11_swap : MethodName := ⟨RX11, "swap", "(III)Z"⟩
abbrev cX11_turn : ByteArray := prog_1_method_20_code
def yX11_turn : MethodName := ⟨RX11, "turn", "(I)Z"⟩
abbrev cX11_joined : ByteArray := prog_1_method_21_code
def yX11_joined : MethodName := ⟨RX11, "joined", "(II)I"⟩
abbrev cX11_falls : ByteArray := prog_1_method_22_code
def yX11_falls : MethodName := ⟨RX11, "falls", "(III)I"⟩
abbrev cX11_isLaid : ByteArray := prog_1_method_23_code
def yX11_isLaid : MethodName := ⟨RX11, "isLaid", "(I)Z"⟩
abbrev cX11_isWhole : ByteArray := prog_1_method_24_code
def yX11_isWhole : MethodName := ⟨RX11, "isWhole", "(I)Z"⟩
abbrev cX11_longest : ByteArray := prog_1_method_25_code
def yX11_longest : MethodName := ⟨RX11, "longest", "()I"⟩
abbrev cX11_ways : ByteArray := prog_1_method_26_code
def yX11_ways : MethodName := ⟨RX11, "ways", "(I)J"⟩
abbrev cX11_between : ByteArray := prog_1_method_27_code
def yX11_between : MethodName := ⟨RX11, "between", "(II)I"⟩
abbrev cX11_shortest : ByteArray := prog_1_method_28_code
def yX11_shortest : MethodName := ⟨RX11, "shortest", "(II)I"⟩
abbrev cX11_bears : ByteArray := prog_1_method_29_code
def yX11_bears : MethodName := ⟨RX11, "bears", "(I)I"⟩
abbrev cX11_beside : ByteArray := prog_1_method_30_code
def yX11_beside : MethodName := ⟨RX11, "beside", "(I)I"⟩
abbrev cX11_parts : ByteArray := prog_1_method_31_code
def yX11_parts : MethodName := ⟨RX11, "parts", "()I"⟩
abbrev cX11_rare : ByteArray := prog_1_method_32_code
def yX11_rare : MethodName := ⟨RX11, "rare", "()I"⟩
abbrev cX11_round : ByteArray := prog_1_method_33_code
def yX11_round : MethodName := ⟨RX11, "round", "()I"⟩
abbrev cX11_shut : ByteArray := prog_1_method_34_code
def yX11_shut : MethodName := ⟨RX11, "shut", "(I)I"⟩
abbrev cX11_goOn : ByteArray := prog_1_method_35_code
def yX11_goOn : MethodName := ⟨RX11, "goOn", "(I)V"⟩
abbrev cX11_beginAnew : ByteArray := prog_1_method_36_code
def yX11_beginAnew : MethodName := ⟨RX11, "beginAnew", "(LNextMustShare$Law;)V"⟩
abbrev cX11_tellMost : ByteArray := prog_1_method_37_code
def yX11_tellMost : MethodName := ⟨RX11, "tellMost", "()I"⟩
abbrev cX11_tellBetween : ByteArray := prog_1_method_38_code
def yX11_tellBetween : MethodName := ⟨RX11, "tellBetween", "(III)I"⟩
abbrev cX11_goRound : ByteArray := prog_1_method_39_code
def yX11_goRound : MethodName := ⟨RX11, "goRound", "(I)V"⟩
abbrev cX11_best : ByteArray := prog_1_method_40_code
def yX11_best : MethodName := ⟨RX11, "best", "(II)I"⟩
abbrev cX11_fair : ByteArray := prog_1_method_41_code
def yX11_fair : MethodName := ⟨RX11, "fair", "(II)I"⟩
abbrev cX11_cheap : ByteArray := prog_1_method_42_code
def yX11_cheap : MethodName := ⟨RX11, "cheap", "(I)I"⟩
abbrev cX11_dear : ByteArray := prog_1_method_43_code
def yX11_dear : MethodName := ⟨RX11, "dear", "(I)I"⟩
abbrev cX11_tellJoy : ByteArray := prog_1_method_44_code
def yX11_tellJoy : MethodName := ⟨RX11, "tellJoy", "(II)I"⟩
abbrev cX11_tellCost : ByteArray := prog_1_method_45_code
def yX11_tellCost : MethodName := ⟨RX11, "tellCost", "(III)I"⟩
abbrev cX11_game : ByteArray := prog_1_method_46_code
def yX11_game : MethodName := ⟨RX11, "game", "()I"⟩
abbrev cX11_greedy : ByteArray := prog_1_method_47_code
def yX11_greedy : MethodName := ⟨RX11, "greedy", "()I"⟩
abbrev cX11_mend : ByteArray := prog_1_method_48_code
def yX11_mend : MethodName := ⟨RX11, "mend", "(II)I"⟩
abbrev cX11_fills : ByteArray := prog_1_method_49_code
def yX11_fills : MethodName := ⟨RX11, "fills", "(I)J"⟩
abbrev cX11_sure : ByteArray := prog_1_method_50_code
def yX11_sure : MethodName := ⟨RX11, "sure", "(II)I"⟩
abbrev cX11_layFilled : ByteArray := prog_1_method_51_code
def yX11_layFilled : MethodName := ⟨RX11, "layFilled", "(LNextMustShare$Menu;)V"⟩
abbrev cX11_hearths : ByteArray := prog_1_method_52_code
def yX11_hearths : MethodName := ⟨RX11, "hearths", "(I)I"⟩
abbrev cX11_late : ByteArray := prog_1_method_53_code
def yX11_late : MethodName := ⟨RX11, "late", "(II)I"⟩
abbrev cX11_poison : ByteArray := prog_1_method_54_code
def yX11_poison : MethodName := ⟨RX11, "poison", "(II)I"⟩
abbrev cX11_eats : ByteArray := prog_1_method_55_code
def yX11_eats : MethodName := ⟨RX11, "eats", "(II)I"⟩
abbrev cX11_made : ByteArray := prog_1_method_56_code
def yX11_made : MethodName := ⟨RX11, "made", "()I"⟩
abbrev cX11_keep : ByteArray := prog_1_method_57_code
def yX11_keep : MethodName := ⟨RX11, "keep", "(I)Z"⟩
abbrev cX11_again : ByteArray := prog_1_method_58_code
def yX11_again : MethodName := ⟨RX11, "again", "(I)Z"⟩
abbrev cX11_count : ByteArray := prog_1_method_59_code
def yX11_count : MethodName := ⟨RX11, "count", "(I)I"⟩
abbrev cX11_row : ByteArray := prog_1_method_60_code
def yX11_row : MethodName := ⟨RX11, "row", "(I)I"⟩
abbrev cX11_menusLaid : ByteArray := prog_1_method_61_code
def yX11_menusLaid : MethodName := ⟨RX11, "menusLaid", "()I"⟩
def RX12 : String := "NextMustShareModel"
def TX12 : u_T := fun k => match k with
  | 0 => ("NextMustShareModel", "store", "[I", true)
  | 1 => ("NextMustShareModel", "dishes", "I", false)
  | 2 => ("NextMustShareModel", "stuffs", "[I", true)
  | 3 => ("NextMustShareModel", "cost", "[I", true)
  | 4 => ("NextMustShareModel", "isHot", "[Z", true)
  | 5 => ("NextMustShareModel", "hours", "[I", true)
  | 6 => ("NextMustShareModel", "guests", "I", false)
  | 7 => ("NextMustShareModel", "loves", "[I", true)
  | 8 => ("NextMustShareModel", "bars", "[I", true)
  | 9 => ("NextMustShareModel", "share", "I", false)
  | 10 => ("NextMustShareModel", "times", "I", false)
  | 11 => ("NextMustShareModel", "heat", "I", false)
  | 12 => ("NextMustShareModel", "served", "[I", true)
  | 13 => ("NextMustShareModel", "servedMany", "I", false)
  | 14 => ("NextMustShareModel", "menus", "[I", true)
  | 15 => ("NextMustShareModel", "menuLong", "[I", true)
  | 16 => ("NextMustShareModel", "text", "[B", true)
  | 17 => ("NextMustShareModel", "typed", "I", false)
  | 18 => ("NextMustShareModel", "row", "[I", true)
  | 19 => ("NextMustShareModel", "rowMany", "I", false)
  | 20 => ("NextMustShareModel", "thrown", "I", false)
  | 21 => ("NextMustShareModel", "read", "[B", false)
  | 22 => ("NextMustShareModel", "size", "I", false)
  | 23 => ("NextMustShareModel", "top", "I", false)
  | 24 => ("NextMustShareModel", "at", "I", false)
  | 25 => ("NextMustShareModel", "wrong", "I", false)
  | 26 => ("NextMustShareModel", "rule", "[B", true)
  | 27 => ("NextMustShareModel", "ruleSize", "I", false)
  | 28 => ("NextMustShareModel", "askedGuest", "I", false)
  | 29 => ("NextMustShareModel", "askedDish", "I", false)
  | 30 => ("NextMustShareModel", "whyNot", "I", false)
  | 31 => ("NextMustShareModel", "costTill", "I", false)
  | 32 => ("NextMustShareModel", "hungryTill", "I", false)
  | 33 => ("NextMustShareModel", "setTill", "I", false)
  | 34 => ("NextMustShareModel", "lastTill", "I", false)
  | 35 => ("NextMustShareModel", "isEnd", "[Z", true)
  | 36 => ("NextMustShareModel", "canEnd", "[Z", true)
  | 37 => ("NextMustShareModel", "rows", "[J", true)
  | 38 => ("NextMustShareModel", "scores", "[I", true)
  | 39 => ("NextMustShareModel", "bestScore", "I", false)
  | 40 => ("NextMustShareModel", "shames", "[Z", true)
  | 41 => ("NextMustShareModel", "moreThen", "[I", true)
  | 42 => ("NextMustShareModel", "firstThen", "[I", true)
  | 43 => ("NextMustShareModel", "isShamed", "[Z", true)
  | 44 => ("NextMustShareModel", "moreOf", "[I", true)
  | 45 => ("NextMustShareModel", "changesFrom", "[I", true)
  | 46 => ("NextMustShareModel", "fillsFrom", "[J", true)
  | 47 => ("NextMustShareModel", "freeAt", "[I", true)
  | 48 => ("NextMustShareModel", "lastsOf", "[I", true)
  | 49 => ("NextMustShareModel", "came", "I", false)
  | 50 => ("NextMustShareModel", "kept", "[I", true)
  | 51 => ("NextMustShareModel", "isKept", "[Z", true)
  | _ => ("NextMustShareModel", "keptCame", "[I", true)
def tyX12 : Nat → FieldType := fun k => match k with
  | 0 => .array .int
  | 1 => .int
  | 2 => .array .int
  | 3 => .array .int
  | 4 => .array .boolean
  | 5 => .array .int
  | 6 => .int
  | 7 => .array .int
  | 8 => .array .int
  | 9 => .int
  | 10 => .int
  | 11 => .int
  | 12 => .array .int
  | 13 => .int
  | 14 => .array .int
  | 15 => .array .int
  | 16 => .array .byte
  | 17 => .int
  | 18 => .array .int
  | 19 => .int
  | 20 => .int
  | 21 => .array .byte
  | 22 => .int
  | 23 => .int
  | 24 => .int
  | 25 => .int
  | 26 => .array .byte
  | 27 => .int
  | 28 => .int
  | 29 => .int
  | 30 => .int
  | 31 => .int
  | 32 => .int
  | 33 => .int
  | 34 => .int
  | 35 => .array .boolean
  | 36 => .array .boolean
  | 37 => .array .long
  | 38 => .array .int
  | 39 => .int
  | 40 => .array .boolean
  | 41 => .array .int
  | 42 => .array .int
  | 43 => .array .boolean
  | 44 => .array .int
  | 45 => .array .int
  | 46 => .array .long
  | 47 => .array .int
  | 48 => .array .int
  | 49 => .int
  | 50 => .array .int
  | 51 => .array .boolean
  | _ => .array .int
abbrev wsX120 : List Cond := u_ws RX12 TX12 53
theorem nmX12 : ∀ a, a < 53 → ∀ b, b < 53 → a ≠ b → (TX12 a).2.1 ≠ (TX12 b).2.1 := by decide +kernel
theorem tyX12_ok : ∀ k, k < 53 → parseFieldDescriptor (TX12 k).2.2.1 = some (tyX12 k) := by decide +kernel
abbrev cX12_init : ByteArray := prog_14_method_1_code
def yX12_init : MethodName := ⟨RX12, "<init>", "()V"⟩
abbrev cX12_thrown : ByteArray := prog_14_method_2_code
def yX12_thrown : MethodName := ⟨RX12, "thrown", "()I"⟩
abbrev cX12_in : ByteArray := prog_14_method_3_code
def yX12_in : MethodName := ⟨RX12, "in", "(III)Z"⟩
abbrev cX12_has : ByteArray := prog_14_method_4_code
def yX12_has : MethodName := ⟨RX12, "has", "(II)Z"⟩
abbrev cX12_lost : ByteArray := prog_14_method_5_code
def yX12_lost : MethodName := ⟨RX12, "lost", "()I"⟩
abbrev cX12_tell : ByteArray := prog_14_method_6_code
def yX12_tell : MethodName := ⟨RX12, "tell", "(I)V"⟩
abbrev cX12_isDish : ByteArray := prog_14_method_7_code
def yX12_isDish : MethodName := ⟨RX12, "isDish", "(I)Z"⟩
abbrev cX12_isGuest : ByteArray := prog_14_method_8_code
def yX12_isGuest : MethodName := ⟨RX12, "isGuest", "(I)Z"⟩
abbrev cX12_sign : ByteArray := prog_14_method_9_code
def yX12_sign : MethodName := ⟨RX12, "sign", "(I)I"⟩
abbrev cX12_end : ByteArray := prog_14_method_10_code
def yX12_end : MethodName := ⟨RX12, "end", "(I)Z"⟩
abbrev cX12_begin : ByteArray := prog_14_method_11_code
def yX12_begin : MethodName := ⟨RX12, "begin", "([BII)V"⟩
abbrev cX12_here : ByteArray := prog_14_method_12_code
def yX12_here : MethodName := ⟨RX12, "here", "()I"⟩
abbrev cX12_fine : ByteArray := prog_14_method_13_code
def yX12_fine : MethodName := ⟨RX12, "fine", "()Z"⟩
abbrev cX12_fault : ByteArray := prog_14_method_14_code
def yX12_fault : MethodName := ⟨RX12, "fault", "(I)V"⟩
abbrev cX12_passes : ByteArray := prog_14_method_15_code
def yX12_passes : MethodName := ⟨RX12, "passes", "(C)Z"⟩
abbrev cX12_number : ByteArray := prog_14_method_16_code
def yX12_number : MethodName := ⟨RX12, "number", "(I)I"⟩
abbrev cX12_letters : ByteArray := prog_14_method_17_code
def yX12_letters : MethodName := ⟨RX12, "letters", "(Z)I"⟩
abbrev cX12_kitchen : ByteArray := prog_14_method_18_code
def yX12_kitchen : MethodName := ⟨RX12, "kitchen", "()I"⟩
abbrev cX12_readGuest : ByteArray := prog_14_method_19_code
def yX12_readGuest : MethodName := ⟨RX12, "readGuest", "(I)V"⟩
abbrev cX12_held : ByteArray := prog_14_method_20_code
def yX12_held : MethodName := ⟨RX12, "held", "(I)I"⟩
abbrev cX12_sum : ByteArray := prog_14_method_21_code
def yX12_sum : MethodName := ⟨RX12, "sum", "(I)I"⟩
abbrev cX12_product : ByteArray := prog_14_method_22_code
def yX12_product : MethodName := ⟨RX12, "product", "(I)I"⟩
abbrev cX12_thing : ByteArray := prog_14_method_23_code
def yX12_thing : MethodName := ⟨RX12, "thing", "(I)I"⟩
abbrev cX12_letter : ByteArray := prog_14_method_24_code
def yX12_letter : MethodName := ⟨RX12, "letter", "(I)I"⟩
abbrev cX12_rule : ByteArray := prog_14_method_25_code
def yX12_rule : MethodName := ⟨RX12, "rule", "()I"⟩
abbrev cX12_joyOf : ByteArray := prog_14_method_26_code
def yX12_joyOf : MethodName := ⟨RX12, "joyOf", "(II)I"⟩
abbrev cX12_joyOfAll : ByteArray := prog_14_method_27_code
def yX12_joyOfAll : MethodName := ⟨RX12, "joyOfAll", "(I)I"⟩
abbrev cX12_isHungry : ByteArray := prog_14_method_28_code
def yX12_isHungry : MethodName := ⟨RX12, "isHungry", "(II)Z"⟩
abbrev cX12_dish : ByteArray := prog_14_method_29_code
def yX12_dish : MethodName := ⟨RX12, "dish", "(II)I"⟩
abbrev cX12_guest : ByteArray := prog_14_method_30_code
def yX12_guest : MethodName := ⟨RX12, "guest", "(II)I"⟩
abbrev cX12_joy : ByteArray := prog_14_method_31_code
def yX12_joy : MethodName := ⟨RX12, "joy", "(II)I"⟩
abbrev cX12_isLaw : ByteArray := prog_14_method_32_code
def yX12_isLaw : MethodName := ⟨RX12, "isLaw", "(II)Z"⟩
abbrev cX12_law : ByteArray := prog_14_method_33_code
def yX12_law : MethodName := ⟨RX12, "law", "(II)I"⟩
abbrev cX12_store : ByteArray := prog_14_method_34_code
def yX12_store : MethodName := ⟨RX12, "store", "(II)I"⟩
abbrev cX12_sheet : ByteArray := prog_14_method_35_code
def yX12_sheet : MethodName := ⟨RX12, "sheet", "(IIII)I"⟩
abbrev cX12_shared : ByteArray := prog_14_method_36_code
def yX12_shared : MethodName := ⟨RX12, "shared", "(II)I"⟩
abbrev cX12_hasHot : ByteArray := prog_14_method_37_code
def yX12_hasHot : MethodName := ⟨RX12, "hasHot", "(I)Z"⟩
abbrev cX12_fits : ByteArray := prog_14_method_38_code
def yX12_fits : MethodName := ⟨RX12, "fits", "(IIZ)Z"⟩
abbrev cX12_refusal : ByteArray := prog_14_method_39_code
def yX12_refusal : MethodName := ⟨RX12, "refusal", "(III)I"⟩
abbrev cX12_servedSet : ByteArray := prog_14_method_40_code
def yX12_servedSet : MethodName := ⟨RX12, "servedSet", "()I"⟩
abbrev cX12_servedLast : ByteArray := prog_14_method_41_code
def yX12_servedLast : MethodName := ⟨RX12, "servedLast", "()I"⟩
abbrev cX12_serve : ByteArray := prog_14_method_42_code
def yX12_serve : MethodName := ⟨RX12, "serve", "(I)I"⟩
abbrev cX12_back : ByteArray := prog_14_method_43_code
def yX12_back : MethodName := ⟨RX12, "back", "()I"⟩
abbrev cX12_over : ByteArray := prog_14_method_44_code
def yX12_over : MethodName := ⟨RX12, "over", "()I"⟩
abbrev cX12_can : ByteArray := prog_14_method_45_code
def yX12_can : MethodName := ⟨RX12, "can", "()I"⟩
abbrev cX12_menu : ByteArray := prog_14_method_46_code
def yX12_menu : MethodName := ⟨RX12, "menu", "(I)I"⟩
abbrev cX12_isMenu : ByteArray := prog_14_method_47_code
def yX12_isMenu : MethodName := ⟨RX12, "isMenu", "(I)Z"⟩
abbrev cX12_isWhole : ByteArray := prog_14_method_48_code
def yX12_isWhole : MethodName := ⟨RX12, "isWhole", "(I)Z"⟩
abbrev cX12_lookOn : ByteArray := prog_14_method_49_code
def yX12_lookOn : MethodName := ⟨RX12, "lookOn", "(I)I"⟩
abbrev cX12_lookFromNothing : ByteArray := prog_14_method_50_code
def yX12_lookFromNothing : MethodName := ⟨RX12, "lookFromNothing", "()V"⟩
abbrev cX12_look : ByteArray := prog_14_method_51_code
def yX12_look : MethodName := ⟨RX12, "look", "(I)I"⟩
abbrev cX12_swap : ByteArray := prog_14_method_52_code
def yX12_swap : MethodName := ⟨RX12, "swap", "(III)Z"⟩
abbrev cX12_turn : ByteArray := prog_14_method_53_code
def yX12_turn : MethodName := ⟨RX12, "turn", "(I)Z"⟩
abbrev cX12_joined : ByteArray := prog_14_method_54_code
def yX12_joined : MethodName := ⟨RX12, "joined", "(II)I"⟩
abbrev cX12_isLawful : ByteArray := prog_14_method_55_code
def yX12_isLawful : MethodName := ⟨RX12, "isLawful", "(I)Z"⟩
abbrev cX12_falls : ByteArray := prog_14_method_56_code
def yX12_falls : MethodName := ⟨RX12, "falls", "(III)I"⟩
abbrev cX12_place : ByteArray := prog_14_method_57_code
def yX12_place : MethodName := ⟨RX12, "place", "(II)I"⟩
abbrev cX12_all : ByteArray := prog_14_method_58_code
def yX12_all : MethodName := ⟨RX12, "all", "()I"⟩
abbrev cX12_may : ByteArray := prog_14_method_59_code
def yX12_may : MethodName := ⟨RX12, "may", "(III)Z"⟩
abbrev cX12_isState : ByteArray := prog_14_method_60_code
def yX12_isState : MethodName := ⟨RX12, "isState", "(II)Z"⟩
abbrev cX12_noEnds : ByteArray := prog_14_method_61_code
def yX12_noEnds : MethodName := ⟨RX12, "noEnds", "()V"⟩
abbrev cX12_findEnds : ByteArray := prog_14_method_62_code
def yX12_findEnds : MethodName := ⟨RX12, "findEnds", "(I)V"⟩
abbrev cX12_tellWay : ByteArray := prog_14_method_63_code
def yX12_tellWay : MethodName := ⟨RX12, "tellWay", "(III)V"⟩
abbrev cX12_findRows : ByteArray := prog_14_method_64_code
def yX12_findRows : MethodName := ⟨RX12, "findRows", "(III)V"⟩
abbrev cX12_longestBy : ByteArray := prog_14_method_65_code
def yX12_longestBy : MethodName := ⟨RX12, "longestBy", "(I)I"⟩
abbrev cX12_longest : ByteArray := prog_14_method_66_code
def yX12_longest : MethodName := ⟨RX12, "longest", "()I"⟩
abbrev cX12_ways : ByteArray := prog_14_method_67_code
def yX12_ways : MethodName := ⟨RX12, "ways", "(I)J"⟩
abbrev cX12_tellFrom : ByteArray := prog_14_method_68_code
def yX12_tellFrom : MethodName := ⟨RX12, "tellFrom", "(II)Z"⟩
abbrev cX12_betweenBy : ByteArray := prog_14_method_69_code
def yX12_betweenBy : MethodName := ⟨RX12, "betweenBy", "(IIZ)I"⟩
abbrev cX12_between : ByteArray := prog_14_method_70_code
def yX12_between : MethodName := ⟨RX12, "between", "(II)I"⟩
abbrev cX12_shortest : ByteArray := prog_14_method_71_code
def yX12_shortest : MethodName := ⟨RX12, "shortest", "(II)I"⟩
abbrev cX12_bears : ByteArray := prog_14_method_72_code
def yX12_bears : MethodName := ⟨RX12, "bears", "(I)I"⟩
abbrev cX12_besides : ByteArray := prog_14_method_73_code
def yX12_besides : MethodName := ⟨RX12, "besides", "(I)I"⟩
abbrev cX12_beside : ByteArray := prog_14_method_74_code
def yX12_beside : MethodName := ⟨RX12, "beside", "(I)I"⟩
abbrev cX12_parts : ByteArray := prog_14_method_75_code
def yX12_parts : MethodName := ⟨RX12, "parts", "()I"⟩
abbrev cX12_rare : ByteArray := prog_14_method_76_code
def yX12_rare : MethodName := ⟨RX12, "rare", "()I"⟩
abbrev cX12_round : ByteArray := prog_14_method_77_code
def yX12_round : MethodName := ⟨RX12, "round", "()I"⟩
abbrev cX12_shut : ByteArray := prog_14_method_78_code
def yX12_shut : MethodName := ⟨RX12, "shut", "(I)I"⟩
abbrev cX12_joyIn : ByteArray := prog_14_method_79_code
def yX12_joyIn : MethodName := ⟨RX12, "joyIn", "(II)I"⟩
abbrev cX12_costIn : ByteArray := prog_14_method_80_code
def yX12_costIn : MethodName := ⟨RX12, "costIn", "(I)I"⟩
abbrev cX12_scoreOf : ByteArray := prog_14_method_81_code
def yX12_scoreOf : MethodName := ⟨RX12, "scoreOf", "(II)I"⟩
abbrev cX12_findBest : ByteArray := prog_14_method_82_code
def yX12_findBest : MethodName := ⟨RX12, "findBest", "(IIII)Z"⟩
abbrev cX12_tellBest : ByteArray := prog_14_method_83_code
def yX12_tellBest : MethodName := ⟨RX12, "tellBest", "(III)I"⟩
abbrev cX12_best : ByteArray := prog_14_method_84_code
def yX12_best : MethodName := ⟨RX12, "best", "(II)I"⟩
abbrev cX12_fair : ByteArray := prog_14_method_85_code
def yX12_fair : MethodName := ⟨RX12, "fair", "(II)I"⟩
abbrev cX12_tellCost : ByteArray := prog_14_method_86_code
def yX12_tellCost : MethodName := ⟨RX12, "tellCost", "(III)I"⟩
abbrev cX12_cheap : ByteArray := prog_14_method_87_code
def yX12_cheap : MethodName := ⟨RX12, "cheap", "(I)I"⟩
abbrev cX12_dear : ByteArray := prog_14_method_88_code
def yX12_dear : MethodName := ⟨RX12, "dear", "(I)I"⟩
abbrev cX12_findGame : ByteArray := prog_14_method_89_code
def yX12_findGame : MethodName := ⟨RX12, "findGame", "()V"⟩
abbrev cX12_findTurn : ByteArray := prog_14_method_90_code
def yX12_findTurn : MethodName := ⟨RX12, "findTurn", "(II)V"⟩
abbrev cX12_game : ByteArray := prog_14_method_91_code
def yX12_game : MethodName := ⟨RX12, "game", "()I"⟩
abbrev cX12_findGreedy : ByteArray := prog_14_method_92_code
def yX12_findGreedy : MethodName := ⟨RX12, "findGreedy", "(II)V"⟩
abbrev cX12_greedy : ByteArray := prog_14_method_93_code
def yX12_greedy : MethodName := ⟨RX12, "greedy", "()I"⟩
abbrev cX12_menuAt : ByteArray := prog_14_method_94_code
def yX12_menuAt : MethodName := ⟨RX12, "menuAt", "(II)I"⟩
abbrev cX12_mend : ByteArray := prog_14_method_95_code
def yX12_mend : MethodName := ⟨RX12, "mend", "(II)I"⟩
abbrev cX12_tellMended : ByteArray := prog_14_method_96_code
def yX12_tellMended : MethodName := ⟨RX12, "tellMended", "(II)V"⟩
abbrev cX12_findFills : ByteArray := prog_14_method_97_code
def yX12_findFills : MethodName := ⟨RX12, "findFills", "(I)J"⟩
abbrev cX12_isAsked : ByteArray := prog_14_method_98_code
def yX12_isAsked : MethodName := ⟨RX12, "isAsked", "(III)Z"⟩
abbrev cX12_fills : ByteArray := prog_14_method_99_code
def yX12_fills : MethodName := ⟨RX12, "fills", "(I)J"⟩
abbrev cX12_sure : ByteArray := prog_14_method_100_code
def yX12_sure : MethodName := ⟨RX12, "sure", "(II)I"⟩
abbrev cX12_hearths : ByteArray := prog_14_method_101_code
def yX12_hearths : MethodName := ⟨RX12, "hearths", "(I)I"⟩
abbrev cX12_late : ByteArray := prog_14_method_102_code
def yX12_late : MethodName := ⟨RX12, "late", "(II)I"⟩
abbrev cX12_ateOf : ByteArray := prog_14_method_103_code
def yX12_ateOf : MethodName := ⟨RX12, "ateOf", "(II)I"⟩
abbrev cX12_poison : ByteArray := prog_14_method_104_code
def yX12_poison : MethodName := ⟨RX12, "poison", "(II)I"⟩
abbrev cX12_eats : ByteArray := prog_14_method_105_code
def yX12_eats : MethodName := ⟨RX12, "eats", "(II)I"⟩
abbrev cX12_canAll : ByteArray := prog_14_method_106_code
def yX12_canAll : MethodName := ⟨RX12, "canAll", "(I)Z"⟩
abbrev cX12_made : ByteArray := prog_14_method_107_code
def yX12_made : MethodName := ⟨RX12, "made", "()I"⟩
abbrev cX12_keep : ByteArray := prog_14_method_108_code
def yX12_keep : MethodName := ⟨RX12, "keep", "(I)Z"⟩
abbrev cX12_again : ByteArray := prog_14_method_109_code
def yX12_again : MethodName := ⟨RX12, "again", "(I)Z"⟩
abbrev cX12_count : ByteArray := prog_14_method_110_code
def yX12_count : MethodName := ⟨RX12, "count", "(I)I"⟩
abbrev cX12_row : ByteArray := prog_14_method_111_code
def yX12_row : MethodName := ⟨RX12, "row", "(I)I"⟩
def RJx145de : String := "java/io/Serializable"
def RJ6 : String := "java/lang/Integer"
abbrev cJ6_bitCount_0f7a4 : ByteArray := prog_17_method_49_code
def yJ6_bitCount_0f7a4 : MethodName := ⟨RJ6, "bitCount", "(I)I"⟩
def RJ9 : String := "java/lang/Math"
abbrev cJ9_abs_0f7a4 : ByteArray := prog_18_method_59_code
def yJ9_abs_0f7a4 : MethodName := ⟨RJ9, "abs", "(I)I"⟩
abbrev cJ9_max_7cf53 : ByteArray := prog_18_method_65_code
def yJ9_max_7cf53 : MethodName := ⟨RJ9, "max", "(II)I"⟩
abbrev cJ9_min_7cf53 : ByteArray := prog_18_method_69_code
def yJ9_min_7cf53 : MethodName := ⟨RJ9, "min", "(II)I"⟩
def RJ10 : String := "java/lang/System"
def RJ7 : String := "java/util/Arrays"
abbrev cJ7_fill_53178 : ByteArray := prog_22_method_103_code
def yJ7_fill_53178 : MethodName := ⟨RJ7, "fill", "([II)V"⟩
def RL : String := "NextMustShareLaw"
abbrev vwCl : List vw_C := [(RX0, TX0, 3), (RX1, TX1, 9), (RX2, TX2, 4), (RX3, TX3, 2), (RX4, TX4, 3), (RX5, TX5, 8), (RX6, TX6, 3), (RX7, TX7, 2), (RX8, TX8, 11), (RX9, TX9, 7), (RX10, TX10, 2), (RX11, TX11, 16), (RX12, TX12, 53)]
