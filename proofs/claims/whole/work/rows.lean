section
/-- a private method of a class that the tables say can be made, by its rows of tables_1 -/
def lw_okq (q : MethodName × Nat) : Prop := (q.1.cls ≠ "java/lang/invoke/MethodHandle" ∧ q.1.cls ≠ "java/lang/invoke/VarHandle") ∧ Cond.instantiable q.1.cls q.2 ∈ tables_1 ∧ Cond.privateMethod q.1 ∈ tables_1 ∧ Cond.instanceMethod q.1 ∈ tables_1
theorem lw_p0 : lw_okq (⟨"NextMustShare$Reader", "readLine", "(LNextMustShare$Text;LNextMustShare$Larder;)Z"⟩, 3) := ⟨⟨by decide +kernel, by decide +kernel⟩, List.mem_of_getElem? (i := 79) (by decide +kernel), List.mem_of_getElem? (i := 366) (by decide +kernel), List.mem_of_getElem? (i := 367) (by decide +kernel)⟩
theorem lw_p1 : lw_okq (⟨"NextMustShare$Reader", "readGuest", "(LNextMustShare$Text;LNextMustShare$Larder;)Z"⟩, 3) := ⟨⟨by decide +kernel, by decide +kernel⟩, List.mem_of_getElem? (i := 79) (by decide +kernel), List.mem_of_getElem? (i := 374) (by decide +kernel), List.mem_of_getElem? (i := 375) (by decide +kernel)⟩
theorem lw_p2 : lw_okq (⟨"NextMustShare$Reader", "readStuffs", "(LNextMustShare$Text;)I"⟩, 3) := ⟨⟨by decide +kernel, by decide +kernel⟩, List.mem_of_getElem? (i := 79) (by decide +kernel), List.mem_of_getElem? (i := 378) (by decide +kernel), List.mem_of_getElem? (i := 379) (by decide +kernel)⟩
theorem lw_p3 : lw_okq (⟨"NextMustShare$Reader", "readDish", "(LNextMustShare$Text;LNextMustShare$Larder;)Z"⟩, 3) := ⟨⟨by decide +kernel, by decide +kernel⟩, List.mem_of_getElem? (i := 79) (by decide +kernel), List.mem_of_getElem? (i := 386) (by decide +kernel), List.mem_of_getElem? (i := 387) (by decide +kernel)⟩
theorem lw_p4 : lw_okq (⟨"NextMustShare$Reader", "readDigit", "(LNextMustShare$Text;)I"⟩, 3) := ⟨⟨by decide +kernel, by decide +kernel⟩, List.mem_of_getElem? (i := 79) (by decide +kernel), List.mem_of_getElem? (i := 395) (by decide +kernel), List.mem_of_getElem? (i := 396) (by decide +kernel)⟩
theorem lw_p5 : lw_okq (⟨"NextMustShare$Taste", "readExpression", "(LNextMustShare$Text;I)Z"⟩, 7) := ⟨⟨by decide +kernel, by decide +kernel⟩, List.mem_of_getElem? (i := 95) (by decide +kernel), List.mem_of_getElem? (i := 420) (by decide +kernel), List.mem_of_getElem? (i := 421) (by decide +kernel)⟩
theorem lw_p6 : lw_okq (⟨"NextMustShare$Taste", "readSum", "(LNextMustShare$Text;I)Z"⟩, 7) := ⟨⟨by decide +kernel, by decide +kernel⟩, List.mem_of_getElem? (i := 95) (by decide +kernel), List.mem_of_getElem? (i := 424) (by decide +kernel), List.mem_of_getElem? (i := 425) (by decide +kernel)⟩
theorem lw_p7 : lw_okq (⟨"NextMustShare$Taste", "readProduct", "(LNextMustShare$Text;I)Z"⟩, 7) := ⟨⟨by decide +kernel, by decide +kernel⟩, List.mem_of_getElem? (i := 95) (by decide +kernel), List.mem_of_getElem? (i := 428) (by decide +kernel), List.mem_of_getElem? (i := 429) (by decide +kernel)⟩
theorem lw_p8 : lw_okq (⟨"NextMustShare$Taste", "readFactor", "(LNextMustShare$Text;I)Z"⟩, 7) := ⟨⟨by decide +kernel, by decide +kernel⟩, List.mem_of_getElem? (i := 95) (by decide +kernel), List.mem_of_getElem? (i := 432) (by decide +kernel), List.mem_of_getElem? (i := 433) (by decide +kernel)⟩
theorem lw_p9 : lw_okq (⟨"NextMustShare$Taste", "readThing", "(LNextMustShare$Text;I)Z"⟩, 7) := ⟨⟨by decide +kernel, by decide +kernel⟩, List.mem_of_getElem? (i := 95) (by decide +kernel), List.mem_of_getElem? (i := 437) (by decide +kernel), List.mem_of_getElem? (i := 438) (by decide +kernel)⟩
theorem lw_p10 : lw_okq (⟨"NextMustShare$Taste", "readBracket", "(LNextMustShare$Text;I)Z"⟩, 7) := ⟨⟨by decide +kernel, by decide +kernel⟩, List.mem_of_getElem? (i := 95) (by decide +kernel), List.mem_of_getElem? (i := 441) (by decide +kernel), List.mem_of_getElem? (i := 442) (by decide +kernel)⟩
theorem lw_p11 : lw_okq (⟨"NextMustShare$Taste", "readNumber", "(LNextMustShare$Text;)V"⟩, 7) := ⟨⟨by decide +kernel, by decide +kernel⟩, List.mem_of_getElem? (i := 95) (by decide +kernel), List.mem_of_getElem? (i := 446) (by decide +kernel), List.mem_of_getElem? (i := 447) (by decide +kernel)⟩
theorem lw_p12 : lw_okq (⟨"NextMustShare$Taste", "emit", "(I)V"⟩, 7) := ⟨⟨by decide +kernel, by decide +kernel⟩, List.mem_of_getElem? (i := 95) (by decide +kernel), List.mem_of_getElem? (i := 450) (by decide +kernel), List.mem_of_getElem? (i := 451) (by decide +kernel)⟩
theorem lw_p13 : lw_okq (⟨"NextMustShare$Law", "isAgainstHeat", "(IIII)Z"⟩, 4) := ⟨⟨by decide +kernel, by decide +kernel⟩, List.mem_of_getElem? (i := 123) (by decide +kernel), List.mem_of_getElem? (i := 544) (by decide +kernel), List.mem_of_getElem? (i := 545) (by decide +kernel)⟩
theorem lw_p14 : lw_okq (⟨"NextMustShare", "isLaid", "(I)Z"⟩, 16) := ⟨⟨by decide +kernel, by decide +kernel⟩, List.mem_of_getElem? (i := 23) (by decide +kernel), List.mem_of_getElem? (i := 601) (by decide +kernel), List.mem_of_getElem? (i := 602) (by decide +kernel)⟩
theorem lw_p15 : lw_okq (⟨"NextMustShare$Menu", "setTill", "(I)I"⟩, 3) := ⟨⟨by decide +kernel, by decide +kernel⟩, List.mem_of_getElem? (i := 162) (by decide +kernel), List.mem_of_getElem? (i := 621) (by decide +kernel), List.mem_of_getElem? (i := 622) (by decide +kernel)⟩
def lw_privs_1 : List (MethodName × Nat) := [(⟨"NextMustShare$Reader", "readLine", "(LNextMustShare$Text;LNextMustShare$Larder;)Z"⟩, 3), (⟨"NextMustShare$Reader", "readGuest", "(LNextMustShare$Text;LNextMustShare$Larder;)Z"⟩, 3), (⟨"NextMustShare$Reader", "readStuffs", "(LNextMustShare$Text;)I"⟩, 3), (⟨"NextMustShare$Reader", "readDish", "(LNextMustShare$Text;LNextMustShare$Larder;)Z"⟩, 3), (⟨"NextMustShare$Reader", "readDigit", "(LNextMustShare$Text;)I"⟩, 3), (⟨"NextMustShare$Taste", "readExpression", "(LNextMustShare$Text;I)Z"⟩, 7), (⟨"NextMustShare$Taste", "readSum", "(LNextMustShare$Text;I)Z"⟩, 7), (⟨"NextMustShare$Taste", "readProduct", "(LNextMustShare$Text;I)Z"⟩, 7), (⟨"NextMustShare$Taste", "readFactor", "(LNextMustShare$Text;I)Z"⟩, 7), (⟨"NextMustShare$Taste", "readThing", "(LNextMustShare$Text;I)Z"⟩, 7), (⟨"NextMustShare$Taste", "readBracket", "(LNextMustShare$Text;I)Z"⟩, 7), (⟨"NextMustShare$Taste", "readNumber", "(LNextMustShare$Text;)V"⟩, 7), (⟨"NextMustShare$Taste", "emit", "(I)V"⟩, 7), (⟨"NextMustShare$Law", "isAgainstHeat", "(IIII)Z"⟩, 4), (⟨"NextMustShare", "isLaid", "(I)Z"⟩, 16), (⟨"NextMustShare$Menu", "setTill", "(I)I"⟩, 3)]
theorem lw_r1 : ∀ q ∈ lw_privs_1, lw_okq q := List.forall_mem_cons.mpr ⟨lw_p0, List.forall_mem_cons.mpr ⟨lw_p1, List.forall_mem_cons.mpr ⟨lw_p2, List.forall_mem_cons.mpr ⟨lw_p3, List.forall_mem_cons.mpr ⟨lw_p4, List.forall_mem_cons.mpr ⟨lw_p5, List.forall_mem_cons.mpr ⟨lw_p6, List.forall_mem_cons.mpr ⟨lw_p7, List.forall_mem_cons.mpr ⟨lw_p8, List.forall_mem_cons.mpr ⟨lw_p9, List.forall_mem_cons.mpr ⟨lw_p10, List.forall_mem_cons.mpr ⟨lw_p11, List.forall_mem_cons.mpr ⟨lw_p12, List.forall_mem_cons.mpr ⟨lw_p13, List.forall_mem_cons.mpr ⟨lw_p14, List.forall_mem_cons.mpr ⟨lw_p15, fun _ h => absurd h List.not_mem_nil⟩⟩⟩⟩⟩⟩⟩⟩⟩⟩⟩⟩⟩⟩⟩⟩
theorem lw_p16 : lw_okq (⟨"NextMustShare$Menu", "put", "(II)V"⟩, 3) := ⟨⟨by decide +kernel, by decide +kernel⟩, List.mem_of_getElem? (i := 162) (by decide +kernel), List.mem_of_getElem? (i := 668) (by decide +kernel), List.mem_of_getElem? (i := 669) (by decide +kernel)⟩
theorem lw_p17 : lw_okq (⟨"NextMustShare", "isWhole", "(I)Z"⟩, 16) := ⟨⟨by decide +kernel, by decide +kernel⟩, List.mem_of_getElem? (i := 23) (by decide +kernel), List.mem_of_getElem? (i := 685) (by decide +kernel), List.mem_of_getElem? (i := 686) (by decide +kernel)⟩
theorem lw_p18 : lw_okq (⟨"NextMustShare", "goOn", "(I)V"⟩, 16) := ⟨⟨by decide +kernel, by decide +kernel⟩, List.mem_of_getElem? (i := 23) (by decide +kernel), List.mem_of_getElem? (i := 714) (by decide +kernel), List.mem_of_getElem? (i := 715) (by decide +kernel)⟩
theorem lw_p19 : lw_okq (⟨"NextMustShare$Steps", "isStocked", "(I)Z"⟩, 11) := ⟨⟨by decide +kernel, by decide +kernel⟩, List.mem_of_getElem? (i := 180) (by decide +kernel), List.mem_of_getElem? (i := 743) (by decide +kernel), List.mem_of_getElem? (i := 744) (by decide +kernel)⟩
theorem lw_p20 : lw_okq (⟨"NextMustShare", "tellMost", "()I"⟩, 16) := ⟨⟨by decide +kernel, by decide +kernel⟩, List.mem_of_getElem? (i := 23) (by decide +kernel), List.mem_of_getElem? (i := 765) (by decide +kernel), List.mem_of_getElem? (i := 766) (by decide +kernel)⟩
theorem lw_p21 : lw_okq (⟨"NextMustShare$Plan", "isGoal", "(LNextMustShare$Steps;III)Z"⟩, 8) := ⟨⟨by decide +kernel, by decide +kernel⟩, List.mem_of_getElem? (i := 221) (by decide +kernel), List.mem_of_getElem? (i := 801) (by decide +kernel), List.mem_of_getElem? (i := 802) (by decide +kernel)⟩
theorem lw_p22 : lw_okq (⟨"NextMustShare$Plan", "worth", "(LNextMustShare$Steps;I)I"⟩, 8) := ⟨⟨by decide +kernel, by decide +kernel⟩, List.mem_of_getElem? (i := 221) (by decide +kernel), List.mem_of_getElem? (i := 813) (by decide +kernel), List.mem_of_getElem? (i := 814) (by decide +kernel)⟩
theorem lw_p23 : lw_okq (⟨"NextMustShare$Plan", "lead", "(LNextMustShare$Steps;)V"⟩, 8) := ⟨⟨by decide +kernel, by decide +kernel⟩, List.mem_of_getElem? (i := 221) (by decide +kernel), List.mem_of_getElem? (i := 820) (by decide +kernel), List.mem_of_getElem? (i := 821) (by decide +kernel)⟩
theorem lw_p24 : lw_okq (⟨"NextMustShare$Plan", "isMarked", "(II)Z"⟩, 8) := ⟨⟨by decide +kernel, by decide +kernel⟩, List.mem_of_getElem? (i := 221) (by decide +kernel), List.mem_of_getElem? (i := 829) (by decide +kernel), List.mem_of_getElem? (i := 830) (by decide +kernel)⟩
theorem lw_p25 : lw_okq (⟨"NextMustShare$Match", "setValue", "(III)V"⟩, 2) := ⟨⟨by decide +kernel, by decide +kernel⟩, List.mem_of_getElem? (i := 254) (by decide +kernel), List.mem_of_getElem? (i := 861) (by decide +kernel), List.mem_of_getElem? (i := 862) (by decide +kernel)⟩
theorem lw_p26 : lw_okq (⟨"NextMustShare$Match", "countWith", "(II)I"⟩, 2) := ⟨⟨by decide +kernel, by decide +kernel⟩, List.mem_of_getElem? (i := 254) (by decide +kernel), List.mem_of_getElem? (i := 868) (by decide +kernel), List.mem_of_getElem? (i := 869) (by decide +kernel)⟩
theorem lw_p27 : lw_okq (⟨"NextMustShare$Match", "value", "(II)I"⟩, 2) := ⟨⟨by decide +kernel, by decide +kernel⟩, List.mem_of_getElem? (i := 254) (by decide +kernel), List.mem_of_getElem? (i := 872) (by decide +kernel), List.mem_of_getElem? (i := 873) (by decide +kernel)⟩
theorem lw_p28 : lw_okq (⟨"NextMustShare$Match", "countOn", "(LNextMustShare$Steps;I)V"⟩, 2) := ⟨⟨by decide +kernel, by decide +kernel⟩, List.mem_of_getElem? (i := 254) (by decide +kernel), List.mem_of_getElem? (i := 876) (by decide +kernel), List.mem_of_getElem? (i := 877) (by decide +kernel)⟩
theorem lw_p29 : lw_okq (⟨"NextMustShare", "tellBetween", "(III)I"⟩, 16) := ⟨⟨by decide +kernel, by decide +kernel⟩, List.mem_of_getElem? (i := 23) (by decide +kernel), List.mem_of_getElem? (i := 887) (by decide +kernel), List.mem_of_getElem? (i := 888) (by decide +kernel)⟩
theorem lw_p30 : lw_okq (⟨"NextMustShare", "beginAnew", "(LNextMustShare$Law;)V"⟩, 16) := ⟨⟨by decide +kernel, by decide +kernel⟩, List.mem_of_getElem? (i := 23) (by decide +kernel), List.mem_of_getElem? (i := 891) (by decide +kernel), List.mem_of_getElem? (i := 892) (by decide +kernel)⟩
theorem lw_p31 : lw_okq (⟨"NextMustShare", "goRound", "(I)V"⟩, 16) := ⟨⟨by decide +kernel, by decide +kernel⟩, List.mem_of_getElem? (i := 23) (by decide +kernel), List.mem_of_getElem? (i := 942) (by decide +kernel), List.mem_of_getElem? (i := 943) (by decide +kernel)⟩
def lw_privs_2 : List (MethodName × Nat) := [(⟨"NextMustShare$Menu", "put", "(II)V"⟩, 3), (⟨"NextMustShare", "isWhole", "(I)Z"⟩, 16), (⟨"NextMustShare", "goOn", "(I)V"⟩, 16), (⟨"NextMustShare$Steps", "isStocked", "(I)Z"⟩, 11), (⟨"NextMustShare", "tellMost", "()I"⟩, 16), (⟨"NextMustShare$Plan", "isGoal", "(LNextMustShare$Steps;III)Z"⟩, 8), (⟨"NextMustShare$Plan", "worth", "(LNextMustShare$Steps;I)I"⟩, 8), (⟨"NextMustShare$Plan", "lead", "(LNextMustShare$Steps;)V"⟩, 8), (⟨"NextMustShare$Plan", "isMarked", "(II)Z"⟩, 8), (⟨"NextMustShare$Match", "setValue", "(III)V"⟩, 2), (⟨"NextMustShare$Match", "countWith", "(II)I"⟩, 2), (⟨"NextMustShare$Match", "value", "(II)I"⟩, 2), (⟨"NextMustShare$Match", "countOn", "(LNextMustShare$Steps;I)V"⟩, 2), (⟨"NextMustShare", "tellBetween", "(III)I"⟩, 16), (⟨"NextMustShare", "beginAnew", "(LNextMustShare$Law;)V"⟩, 16), (⟨"NextMustShare", "goRound", "(I)V"⟩, 16)]
theorem lw_r2 : ∀ q ∈ lw_privs_2, lw_okq q := List.forall_mem_cons.mpr ⟨lw_p16, List.forall_mem_cons.mpr ⟨lw_p17, List.forall_mem_cons.mpr ⟨lw_p18, List.forall_mem_cons.mpr ⟨lw_p19, List.forall_mem_cons.mpr ⟨lw_p20, List.forall_mem_cons.mpr ⟨lw_p21, List.forall_mem_cons.mpr ⟨lw_p22, List.forall_mem_cons.mpr ⟨lw_p23, List.forall_mem_cons.mpr ⟨lw_p24, List.forall_mem_cons.mpr ⟨lw_p25, List.forall_mem_cons.mpr ⟨lw_p26, List.forall_mem_cons.mpr ⟨lw_p27, List.forall_mem_cons.mpr ⟨lw_p28, List.forall_mem_cons.mpr ⟨lw_p29, List.forall_mem_cons.mpr ⟨lw_p30, List.forall_mem_cons.mpr ⟨lw_p31, fun _ h => absurd h List.not_mem_nil⟩⟩⟩⟩⟩⟩⟩⟩⟩⟩⟩⟩⟩⟩⟩⟩
theorem lw_p32 : lw_okq (⟨"NextMustShare$Taste", "push", "(I)V"⟩, 7) := ⟨⟨by decide +kernel, by decide +kernel⟩, List.mem_of_getElem? (i := 95) (by decide +kernel), List.mem_of_getElem? (i := 979) (by decide +kernel), List.mem_of_getElem? (i := 980) (by decide +kernel)⟩
theorem lw_p33 : lw_okq (⟨"NextMustShare$Taste", "pop", "()I"⟩, 7) := ⟨⟨by decide +kernel, by decide +kernel⟩, List.mem_of_getElem? (i := 95) (by decide +kernel), List.mem_of_getElem? (i := 996) (by decide +kernel), List.mem_of_getElem? (i := 997) (by decide +kernel)⟩
theorem lw_p34 : lw_okq (⟨"NextMustShare", "tellJoy", "(II)I"⟩, 16) := ⟨⟨by decide +kernel, by decide +kernel⟩, List.mem_of_getElem? (i := 23) (by decide +kernel), List.mem_of_getElem? (i := 1006) (by decide +kernel), List.mem_of_getElem? (i := 1007) (by decide +kernel)⟩
theorem lw_p35 : lw_okq (⟨"NextMustShare", "tellCost", "(III)I"⟩, 16) := ⟨⟨by decide +kernel, by decide +kernel⟩, List.mem_of_getElem? (i := 23) (by decide +kernel), List.mem_of_getElem? (i := 1031) (by decide +kernel), List.mem_of_getElem? (i := 1032) (by decide +kernel)⟩
theorem lw_p36 : lw_okq (⟨"NextMustShare$Match", "leastFor", "(II)I"⟩, 2) := ⟨⟨by decide +kernel, by decide +kernel⟩, List.mem_of_getElem? (i := 254) (by decide +kernel), List.mem_of_getElem? (i := 1047) (by decide +kernel), List.mem_of_getElem? (i := 1048) (by decide +kernel)⟩
theorem lw_p37 : lw_okq (⟨"NextMustShare$Match", "worthToOther", "(III)I"⟩, 2) := ⟨⟨by decide +kernel, by decide +kernel⟩, List.mem_of_getElem? (i := 254) (by decide +kernel), List.mem_of_getElem? (i := 1065) (by decide +kernel), List.mem_of_getElem? (i := 1066) (by decide +kernel)⟩
theorem lw_p38 : lw_okq (⟨"NextMustShare$Match", "mostJoyful", "(I)I"⟩, 2) := ⟨⟨by decide +kernel, by decide +kernel⟩, List.mem_of_getElem? (i := 254) (by decide +kernel), List.mem_of_getElem? (i := 1069) (by decide +kernel), List.mem_of_getElem? (i := 1070) (by decide +kernel)⟩
theorem lw_p39 : lw_okq (⟨"NextMustShare$Match", "fewestChanges", "(IILNextMustShare$Menu;)I"⟩, 2) := ⟨⟨by decide +kernel, by decide +kernel⟩, List.mem_of_getElem? (i := 254) (by decide +kernel), List.mem_of_getElem? (i := 1082) (by decide +kernel), List.mem_of_getElem? (i := 1083) (by decide +kernel)⟩
theorem lw_p40 : lw_okq (⟨"NextMustShare$Match", "changesWith", "(IILNextMustShare$Menu;)I"⟩, 2) := ⟨⟨by decide +kernel, by decide +kernel⟩, List.mem_of_getElem? (i := 254) (by decide +kernel), List.mem_of_getElem? (i := 1088) (by decide +kernel), List.mem_of_getElem? (i := 1089) (by decide +kernel)⟩
theorem lw_p41 : lw_okq (⟨"NextMustShare$Match", "tellMended", "(LNextMustShare$Steps;LNextMustShare$Menu;LNextMustShare$Row;)V"⟩, 2) := ⟨⟨by decide +kernel, by decide +kernel⟩, List.mem_of_getElem? (i := 254) (by decide +kernel), List.mem_of_getElem? (i := 1094) (by decide +kernel), List.mem_of_getElem? (i := 1095) (by decide +kernel)⟩
theorem lw_p42 : lw_okq (⟨"NextMustShare", "layFilled", "(LNextMustShare$Menu;)V"⟩, 16) := ⟨⟨by decide +kernel, by decide +kernel⟩, List.mem_of_getElem? (i := 23) (by decide +kernel), List.mem_of_getElem? (i := 1103) (by decide +kernel), List.mem_of_getElem? (i := 1104) (by decide +kernel)⟩
theorem lw_p43 : lw_okq (⟨"NextMustShare$Plan", "findBeginnings", "(LNextMustShare$Steps;)V"⟩, 8) := ⟨⟨by decide +kernel, by decide +kernel⟩, List.mem_of_getElem? (i := 221) (by decide +kernel), List.mem_of_getElem? (i := 1168) (by decide +kernel), List.mem_of_getElem? (i := 1169) (by decide +kernel)⟩
theorem lw_p44 : lw_okq (⟨"NextMustShare$Plan", "findGaps", "(LNextMustShare$Steps;I)V"⟩, 8) := ⟨⟨by decide +kernel, by decide +kernel⟩, List.mem_of_getElem? (i := 221) (by decide +kernel), List.mem_of_getElem? (i := 1183) (by decide +kernel), List.mem_of_getElem? (i := 1184) (by decide +kernel)⟩
theorem lw_p45 : lw_okq (⟨"NextMustShare$Plan", "joins", "(ILNextMustShare$Larder;LNextMustShare$Law;)Z"⟩, 8) := ⟨⟨by decide +kernel, by decide +kernel⟩, List.mem_of_getElem? (i := 221) (by decide +kernel), List.mem_of_getElem? (i := 1188) (by decide +kernel), List.mem_of_getElem? (i := 1189) (by decide +kernel)⟩
theorem lw_p46 : lw_okq (⟨"NextMustShare", "menusLaid", "()I"⟩, 16) := ⟨⟨by decide +kernel, by decide +kernel⟩, List.mem_of_getElem? (i := 23) (by decide +kernel), List.mem_of_getElem? (i := 1219) (by decide +kernel), List.mem_of_getElem? (i := 1220) (by decide +kernel)⟩
theorem lw_p47 : lw_okq (⟨"java/lang/Throwable", "fillInStackTrace", "(I)Ljava/lang/Throwable;"⟩, 6) := ⟨⟨by decide +kernel, by decide +kernel⟩, List.mem_of_getElem? (i := 1267) (by decide +kernel), List.mem_of_getElem? (i := 1265) (by decide +kernel), List.mem_of_getElem? (i := 1266) (by decide +kernel)⟩
def lw_privs_3 : List (MethodName × Nat) := [(⟨"NextMustShare$Taste", "push", "(I)V"⟩, 7), (⟨"NextMustShare$Taste", "pop", "()I"⟩, 7), (⟨"NextMustShare", "tellJoy", "(II)I"⟩, 16), (⟨"NextMustShare", "tellCost", "(III)I"⟩, 16), (⟨"NextMustShare$Match", "leastFor", "(II)I"⟩, 2), (⟨"NextMustShare$Match", "worthToOther", "(III)I"⟩, 2), (⟨"NextMustShare$Match", "mostJoyful", "(I)I"⟩, 2), (⟨"NextMustShare$Match", "fewestChanges", "(IILNextMustShare$Menu;)I"⟩, 2), (⟨"NextMustShare$Match", "changesWith", "(IILNextMustShare$Menu;)I"⟩, 2), (⟨"NextMustShare$Match", "tellMended", "(LNextMustShare$Steps;LNextMustShare$Menu;LNextMustShare$Row;)V"⟩, 2), (⟨"NextMustShare", "layFilled", "(LNextMustShare$Menu;)V"⟩, 16), (⟨"NextMustShare$Plan", "findBeginnings", "(LNextMustShare$Steps;)V"⟩, 8), (⟨"NextMustShare$Plan", "findGaps", "(LNextMustShare$Steps;I)V"⟩, 8), (⟨"NextMustShare$Plan", "joins", "(ILNextMustShare$Larder;LNextMustShare$Law;)Z"⟩, 8), (⟨"NextMustShare", "menusLaid", "()I"⟩, 16), (⟨"java/lang/Throwable", "fillInStackTrace", "(I)Ljava/lang/Throwable;"⟩, 6)]
theorem lw_r3 : ∀ q ∈ lw_privs_3, lw_okq q := List.forall_mem_cons.mpr ⟨lw_p32, List.forall_mem_cons.mpr ⟨lw_p33, List.forall_mem_cons.mpr ⟨lw_p34, List.forall_mem_cons.mpr ⟨lw_p35, List.forall_mem_cons.mpr ⟨lw_p36, List.forall_mem_cons.mpr ⟨lw_p37, List.forall_mem_cons.mpr ⟨lw_p38, List.forall_mem_cons.mpr ⟨lw_p39, List.forall_mem_cons.mpr ⟨lw_p40, List.forall_mem_cons.mpr ⟨lw_p41, List.forall_mem_cons.mpr ⟨lw_p42, List.forall_mem_cons.mpr ⟨lw_p43, List.forall_mem_cons.mpr ⟨lw_p44, List.forall_mem_cons.mpr ⟨lw_p45, List.forall_mem_cons.mpr ⟨lw_p46, List.forall_mem_cons.mpr ⟨lw_p47, fun _ h => absurd h List.not_mem_nil⟩⟩⟩⟩⟩⟩⟩⟩⟩⟩⟩⟩⟩⟩⟩⟩
theorem lw_p48 : lw_okq (⟨"NextMustShareModel", "begin", "([BII)V"⟩, 53) := ⟨⟨by decide +kernel, by decide +kernel⟩, List.mem_of_getElem? (i := 1322) (by decide +kernel), List.mem_of_getElem? (i := 1509) (by decide +kernel), List.mem_of_getElem? (i := 1510) (by decide +kernel)⟩
theorem lw_p49 : lw_okq (⟨"NextMustShareModel", "fine", "()Z"⟩, 53) := ⟨⟨by decide +kernel, by decide +kernel⟩, List.mem_of_getElem? (i := 1322) (by decide +kernel), List.mem_of_getElem? (i := 1513) (by decide +kernel), List.mem_of_getElem? (i := 1514) (by decide +kernel)⟩
theorem lw_p50 : lw_okq (⟨"NextMustShareModel", "here", "()I"⟩, 53) := ⟨⟨by decide +kernel, by decide +kernel⟩, List.mem_of_getElem? (i := 1322) (by decide +kernel), List.mem_of_getElem? (i := 1517) (by decide +kernel), List.mem_of_getElem? (i := 1518) (by decide +kernel)⟩
theorem lw_p51 : lw_okq (⟨"NextMustShareModel", "fault", "(I)V"⟩, 53) := ⟨⟨by decide +kernel, by decide +kernel⟩, List.mem_of_getElem? (i := 1322) (by decide +kernel), List.mem_of_getElem? (i := 1521) (by decide +kernel), List.mem_of_getElem? (i := 1522) (by decide +kernel)⟩
theorem lw_p52 : lw_okq (⟨"NextMustShareModel", "readGuest", "(I)V"⟩, 53) := ⟨⟨by decide +kernel, by decide +kernel⟩, List.mem_of_getElem? (i := 1322) (by decide +kernel), List.mem_of_getElem? (i := 1525) (by decide +kernel), List.mem_of_getElem? (i := 1526) (by decide +kernel)⟩
theorem lw_p53 : lw_okq (⟨"NextMustShareModel", "letters", "(Z)I"⟩, 53) := ⟨⟨by decide +kernel, by decide +kernel⟩, List.mem_of_getElem? (i := 1322) (by decide +kernel), List.mem_of_getElem? (i := 1529) (by decide +kernel), List.mem_of_getElem? (i := 1530) (by decide +kernel)⟩
theorem lw_p54 : lw_okq (⟨"NextMustShareModel", "passes", "(C)Z"⟩, 53) := ⟨⟨by decide +kernel, by decide +kernel⟩, List.mem_of_getElem? (i := 1322) (by decide +kernel), List.mem_of_getElem? (i := 1533) (by decide +kernel), List.mem_of_getElem? (i := 1534) (by decide +kernel)⟩
theorem lw_p55 : lw_okq (⟨"NextMustShareModel", "number", "(I)I"⟩, 53) := ⟨⟨by decide +kernel, by decide +kernel⟩, List.mem_of_getElem? (i := 1322) (by decide +kernel), List.mem_of_getElem? (i := 1537) (by decide +kernel), List.mem_of_getElem? (i := 1538) (by decide +kernel)⟩
theorem lw_p56 : lw_okq (⟨"NextMustShareModel", "held", "(I)I"⟩, 53) := ⟨⟨by decide +kernel, by decide +kernel⟩, List.mem_of_getElem? (i := 1322) (by decide +kernel), List.mem_of_getElem? (i := 1545) (by decide +kernel), List.mem_of_getElem? (i := 1546) (by decide +kernel)⟩
theorem lw_p57 : lw_okq (⟨"NextMustShareModel", "sum", "(I)I"⟩, 53) := ⟨⟨by decide +kernel, by decide +kernel⟩, List.mem_of_getElem? (i := 1322) (by decide +kernel), List.mem_of_getElem? (i := 1549) (by decide +kernel), List.mem_of_getElem? (i := 1550) (by decide +kernel)⟩
theorem lw_p58 : lw_okq (⟨"NextMustShareModel", "product", "(I)I"⟩, 53) := ⟨⟨by decide +kernel, by decide +kernel⟩, List.mem_of_getElem? (i := 1322) (by decide +kernel), List.mem_of_getElem? (i := 1553) (by decide +kernel), List.mem_of_getElem? (i := 1554) (by decide +kernel)⟩
theorem lw_p59 : lw_okq (⟨"NextMustShareModel", "thing", "(I)I"⟩, 53) := ⟨⟨by decide +kernel, by decide +kernel⟩, List.mem_of_getElem? (i := 1322) (by decide +kernel), List.mem_of_getElem? (i := 1557) (by decide +kernel), List.mem_of_getElem? (i := 1558) (by decide +kernel)⟩
theorem lw_p60 : lw_okq (⟨"NextMustShareModel", "letter", "(I)I"⟩, 53) := ⟨⟨by decide +kernel, by decide +kernel⟩, List.mem_of_getElem? (i := 1322) (by decide +kernel), List.mem_of_getElem? (i := 1561) (by decide +kernel), List.mem_of_getElem? (i := 1562) (by decide +kernel)⟩
theorem lw_p61 : lw_okq (⟨"NextMustShareModel", "isDish", "(I)Z"⟩, 53) := ⟨⟨by decide +kernel, by decide +kernel⟩, List.mem_of_getElem? (i := 1322) (by decide +kernel), List.mem_of_getElem? (i := 1570) (by decide +kernel), List.mem_of_getElem? (i := 1571) (by decide +kernel)⟩
theorem lw_p62 : lw_okq (⟨"NextMustShareModel", "lost", "()I"⟩, 53) := ⟨⟨by decide +kernel, by decide +kernel⟩, List.mem_of_getElem? (i := 1322) (by decide +kernel), List.mem_of_getElem? (i := 1574) (by decide +kernel), List.mem_of_getElem? (i := 1575) (by decide +kernel)⟩
theorem lw_p63 : lw_okq (⟨"NextMustShareModel", "isHungry", "(II)Z"⟩, 53) := ⟨⟨by decide +kernel, by decide +kernel⟩, List.mem_of_getElem? (i := 1322) (by decide +kernel), List.mem_of_getElem? (i := 1578) (by decide +kernel), List.mem_of_getElem? (i := 1579) (by decide +kernel)⟩
def lw_privs_4 : List (MethodName × Nat) := [(⟨"NextMustShareModel", "begin", "([BII)V"⟩, 53), (⟨"NextMustShareModel", "fine", "()Z"⟩, 53), (⟨"NextMustShareModel", "here", "()I"⟩, 53), (⟨"NextMustShareModel", "fault", "(I)V"⟩, 53), (⟨"NextMustShareModel", "readGuest", "(I)V"⟩, 53), (⟨"NextMustShareModel", "letters", "(Z)I"⟩, 53), (⟨"NextMustShareModel", "passes", "(C)Z"⟩, 53), (⟨"NextMustShareModel", "number", "(I)I"⟩, 53), (⟨"NextMustShareModel", "held", "(I)I"⟩, 53), (⟨"NextMustShareModel", "sum", "(I)I"⟩, 53), (⟨"NextMustShareModel", "product", "(I)I"⟩, 53), (⟨"NextMustShareModel", "thing", "(I)I"⟩, 53), (⟨"NextMustShareModel", "letter", "(I)I"⟩, 53), (⟨"NextMustShareModel", "isDish", "(I)Z"⟩, 53), (⟨"NextMustShareModel", "lost", "()I"⟩, 53), (⟨"NextMustShareModel", "isHungry", "(II)Z"⟩, 53)]
theorem lw_r4 : ∀ q ∈ lw_privs_4, lw_okq q := List.forall_mem_cons.mpr ⟨lw_p48, List.forall_mem_cons.mpr ⟨lw_p49, List.forall_mem_cons.mpr ⟨lw_p50, List.forall_mem_cons.mpr ⟨lw_p51, List.forall_mem_cons.mpr ⟨lw_p52, List.forall_mem_cons.mpr ⟨lw_p53, List.forall_mem_cons.mpr ⟨lw_p54, List.forall_mem_cons.mpr ⟨lw_p55, List.forall_mem_cons.mpr ⟨lw_p56, List.forall_mem_cons.mpr ⟨lw_p57, List.forall_mem_cons.mpr ⟨lw_p58, List.forall_mem_cons.mpr ⟨lw_p59, List.forall_mem_cons.mpr ⟨lw_p60, List.forall_mem_cons.mpr ⟨lw_p61, List.forall_mem_cons.mpr ⟨lw_p62, List.forall_mem_cons.mpr ⟨lw_p63, fun _ h => absurd h List.not_mem_nil⟩⟩⟩⟩⟩⟩⟩⟩⟩⟩⟩⟩⟩⟩⟩⟩
theorem lw_p64 : lw_okq (⟨"NextMustShareModel", "joyOfAll", "(I)I"⟩, 53) := ⟨⟨by decide +kernel, by decide +kernel⟩, List.mem_of_getElem? (i := 1322) (by decide +kernel), List.mem_of_getElem? (i := 1582) (by decide +kernel), List.mem_of_getElem? (i := 1583) (by decide +kernel)⟩
theorem lw_p65 : lw_okq (⟨"NextMustShareModel", "joyOf", "(II)I"⟩, 53) := ⟨⟨by decide +kernel, by decide +kernel⟩, List.mem_of_getElem? (i := 1322) (by decide +kernel), List.mem_of_getElem? (i := 1586) (by decide +kernel), List.mem_of_getElem? (i := 1587) (by decide +kernel)⟩
theorem lw_p66 : lw_okq (⟨"NextMustShareModel", "isGuest", "(I)Z"⟩, 53) := ⟨⟨by decide +kernel, by decide +kernel⟩, List.mem_of_getElem? (i := 1322) (by decide +kernel), List.mem_of_getElem? (i := 1596) (by decide +kernel), List.mem_of_getElem? (i := 1597) (by decide +kernel)⟩
theorem lw_p67 : lw_okq (⟨"NextMustShareModel", "servedSet", "()I"⟩, 53) := ⟨⟨by decide +kernel, by decide +kernel⟩, List.mem_of_getElem? (i := 1322) (by decide +kernel), List.mem_of_getElem? (i := 1623) (by decide +kernel), List.mem_of_getElem? (i := 1624) (by decide +kernel)⟩
theorem lw_p68 : lw_okq (⟨"NextMustShareModel", "servedLast", "()I"⟩, 53) := ⟨⟨by decide +kernel, by decide +kernel⟩, List.mem_of_getElem? (i := 1322) (by decide +kernel), List.mem_of_getElem? (i := 1627) (by decide +kernel), List.mem_of_getElem? (i := 1628) (by decide +kernel)⟩
theorem lw_p69 : lw_okq (⟨"NextMustShareModel", "refusal", "(III)I"⟩, 53) := ⟨⟨by decide +kernel, by decide +kernel⟩, List.mem_of_getElem? (i := 1322) (by decide +kernel), List.mem_of_getElem? (i := 1631) (by decide +kernel), List.mem_of_getElem? (i := 1632) (by decide +kernel)⟩
theorem lw_p70 : lw_okq (⟨"NextMustShareModel", "shared", "(II)I"⟩, 53) := ⟨⟨by decide +kernel, by decide +kernel⟩, List.mem_of_getElem? (i := 1322) (by decide +kernel), List.mem_of_getElem? (i := 1638) (by decide +kernel), List.mem_of_getElem? (i := 1639) (by decide +kernel)⟩
theorem lw_p71 : lw_okq (⟨"NextMustShareModel", "hasHot", "(I)Z"⟩, 53) := ⟨⟨by decide +kernel, by decide +kernel⟩, List.mem_of_getElem? (i := 1322) (by decide +kernel), List.mem_of_getElem? (i := 1642) (by decide +kernel), List.mem_of_getElem? (i := 1643) (by decide +kernel)⟩
theorem lw_p72 : lw_okq (⟨"NextMustShareModel", "fits", "(IIZ)Z"⟩, 53) := ⟨⟨by decide +kernel, by decide +kernel⟩, List.mem_of_getElem? (i := 1322) (by decide +kernel), List.mem_of_getElem? (i := 1646) (by decide +kernel), List.mem_of_getElem? (i := 1647) (by decide +kernel)⟩
theorem lw_p73 : lw_okq (⟨"NextMustShareModel", "isMenu", "(I)Z"⟩, 53) := ⟨⟨by decide +kernel, by decide +kernel⟩, List.mem_of_getElem? (i := 1322) (by decide +kernel), List.mem_of_getElem? (i := 1670) (by decide +kernel), List.mem_of_getElem? (i := 1671) (by decide +kernel)⟩
theorem lw_p74 : lw_okq (⟨"NextMustShareModel", "lookFromNothing", "()V"⟩, 53) := ⟨⟨by decide +kernel, by decide +kernel⟩, List.mem_of_getElem? (i := 1322) (by decide +kernel), List.mem_of_getElem? (i := 1674) (by decide +kernel), List.mem_of_getElem? (i := 1675) (by decide +kernel)⟩
theorem lw_p75 : lw_okq (⟨"NextMustShareModel", "lookOn", "(I)I"⟩, 53) := ⟨⟨by decide +kernel, by decide +kernel⟩, List.mem_of_getElem? (i := 1322) (by decide +kernel), List.mem_of_getElem? (i := 1678) (by decide +kernel), List.mem_of_getElem? (i := 1679) (by decide +kernel)⟩
theorem lw_p76 : lw_okq (⟨"NextMustShareModel", "tell", "(I)V"⟩, 53) := ⟨⟨by decide +kernel, by decide +kernel⟩, List.mem_of_getElem? (i := 1322) (by decide +kernel), List.mem_of_getElem? (i := 1682) (by decide +kernel), List.mem_of_getElem? (i := 1683) (by decide +kernel)⟩
theorem lw_p77 : lw_okq (⟨"NextMustShareModel", "isWhole", "(I)Z"⟩, 53) := ⟨⟨by decide +kernel, by decide +kernel⟩, List.mem_of_getElem? (i := 1322) (by decide +kernel), List.mem_of_getElem? (i := 1698) (by decide +kernel), List.mem_of_getElem? (i := 1699) (by decide +kernel)⟩
theorem lw_p78 : lw_okq (⟨"NextMustShareModel", "isLawful", "(I)Z"⟩, 53) := ⟨⟨by decide +kernel, by decide +kernel⟩, List.mem_of_getElem? (i := 1322) (by decide +kernel), List.mem_of_getElem? (i := 1706) (by decide +kernel), List.mem_of_getElem? (i := 1707) (by decide +kernel)⟩
theorem lw_p79 : lw_okq (⟨"NextMustShareModel", "all", "()I"⟩, 53) := ⟨⟨by decide +kernel, by decide +kernel⟩, List.mem_of_getElem? (i := 1322) (by decide +kernel), List.mem_of_getElem? (i := 1714) (by decide +kernel), List.mem_of_getElem? (i := 1715) (by decide +kernel)⟩
def lw_privs_5 : List (MethodName × Nat) := [(⟨"NextMustShareModel", "joyOfAll", "(I)I"⟩, 53), (⟨"NextMustShareModel", "joyOf", "(II)I"⟩, 53), (⟨"NextMustShareModel", "isGuest", "(I)Z"⟩, 53), (⟨"NextMustShareModel", "servedSet", "()I"⟩, 53), (⟨"NextMustShareModel", "servedLast", "()I"⟩, 53), (⟨"NextMustShareModel", "refusal", "(III)I"⟩, 53), (⟨"NextMustShareModel", "shared", "(II)I"⟩, 53), (⟨"NextMustShareModel", "hasHot", "(I)Z"⟩, 53), (⟨"NextMustShareModel", "fits", "(IIZ)Z"⟩, 53), (⟨"NextMustShareModel", "isMenu", "(I)Z"⟩, 53), (⟨"NextMustShareModel", "lookFromNothing", "()V"⟩, 53), (⟨"NextMustShareModel", "lookOn", "(I)I"⟩, 53), (⟨"NextMustShareModel", "tell", "(I)V"⟩, 53), (⟨"NextMustShareModel", "isWhole", "(I)Z"⟩, 53), (⟨"NextMustShareModel", "isLawful", "(I)Z"⟩, 53), (⟨"NextMustShareModel", "all", "()I"⟩, 53)]
theorem lw_r5 : ∀ q ∈ lw_privs_5, lw_okq q := List.forall_mem_cons.mpr ⟨lw_p64, List.forall_mem_cons.mpr ⟨lw_p65, List.forall_mem_cons.mpr ⟨lw_p66, List.forall_mem_cons.mpr ⟨lw_p67, List.forall_mem_cons.mpr ⟨lw_p68, List.forall_mem_cons.mpr ⟨lw_p69, List.forall_mem_cons.mpr ⟨lw_p70, List.forall_mem_cons.mpr ⟨lw_p71, List.forall_mem_cons.mpr ⟨lw_p72, List.forall_mem_cons.mpr ⟨lw_p73, List.forall_mem_cons.mpr ⟨lw_p74, List.forall_mem_cons.mpr ⟨lw_p75, List.forall_mem_cons.mpr ⟨lw_p76, List.forall_mem_cons.mpr ⟨lw_p77, List.forall_mem_cons.mpr ⟨lw_p78, List.forall_mem_cons.mpr ⟨lw_p79, fun _ h => absurd h List.not_mem_nil⟩⟩⟩⟩⟩⟩⟩⟩⟩⟩⟩⟩⟩⟩⟩⟩
theorem lw_p80 : lw_okq (⟨"NextMustShareModel", "longestBy", "(I)I"⟩, 53) := ⟨⟨by decide +kernel, by decide +kernel⟩, List.mem_of_getElem? (i := 1322) (by decide +kernel), List.mem_of_getElem? (i := 1718) (by decide +kernel), List.mem_of_getElem? (i := 1719) (by decide +kernel)⟩
theorem lw_p81 : lw_okq (⟨"NextMustShareModel", "findRows", "(III)V"⟩, 53) := ⟨⟨by decide +kernel, by decide +kernel⟩, List.mem_of_getElem? (i := 1322) (by decide +kernel), List.mem_of_getElem? (i := 1722) (by decide +kernel), List.mem_of_getElem? (i := 1723) (by decide +kernel)⟩
theorem lw_p82 : lw_okq (⟨"NextMustShareModel", "may", "(III)Z"⟩, 53) := ⟨⟨by decide +kernel, by decide +kernel⟩, List.mem_of_getElem? (i := 1322) (by decide +kernel), List.mem_of_getElem? (i := 1732) (by decide +kernel), List.mem_of_getElem? (i := 1733) (by decide +kernel)⟩
theorem lw_p83 : lw_okq (⟨"NextMustShareModel", "noEnds", "()V"⟩, 53) := ⟨⟨by decide +kernel, by decide +kernel⟩, List.mem_of_getElem? (i := 1322) (by decide +kernel), List.mem_of_getElem? (i := 1736) (by decide +kernel), List.mem_of_getElem? (i := 1737) (by decide +kernel)⟩
theorem lw_p84 : lw_okq (⟨"NextMustShareModel", "findEnds", "(I)V"⟩, 53) := ⟨⟨by decide +kernel, by decide +kernel⟩, List.mem_of_getElem? (i := 1322) (by decide +kernel), List.mem_of_getElem? (i := 1740) (by decide +kernel), List.mem_of_getElem? (i := 1741) (by decide +kernel)⟩
theorem lw_p85 : lw_okq (⟨"NextMustShareModel", "tellWay", "(III)V"⟩, 53) := ⟨⟨by decide +kernel, by decide +kernel⟩, List.mem_of_getElem? (i := 1322) (by decide +kernel), List.mem_of_getElem? (i := 1744) (by decide +kernel), List.mem_of_getElem? (i := 1745) (by decide +kernel)⟩
theorem lw_p86 : lw_okq (⟨"NextMustShareModel", "betweenBy", "(IIZ)I"⟩, 53) := ⟨⟨by decide +kernel, by decide +kernel⟩, List.mem_of_getElem? (i := 1322) (by decide +kernel), List.mem_of_getElem? (i := 1757) (by decide +kernel), List.mem_of_getElem? (i := 1758) (by decide +kernel)⟩
theorem lw_p87 : lw_okq (⟨"NextMustShareModel", "tellFrom", "(II)Z"⟩, 53) := ⟨⟨by decide +kernel, by decide +kernel⟩, List.mem_of_getElem? (i := 1322) (by decide +kernel), List.mem_of_getElem? (i := 1761) (by decide +kernel), List.mem_of_getElem? (i := 1762) (by decide +kernel)⟩
theorem lw_p88 : lw_okq (⟨"NextMustShareModel", "besides", "(I)I"⟩, 53) := ⟨⟨by decide +kernel, by decide +kernel⟩, List.mem_of_getElem? (i := 1322) (by decide +kernel), List.mem_of_getElem? (i := 1777) (by decide +kernel), List.mem_of_getElem? (i := 1778) (by decide +kernel)⟩
theorem lw_p89 : lw_okq (⟨"NextMustShareModel", "tellBest", "(III)I"⟩, 53) := ⟨⟨by decide +kernel, by decide +kernel⟩, List.mem_of_getElem? (i := 1322) (by decide +kernel), List.mem_of_getElem? (i := 1801) (by decide +kernel), List.mem_of_getElem? (i := 1802) (by decide +kernel)⟩
theorem lw_p90 : lw_okq (⟨"NextMustShareModel", "findBest", "(IIII)Z"⟩, 53) := ⟨⟨by decide +kernel, by decide +kernel⟩, List.mem_of_getElem? (i := 1322) (by decide +kernel), List.mem_of_getElem? (i := 1805) (by decide +kernel), List.mem_of_getElem? (i := 1806) (by decide +kernel)⟩
theorem lw_p91 : lw_okq (⟨"NextMustShareModel", "costIn", "(I)I"⟩, 53) := ⟨⟨by decide +kernel, by decide +kernel⟩, List.mem_of_getElem? (i := 1322) (by decide +kernel), List.mem_of_getElem? (i := 1810) (by decide +kernel), List.mem_of_getElem? (i := 1811) (by decide +kernel)⟩
theorem lw_p92 : lw_okq (⟨"NextMustShareModel", "scoreOf", "(II)I"⟩, 53) := ⟨⟨by decide +kernel, by decide +kernel⟩, List.mem_of_getElem? (i := 1322) (by decide +kernel), List.mem_of_getElem? (i := 1814) (by decide +kernel), List.mem_of_getElem? (i := 1815) (by decide +kernel)⟩
theorem lw_p93 : lw_okq (⟨"NextMustShareModel", "joyIn", "(II)I"⟩, 53) := ⟨⟨by decide +kernel, by decide +kernel⟩, List.mem_of_getElem? (i := 1322) (by decide +kernel), List.mem_of_getElem? (i := 1819) (by decide +kernel), List.mem_of_getElem? (i := 1820) (by decide +kernel)⟩
theorem lw_p94 : lw_okq (⟨"NextMustShareModel", "tellCost", "(III)I"⟩, 53) := ⟨⟨by decide +kernel, by decide +kernel⟩, List.mem_of_getElem? (i := 1322) (by decide +kernel), List.mem_of_getElem? (i := 1831) (by decide +kernel), List.mem_of_getElem? (i := 1832) (by decide +kernel)⟩
theorem lw_p95 : lw_okq (⟨"NextMustShareModel", "findGame", "()V"⟩, 53) := ⟨⟨by decide +kernel, by decide +kernel⟩, List.mem_of_getElem? (i := 1322) (by decide +kernel), List.mem_of_getElem? (i := 1844) (by decide +kernel), List.mem_of_getElem? (i := 1845) (by decide +kernel)⟩
def lw_privs_6 : List (MethodName × Nat) := [(⟨"NextMustShareModel", "longestBy", "(I)I"⟩, 53), (⟨"NextMustShareModel", "findRows", "(III)V"⟩, 53), (⟨"NextMustShareModel", "may", "(III)Z"⟩, 53), (⟨"NextMustShareModel", "noEnds", "()V"⟩, 53), (⟨"NextMustShareModel", "findEnds", "(I)V"⟩, 53), (⟨"NextMustShareModel", "tellWay", "(III)V"⟩, 53), (⟨"NextMustShareModel", "betweenBy", "(IIZ)I"⟩, 53), (⟨"NextMustShareModel", "tellFrom", "(II)Z"⟩, 53), (⟨"NextMustShareModel", "besides", "(I)I"⟩, 53), (⟨"NextMustShareModel", "tellBest", "(III)I"⟩, 53), (⟨"NextMustShareModel", "findBest", "(IIII)Z"⟩, 53), (⟨"NextMustShareModel", "costIn", "(I)I"⟩, 53), (⟨"NextMustShareModel", "scoreOf", "(II)I"⟩, 53), (⟨"NextMustShareModel", "joyIn", "(II)I"⟩, 53), (⟨"NextMustShareModel", "tellCost", "(III)I"⟩, 53), (⟨"NextMustShareModel", "findGame", "()V"⟩, 53)]
theorem lw_r6 : ∀ q ∈ lw_privs_6, lw_okq q := List.forall_mem_cons.mpr ⟨lw_p80, List.forall_mem_cons.mpr ⟨lw_p81, List.forall_mem_cons.mpr ⟨lw_p82, List.forall_mem_cons.mpr ⟨lw_p83, List.forall_mem_cons.mpr ⟨lw_p84, List.forall_mem_cons.mpr ⟨lw_p85, List.forall_mem_cons.mpr ⟨lw_p86, List.forall_mem_cons.mpr ⟨lw_p87, List.forall_mem_cons.mpr ⟨lw_p88, List.forall_mem_cons.mpr ⟨lw_p89, List.forall_mem_cons.mpr ⟨lw_p90, List.forall_mem_cons.mpr ⟨lw_p91, List.forall_mem_cons.mpr ⟨lw_p92, List.forall_mem_cons.mpr ⟨lw_p93, List.forall_mem_cons.mpr ⟨lw_p94, List.forall_mem_cons.mpr ⟨lw_p95, fun _ h => absurd h List.not_mem_nil⟩⟩⟩⟩⟩⟩⟩⟩⟩⟩⟩⟩⟩⟩⟩⟩
theorem lw_p96 : lw_okq (⟨"NextMustShareModel", "findTurn", "(II)V"⟩, 53) := ⟨⟨by decide +kernel, by decide +kernel⟩, List.mem_of_getElem? (i := 1322) (by decide +kernel), List.mem_of_getElem? (i := 1848) (by decide +kernel), List.mem_of_getElem? (i := 1849) (by decide +kernel)⟩
theorem lw_p97 : lw_okq (⟨"NextMustShareModel", "findGreedy", "(II)V"⟩, 53) := ⟨⟨by decide +kernel, by decide +kernel⟩, List.mem_of_getElem? (i := 1322) (by decide +kernel), List.mem_of_getElem? (i := 1856) (by decide +kernel), List.mem_of_getElem? (i := 1857) (by decide +kernel)⟩
theorem lw_p98 : lw_okq (⟨"NextMustShareModel", "menuAt", "(II)I"⟩, 53) := ⟨⟨by decide +kernel, by decide +kernel⟩, List.mem_of_getElem? (i := 1322) (by decide +kernel), List.mem_of_getElem? (i := 1864) (by decide +kernel), List.mem_of_getElem? (i := 1865) (by decide +kernel)⟩
theorem lw_p99 : lw_okq (⟨"NextMustShareModel", "tellMended", "(II)V"⟩, 53) := ⟨⟨by decide +kernel, by decide +kernel⟩, List.mem_of_getElem? (i := 1322) (by decide +kernel), List.mem_of_getElem? (i := 1868) (by decide +kernel), List.mem_of_getElem? (i := 1869) (by decide +kernel)⟩
theorem lw_p100 : lw_okq (⟨"NextMustShareModel", "findFills", "(I)J"⟩, 53) := ⟨⟨by decide +kernel, by decide +kernel⟩, List.mem_of_getElem? (i := 1322) (by decide +kernel), List.mem_of_getElem? (i := 1877) (by decide +kernel), List.mem_of_getElem? (i := 1878) (by decide +kernel)⟩
theorem lw_p101 : lw_okq (⟨"NextMustShareModel", "isAsked", "(III)Z"⟩, 53) := ⟨⟨by decide +kernel, by decide +kernel⟩, List.mem_of_getElem? (i := 1322) (by decide +kernel), List.mem_of_getElem? (i := 1881) (by decide +kernel), List.mem_of_getElem? (i := 1882) (by decide +kernel)⟩
theorem lw_p102 : lw_okq (⟨"NextMustShareModel", "ateOf", "(II)I"⟩, 53) := ⟨⟨by decide +kernel, by decide +kernel⟩, List.mem_of_getElem? (i := 1322) (by decide +kernel), List.mem_of_getElem? (i := 1901) (by decide +kernel), List.mem_of_getElem? (i := 1902) (by decide +kernel)⟩
theorem lw_p103 : lw_okq (⟨"NextMustShareModel", "canAll", "(I)Z"⟩, 53) := ⟨⟨by decide +kernel, by decide +kernel⟩, List.mem_of_getElem? (i := 1322) (by decide +kernel), List.mem_of_getElem? (i := 1913) (by decide +kernel), List.mem_of_getElem? (i := 1914) (by decide +kernel)⟩
def lw_privs_7 : List (MethodName × Nat) := [(⟨"NextMustShareModel", "findTurn", "(II)V"⟩, 53), (⟨"NextMustShareModel", "findGreedy", "(II)V"⟩, 53), (⟨"NextMustShareModel", "menuAt", "(II)I"⟩, 53), (⟨"NextMustShareModel", "tellMended", "(II)V"⟩, 53), (⟨"NextMustShareModel", "findFills", "(I)J"⟩, 53), (⟨"NextMustShareModel", "isAsked", "(III)Z"⟩, 53), (⟨"NextMustShareModel", "ateOf", "(II)I"⟩, 53), (⟨"NextMustShareModel", "canAll", "(I)Z"⟩, 53)]
theorem lw_r7 : ∀ q ∈ lw_privs_7, lw_okq q := List.forall_mem_cons.mpr ⟨lw_p96, List.forall_mem_cons.mpr ⟨lw_p97, List.forall_mem_cons.mpr ⟨lw_p98, List.forall_mem_cons.mpr ⟨lw_p99, List.forall_mem_cons.mpr ⟨lw_p100, List.forall_mem_cons.mpr ⟨lw_p101, List.forall_mem_cons.mpr ⟨lw_p102, List.forall_mem_cons.mpr ⟨lw_p103, fun _ h => absurd h List.not_mem_nil⟩⟩⟩⟩⟩⟩⟩⟩
def lw_privs : List (MethodName × Nat) := lw_privs_1 ++ (lw_privs_2 ++ (lw_privs_3 ++ (lw_privs_4 ++ (lw_privs_5 ++ (lw_privs_6 ++ (lw_privs_7))))))
def lw_tbl : List Cond := k2_sels lw_privs ++ tables_1
theorem lw_privs_ok : ∀ q ∈ lw_privs, lw_okq q := by
  show ∀ q ∈ lw_privs_1 ++ (lw_privs_2 ++ (lw_privs_3 ++ (lw_privs_4 ++ (lw_privs_5 ++ (lw_privs_6 ++ (lw_privs_7)))))), lw_okq q
  exact List.forall_mem_append.mpr ⟨lw_r1, List.forall_mem_append.mpr ⟨lw_r2, List.forall_mem_append.mpr ⟨lw_r3, List.forall_mem_append.mpr ⟨lw_r4, List.forall_mem_append.mpr ⟨lw_r5, List.forall_mem_append.mpr ⟨lw_r6, lw_r7⟩⟩⟩⟩⟩⟩
def RX0 : String := "NextMustShare$Banquet"
def TX0 : u_T := fun k => match k with
  | 0 => ("NextMustShare$Banquet", "row", "[I", true)
  | 1 => ("NextMustShare$Banquet", "size", "I", false)
  | _ => ("NextMustShare$Banquet", "set", "I", false)
def tyX0 : Nat → FieldType := fun k => match k with
  | 0 => .array .int
  | 1 => .int
  | _ => .int
abbrev wsX00 : List Cond := u_ws RX0 TX0 3
theorem nmX0 : ∀ a, a < 3 → ∀ b, b < 3 → a ≠ b → (TX0 a).2.1 ≠ (TX0 b).2.1 := by decide +kernel
theorem tyX0_ok : ∀ k, k < 3 → parseFieldDescriptor (TX0 k).2.2.1 = some (tyX0 k) := by decide +kernel
abbrev cX0_init : ByteArray := prog_2_method_1_code
def yX0_init : MethodName := ⟨RX0, "<init>", "()V"⟩
abbrev cX0_size : ByteArray := prog_2_method_2_code
def yX0_size : MethodName := ⟨RX0, "size", "()I"⟩
abbrev cX0_set : ByteArray := prog_2_method_3_code
def yX0_set : MethodName := ⟨RX0, "set", "()I"⟩
abbrev cX0_last : ByteArray := prog_2_method_4_code
def yX0_last : MethodName := ⟨RX0, "last", "()I"⟩
abbrev cX0_add : ByteArray := prog_2_method_5_code
def yX0_add : MethodName := ⟨RX0, "add", "(I)V"⟩
abbrev cX0_takeLast : ByteArray := prog_2_method_6_code
def yX0_takeLast : MethodName := ⟨RX0, "takeLast", "()I"⟩
abbrev cX0_clear : ByteArray := prog_2_method_7_code
def yX0_clear : MethodName := ⟨RX0, "clear", "()V"⟩
abbrev cX0_copy : ByteArray := prog_2_method_8_code
def yX0_copy : MethodName := ⟨RX0, "copy", "(LNextMustShare$Banquet;)V"⟩
def RX1 : String := "NextMustShare$Larder"
def TX1 : u_T := fun k => match k with
  | 0 => ("NextMustShare$Larder", "stuffs", "[I", true)
  | 1 => ("NextMustShare$Larder", "costs", "[I", true)
  | 2 => ("NextMustShare$Larder", "heats", "[I", true)
  | 3 => ("NextMustShare$Larder", "hours", "[I", true)
  | 4 => ("NextMustShare$Larder", "loves", "[I", true)
  | 5 => ("NextMustShare$Larder", "bars", "[I", true)
  | 6 => ("NextMustShare$Larder", "holders", "[I", true)
  | 7 => ("NextMustShare$Larder", "dishes", "I", false)
  | _ => ("NextMustShare$Larder", "guests", "I", false)
def tyX1 : Nat → FieldType := fun k => match k with
  | 0 => .array .int
  | 1 => .array .int
  | 2 => .array .int
  | 3 => .array .int
  | 4 => .array .int
  | 5 => .array .int
  | 6 => .array .int
  | 7 => .int
  | _ => .int
abbrev wsX10 : List Cond := u_ws RX1 TX1 9
theorem nmX1 : ∀ a, a < 9 → ∀ b, b < 9 → a ≠ b → (TX1 a).2.1 ≠ (TX1 b).2.1 := by decide +kernel
theorem tyX1_ok : ∀ k, k < 9 → parseFieldDescriptor (TX1 k).2.2.1 = some (tyX1 k) := by decide +kernel
abbrev cX1_init : ByteArray := prog_3_method_1_code
def yX1_init : MethodName := ⟨RX1, "<init>", "()V"⟩
abbrev cX1_dishes : ByteArray := prog_3_method_2_code
def yX1_dishes : MethodName := ⟨RX1, "dishes", "()I"⟩
abbrev cX1_guests : ByteArray := prog_3_method_3_code
def yX1_guests : MethodName := ⟨RX1, "guests", "()I"⟩
abbrev cX1_hasDish : ByteArray := prog_3_method_4_code
def yX1_hasDish : MethodName := ⟨RX1, "hasDish", "(I)Z"⟩
abbrev cX1_hasGuest : ByteArray := prog_3_method_5_code
def yX1_hasGuest : MethodName := ⟨RX1, "hasGuest", "(I)Z"⟩
abbrev cX1_all : ByteArray := prog_3_method_6_code
def yX1_all : MethodName := ⟨RX1, "all", "()I"⟩
abbrev cX1_stuffsOf : ByteArray := prog_3_method_7_code
def yX1_stuffsOf : MethodName := ⟨RX1, "stuffsOf", "(I)I"⟩
abbrev cX1_costOf : ByteArray := prog_3_method_8_code
def yX1_costOf : MethodName := ⟨RX1, "costOf", "(I)I"⟩
abbrev cX1_heatOf : ByteArray := prog_3_method_9_code
def yX1_heatOf : MethodName := ⟨RX1, "heatOf", "(I)I"⟩
abbrev cX1_hoursOf : ByteArray := prog_3_method_10_code
def yX1_hoursOf : MethodName := ⟨RX1, "hoursOf", "(I)I"⟩
abbrev cX1_lovedBy : ByteArray := prog_3_method_11_code
def yX1_lovedBy : MethodName := ⟨RX1, "lovedBy", "(I)I"⟩
abbrev cX1_barredBy : ByteArray := prog_3_method_12_code
def yX1_barredBy : MethodName := ⟨RX1, "barredBy", "(I)I"⟩
abbrev cX1_holdersOf : ByteArray := prog_3_method_13_code
def yX1_holdersOf : MethodName := ⟨RX1, "holdersOf", "(I)I"⟩
abbrev cX1_draftDish : ByteArray := prog_3_method_14_code
def yX1_draftDish : MethodName := ⟨RX1, "draftDish", "(IIIII)V"⟩
abbrev cX1_draftGuest : ByteArray := prog_3_method_15_code
def yX1_draftGuest : MethodName := ⟨RX1, "draftGuest", "(III)V"⟩
abbrev cX1_takeIn : ByteArray := prog_3_method_16_code
def yX1_takeIn : MethodName := ⟨RX1, "takeIn", "(II)V"⟩
abbrev cX1_price : ByteArray := prog_3_method_17_code
def yX1_price : MethodName := ⟨RX1, "price", "(II)V"⟩
abbrev cX1_costOfAll : ByteArray := prog_3_method_18_code
def yX1_costOfAll : MethodName := ⟨RX1, "costOfAll", "(I)I"⟩
abbrev cX1_isHungry : ByteArray := prog_3_method_19_code
def yX1_isHungry : MethodName := ⟨RX1, "isHungry", "(II)Z"⟩
abbrev cX1_hungryAt : ByteArray := prog_3_method_20_code
def yX1_hungryAt : MethodName := ⟨RX1, "hungryAt", "(I)I"⟩
abbrev cX1_barredTo : ByteArray := prog_3_method_21_code
def yX1_barredTo : MethodName := ⟨RX1, "barredTo", "(I)I"⟩
abbrev cX1_barredToNobody : ByteArray := prog_3_method_22_code
def yX1_barredToNobody : MethodName := ⟨RX1, "barredToNobody", "()I"⟩
abbrev cX1_hotDishes : ByteArray := prog_3_method_23_code
def yX1_hotDishes : MethodName := ⟨RX1, "hotDishes", "()I"⟩
abbrev cX1_holdersOfSome : ByteArray := prog_3_method_24_code
def yX1_holdersOfSome : MethodName := ⟨RX1, "holdersOfSome", "(II)I"⟩
abbrev cX1_sharing : ByteArray := prog_3_method_25_code
def yX1_sharing : MethodName := ⟨RX1, "sharing", "(II)I"⟩
abbrev cX1_partOf : ByteArray := prog_3_method_26_code
def yX1_partOf : MethodName := ⟨RX1, "partOf", "(II)I"⟩
def RX2 : String := "NextMustShare$Law"
def TX2 : u_T := fun k => match k with
  | 0 => ("NextMustShare$Law", "stores", "[I", true)
  | 1 => ("NextMustShare$Law", "share", "I", false)
  | 2 => ("NextMustShare$Law", "times", "I", false)
  | _ => ("NextMustShare$Law", "heat", "I", false)
def tyX2 : Nat → FieldType := fun k => match k with
  | 0 => .array .int
  | 1 => .int
  | 2 => .int
  | _ => .int
abbrev wsX20 : List Cond := u_ws RX2 TX2 4
theorem nmX2 : ∀ a, a < 4 → ∀ b, b < 4 → a ≠ b → (TX2 a).2.1 ≠ (TX2 b).2.1 := by decide +kernel
theorem tyX2_ok : ∀ k, k < 4 → parseFieldDescriptor (TX2 k).2.2.1 = some (tyX2 k) := by decide +kernel
abbrev cX2_init : ByteArray := prog_4_method_1_code
def yX2_init : MethodName := ⟨RX2, "<init>", "()V"⟩
abbrev cX2_allows : ByteArray := prog_4_method_2_code
def yX2_allows : MethodName := ⟨RX2, "allows", "(II)Z"⟩
abbrev cX2_share : ByteArray := prog_4_method_3_code
def yX2_share : MethodName := ⟨RX2, "share", "()I"⟩
abbrev cX2_heat : ByteArray := prog_4_method_4_code
def yX2_heat : MethodName := ⟨RX2, "heat", "()I"⟩
abbrev cX2_most : ByteArray := prog_4_method_5_code
def yX2_most : MethodName := ⟨RX2, "most", "(I)I"⟩
abbrev cX2_change : ByteArray := prog_4_method_6_code
def yX2_change : MethodName := ⟨RX2, "change", "(II)I"⟩
abbrev cX2_restock : ByteArray := prog_4_method_7_code
def yX2_restock : MethodName := ⟨RX2, "restock", "(II)I"⟩
abbrev cX2_copy : ByteArray := prog_4_method_8_code
def yX2_copy : MethodName := ⟨RX2, "copy", "(LNextMustShare$Law;)V"⟩
abbrev cX2_useUp : ByteArray := prog_4_method_9_code
def yX2_useUp : MethodName := ⟨RX2, "useUp", "(LNextMustShare$Larder;I)V"⟩
abbrev cX2_refusal : ByteArray := prog_4_method_10_code
def yX2_refusal : MethodName := ⟨RX2, "refusal", "(LNextMustShare$Larder;III)I"⟩
abbrev cX2_isAgainstHeat : ByteArray := prog_4_method_11_code
def yX2_isAgainstHeat : MethodName := ⟨RX2, "isAgainstHeat", "(IIII)Z"⟩
def RX3 : String := "NextMustShare$Match"
def TX3 : u_T := fun k => match k with
  | 0 => ("NextMustShare$Match", "values", "[I", true)
  | _ => ("NextMustShare$Match", "joys", "[I", true)
def tyX3 : Nat → FieldType := fun k => match k with
  | 0 => .array .int
  | _ => .array .int
abbrev wsX30 : List Cond := u_ws RX3 TX3 2
theorem nmX3 : ∀ a, a < 2 → ∀ b, b < 2 → a ≠ b → (TX3 a).2.1 ≠ (TX3 b).2.1 := by decide +kernel
theorem tyX3_ok : ∀ k, k < 2 → parseFieldDescriptor (TX3 k).2.2.1 = some (tyX3 k) := by decide +kernel
abbrev cX3_init : ByteArray := prog_5_method_1_code
def yX3_init : MethodName := ⟨RX3, "<init>", "()V"⟩
abbrev cX3_value : ByteArray := prog_5_method_2_code
def yX3_value : MethodName := ⟨RX3, "value", "(II)I"⟩
abbrev cX3_setValue : ByteArray := prog_5_method_3_code
def yX3_setValue : MethodName := ⟨RX3, "setValue", "(III)V"⟩
abbrev cX3_countRows : ByteArray := prog_5_method_4_code
def yX3_countRows : MethodName := ⟨RX3, "countRows", "(LNextMustShare$Steps;I)J"⟩
abbrev cX3_countOn : ByteArray := prog_5_method_5_code
def yX3_countOn : MethodName := ⟨RX3, "countOn", "(LNextMustShare$Steps;I)V"⟩
abbrev cX3_countWith : ByteArray := prog_5_method_6_code
def yX3_countWith : MethodName := ⟨RX3, "countWith", "(II)I"⟩
abbrev cX3_mending : ByteArray := prog_5_method_7_code
def yX3_mending : MethodName := ⟨RX3, "mending", "(LNextMustShare$Steps;LNextMustShare$Menu;LNextMustShare$Row;)I"⟩
abbrev cX3_fewestChanges : ByteArray := prog_5_method_8_code
def yX3_fewestChanges : MethodName := ⟨RX3, "fewestChanges", "(IILNextMustShare$Menu;)I"⟩
abbrev cX3_changesWith : ByteArray := prog_5_method_9_code
def yX3_changesWith : MethodName := ⟨RX3, "changesWith", "(IILNextMustShare$Menu;)I"⟩
abbrev cX3_tellMended : ByteArray := prog_5_method_10_code
def yX3_tellMended : MethodName := ⟨RX3, "tellMended", "(LNextMustShare$Steps;LNextMustShare$Menu;LNextMustShare$Row;)V"⟩
abbrev cX3_playBoth : ByteArray := prog_5_method_11_code
def yX3_playBoth : MethodName := ⟨RX3, "playBoth", "(LNextMustShare$Steps;LNextMustShare$Row;)I"⟩
abbrev cX3_playGreedy : ByteArray := prog_5_method_12_code
def yX3_playGreedy : MethodName := ⟨RX3, "playGreedy", "(LNextMustShare$Steps;LNextMustShare$Larder;LNextMustShare$Taste;LNextMustShare$Row;)I"⟩
abbrev cX3_worthToOther : ByteArray := prog_5_method_13_code
def yX3_worthToOther : MethodName := ⟨RX3, "worthToOther", "(III)I"⟩
abbrev cX3_mostJoyful : ByteArray := prog_5_method_14_code
def yX3_mostJoyful : MethodName := ⟨RX3, "mostJoyful", "(I)I"⟩
abbrev cX3_leastFor : ByteArray := prog_5_method_15_code
def yX3_leastFor : MethodName := ⟨RX3, "leastFor", "(II)I"⟩
def RX4 : String := "NextMustShare$Menu"
def TX4 : u_T := fun k => match k with
  | 0 => ("NextMustShare$Menu", "places", "[I", true)
  | 1 => ("NextMustShare$Menu", "free", "[I", true)
  | _ => ("NextMustShare$Menu", "size", "I", false)
def tyX4 : Nat → FieldType := fun k => match k with
  | 0 => .array .int
  | 1 => .array .int
  | _ => .int
abbrev wsX40 : List Cond := u_ws RX4 TX4 3
theorem nmX4 : ∀ a, a < 3 → ∀ b, b < 3 → a ≠ b → (TX4 a).2.1 ≠ (TX4 b).2.1 := by decide +kernel
theorem tyX4_ok : ∀ k, k < 3 → parseFieldDescriptor (TX4 k).2.2.1 = some (tyX4 k) := by decide +kernel
abbrev cX4_init : ByteArray := prog_6_method_1_code
def yX4_init : MethodName := ⟨RX4, "<init>", "(I)V"⟩
abbrev cX4_size : ByteArray := prog_6_method_2_code
def yX4_size : MethodName := ⟨RX4, "size", "()I"⟩
abbrev cX4_at : ByteArray := prog_6_method_3_code
def yX4_at : MethodName := ⟨RX4, "at", "(I)I"⟩
abbrev cX4_isKnown : ByteArray := prog_6_method_4_code
def yX4_isKnown : MethodName := ⟨RX4, "isKnown", "()Z"⟩
abbrev cX4_clear : ByteArray := prog_6_method_5_code
def yX4_clear : MethodName := ⟨RX4, "clear", "()V"⟩
abbrev cX4_addAll : ByteArray := prog_6_method_6_code
def yX4_addAll : MethodName := ⟨RX4, "addAll", "(LNextMustShare$Menu;)V"⟩
abbrev cX4_read : ByteArray := prog_6_method_7_code
def yX4_read : MethodName := ⟨RX4, "read", "(LNextMustShare$Text;I)I"⟩
abbrev cX4_exchange : ByteArray := prog_6_method_8_code
def yX4_exchange : MethodName := ⟨RX4, "exchange", "(II)Z"⟩
abbrev cX4_reverse : ByteArray := prog_6_method_9_code
def yX4_reverse : MethodName := ⟨RX4, "reverse", "()V"⟩
abbrev cX4_put : ByteArray := prog_6_method_10_code
def yX4_put : MethodName := ⟨RX4, "put", "(II)V"⟩
abbrev cX4_fault : ByteArray := prog_6_method_11_code
def yX4_fault : MethodName := ⟨RX4, "fault", "(LNextMustShare$Larder;LNextMustShare$Law;)I"⟩
abbrev cX4_whyAt : ByteArray := prog_6_method_12_code
def yX4_whyAt : MethodName := ⟨RX4, "whyAt", "(ILNextMustShare$Larder;LNextMustShare$Law;)I"⟩
abbrev cX4_setTill : ByteArray := prog_6_method_13_code
def yX4_setTill : MethodName := ⟨RX4, "setTill", "(I)I"⟩
abbrev cX4_costTill : ByteArray := prog_6_method_14_code
def yX4_costTill : MethodName := ⟨RX4, "costTill", "(ILNextMustShare$Larder;)I"⟩
abbrev cX4_hungryTill : ByteArray := prog_6_method_15_code
def yX4_hungryTill : MethodName := ⟨RX4, "hungryTill", "(ILNextMustShare$Larder;)I"⟩
abbrev cX4_mostAtOnce : ByteArray := prog_6_method_16_code
def yX4_mostAtOnce : MethodName := ⟨RX4, "mostAtOnce", "(LNextMustShare$Larder;)I"⟩
abbrev cX4_cook : ByteArray := prog_6_method_17_code
def yX4_cook : MethodName := ⟨RX4, "cook", "(LNextMustShare$Larder;ILNextMustShare$Row;)I"⟩
abbrev cX4_placesEaten : ByteArray := prog_6_method_18_code
def yX4_placesEaten : MethodName := ⟨RX4, "placesEaten", "(LNextMustShare$Larder;I)I"⟩
abbrev cX4_stuffsEaten : ByteArray := prog_6_method_19_code
def yX4_stuffsEaten : MethodName := ⟨RX4, "stuffsEaten", "(LNextMustShare$Larder;I)I"⟩
def RX5 : String := "NextMustShare$Plan"
def TX5 : u_T := fun k => match k with
  | 0 => ("NextMustShare$Plan", "weights", "[[I", true)
  | 1 => ("NextMustShare$Plan", "goals", "[I", true)
  | 2 => ("NextMustShare$Plan", "costs", "[I", true)
  | 3 => ("NextMustShare$Plan", "follow", "[I", true)
  | 4 => ("NextMustShare$Plan", "lines", "I", false)
  | 5 => ("NextMustShare$Plan", "lasts", "I", false)
  | 6 => ("NextMustShare$Plan", "purse", "I", false)
  | _ => ("NextMustShare$Plan", "more", "I", false)
def tyX5 : Nat → FieldType := fun k => match k with
  | 0 => .array (.array .int)
  | 1 => .array .int
  | 2 => .array .int
  | 3 => .array .int
  | 4 => .int
  | 5 => .int
  | 6 => .int
  | _ => .int
abbrev wsX50 : List Cond := u_ws RX5 TX5 8
theorem nmX5 : ∀ a, a < 8 → ∀ b, b < 8 → a ≠ b → (TX5 a).2.1 ≠ (TX5 b).2.1 := by decide +kernel
theorem tyX5_ok : ∀ k, k < 8 → parseFieldDescriptor (TX5 k).2.2.1 = some (tyX5 k) := by decide +kernel
abbrev cX5_init : ByteArray := prog_7_method_1_code
def yX5_init : MethodName := ⟨RX5, "<init>", "()V"⟩
abbrev cX5_begin : ByteArray := prog_7_method_2_code
def yX5_begin : MethodName := ⟨RX5, "begin", "()V"⟩
abbrev cX5_addLine : ByteArray := prog_7_method_3_code
def yX5_addLine : MethodName := ⟨RX5, "addLine", "()V"⟩
abbrev cX5_weigh : ByteArray := prog_7_method_4_code
def yX5_weigh : MethodName := ⟨RX5, "weigh", "(II)V"⟩
abbrev cX5_weighAll : ByteArray := prog_7_method_5_code
def yX5_weighAll : MethodName := ⟨RX5, "weighAll", "(LNextMustShare$Larder;I)V"⟩
abbrev cX5_endWith : ByteArray := prog_7_method_6_code
def yX5_endWith : MethodName := ⟨RX5, "endWith", "(I)V"⟩
abbrev cX5_limit : ByteArray := prog_7_method_7_code
def yX5_limit : MethodName := ⟨RX5, "limit", "(LNextMustShare$Larder;I)V"⟩
abbrev cX5_greatest : ByteArray := prog_7_method_8_code
def yX5_greatest : MethodName := ⟨RX5, "greatest", "(LNextMustShare$Steps;II)I"⟩
abbrev cX5_seek : ByteArray := prog_7_method_9_code
def yX5_seek : MethodName := ⟨RX5, "seek", "(LNextMustShare$Steps;II)I"⟩
abbrev cX5_isGoal : ByteArray := prog_7_method_10_code
def yX5_isGoal : MethodName := ⟨RX5, "isGoal", "(LNextMustShare$Steps;III)Z"⟩
abbrev cX5_worth : ByteArray := prog_7_method_11_code
def yX5_worth : MethodName := ⟨RX5, "worth", "(LNextMustShare$Steps;I)I"⟩
abbrev cX5_sum : ByteArray := prog_7_method_12_code
def yX5_sum : MethodName := ⟨RX5, "sum", "([II)I"⟩
abbrev cX5_lead : ByteArray := prog_7_method_13_code
def yX5_lead : MethodName := ⟨RX5, "lead", "(LNextMustShare$Steps;)V"⟩
abbrev cX5_isMarked : ByteArray := prog_7_method_14_code
def yX5_isMarked : MethodName := ⟨RX5, "isMarked", "(II)Z"⟩
abbrev cX5_tell : ByteArray := prog_7_method_15_code
def yX5_tell : MethodName := ⟨RX5, "tell", "(LNextMustShare$Steps;LNextMustShare$Row;)V"⟩
abbrev cX5_possibleAt : ByteArray := prog_7_method_16_code
def yX5_possibleAt : MethodName := ⟨RX5, "possibleAt", "(LNextMustShare$Steps;I)I"⟩
abbrev cX5_joiningStuffs : ByteArray := prog_7_method_17_code
def yX5_joiningStuffs : MethodName := ⟨RX5, "joiningStuffs", "(LNextMustShare$Steps;LNextMustShare$Larder;LNextMustShare$Law;)I"⟩
abbrev cX5_findBeginnings : ByteArray := prog_7_method_18_code
def yX5_findBeginnings : MethodName := ⟨RX5, "findBeginnings", "(LNextMustShare$Steps;)V"⟩
abbrev cX5_isHeatLost : ByteArray := prog_7_method_19_code
def yX5_isHeatLost : MethodName := ⟨RX5, "isHeatLost", "(LNextMustShare$Steps;II)Z"⟩
abbrev cX5_findGaps : ByteArray := prog_7_method_20_code
def yX5_findGaps : MethodName := ⟨RX5, "findGaps", "(LNextMustShare$Steps;I)V"⟩
abbrev cX5_joins : ByteArray := prog_7_method_21_code
def yX5_joins : MethodName := ⟨RX5, "joins", "(ILNextMustShare$Larder;LNextMustShare$Law;)Z"⟩
def RX6 : String := "NextMustShare$Reader"
def TX6 : u_T := fun k => match k with
  | 0 => ("NextMustShare$Reader", "place", "I", false)
  | 1 => ("NextMustShare$Reader", "dishes", "I", false)
  | _ => ("NextMustShare$Reader", "guests", "I", false)
def tyX6 : Nat → FieldType := fun k => match k with
  | 0 => .int
  | 1 => .int
  | _ => .int
abbrev wsX60 : List Cond := u_ws RX6 TX6 3
theorem nmX6 : ∀ a, a < 3 → ∀ b, b < 3 → a ≠ b → (TX6 a).2.1 ≠ (TX6 b).2.1 := by decide +kernel
theorem tyX6_ok : ∀ k, k < 3 → parseFieldDescriptor (TX6 k).2.2.1 = some (tyX6 k) := by decide +kernel
abbrev cX6_init : ByteArray := prog_8_method_1_code
def yX6_init : MethodName := ⟨RX6, "<init>", "()V"⟩
abbrev cX6_read : ByteArray := prog_8_method_2_code
def yX6_read : MethodName := ⟨RX6, "read", "(LNextMustShare$Text;LNextMustShare$Larder;)I"⟩
abbrev cX6_readLine : ByteArray := prog_8_method_3_code
def yX6_readLine : MethodName := ⟨RX6, "readLine", "(LNextMustShare$Text;LNextMustShare$Larder;)Z"⟩
abbrev cX6_readGuest : ByteArray := prog_8_method_4_code
def yX6_readGuest : MethodName := ⟨RX6, "readGuest", "(LNextMustShare$Text;LNextMustShare$Larder;)Z"⟩
abbrev cX6_readDish : ByteArray := prog_8_method_5_code
def yX6_readDish : MethodName := ⟨RX6, "readDish", "(LNextMustShare$Text;LNextMustShare$Larder;)Z"⟩
abbrev cX6_readDigit : ByteArray := prog_8_method_6_code
def yX6_readDigit : MethodName := ⟨RX6, "readDigit", "(LNextMustShare$Text;)I"⟩
abbrev cX6_readStuffs : ByteArray := prog_8_method_7_code
def yX6_readStuffs : MethodName := ⟨RX6, "readStuffs", "(LNextMustShare$Text;)I"⟩
def RX7 : String := "NextMustShare$Row"
def TX7 : u_T := fun k => match k with
  | 0 => ("NextMustShare$Row", "numbers", "[I", true)
  | _ => ("NextMustShare$Row", "size", "I", false)
def tyX7 : Nat → FieldType := fun k => match k with
  | 0 => .array .int
  | _ => .int
abbrev wsX70 : List Cond := u_ws RX7 TX7 2
theorem nmX7 : ∀ a, a < 2 → ∀ b, b < 2 → a ≠ b → (TX7 a).2.1 ≠ (TX7 b).2.1 := by decide +kernel
theorem tyX7_ok : ∀ k, k < 2 → parseFieldDescriptor (TX7 k).2.2.1 = some (tyX7 k) := by decide +kernel
abbrev cX7_init : ByteArray := prog_9_method_1_code
def yX7_init : MethodName := ⟨RX7, "<init>", "()V"⟩
abbrev cX7_size : ByteArray := prog_9_method_2_code
def yX7_size : MethodName := ⟨RX7, "size", "()I"⟩
abbrev cX7_at : ByteArray := prog_9_method_3_code
def yX7_at : MethodName := ⟨RX7, "at", "(I)I"⟩
abbrev cX7_clear : ByteArray := prog_9_method_4_code
def yX7_clear : MethodName := ⟨RX7, "clear", "()V"⟩
abbrev cX7_add : ByteArray := prog_9_method_5_code
def yX7_add : MethodName := ⟨RX7, "add", "(I)V"⟩
def RX8 : String := "NextMustShare$Steps"
def TX8 : u_T := fun k => match k with
  | 0 => ("NextMustShare$Steps", "fits", "[Z", true)
  | 1 => ("NextMustShare$Steps", "ends", "[I", true)
  | 2 => ("NextMustShare$Steps", "near", "[I", true)
  | 3 => ("NextMustShare$Steps", "allowed", "[I", true)
  | 4 => ("NextMustShare$Steps", "holders", "[I", true)
  | 5 => ("NextMustShare$Steps", "most", "[I", true)
  | 6 => ("NextMustShare$Steps", "dishes", "I", false)
  | 7 => ("NextMustShare$Steps", "hot", "I", false)
  | 8 => ("NextMustShare$Steps", "hotStaysHot", "Z", false)
  | 9 => ("NextMustShare$Steps", "from", "I", false)
  | _ => ("NextMustShare$Steps", "start", "I", false)
def tyX8 : Nat → FieldType := fun k => match k with
  | 0 => .array .boolean
  | 1 => .array .int
  | 2 => .array .int
  | 3 => .array .int
  | 4 => .array .int
  | 5 => .array .int
  | 6 => .int
  | 7 => .int
  | 8 => .boolean
  | 9 => .int
  | _ => .int
abbrev wsX80 : List Cond := u_ws RX8 TX8 11
theorem nmX8 : ∀ a, a < 11 → ∀ b, b < 11 → a ≠ b → (TX8 a).2.1 ≠ (TX8 b).2.1 := by decide +kernel
theorem tyX8_ok : ∀ k, k < 11 → parseFieldDescriptor (TX8 k).2.2.1 = some (tyX8 k) := by decide +kernel
abbrev cX8_init : ByteArray := prog_10_method_1_code
def yX8_init : MethodName := ⟨RX8, "<init>", "()V"⟩
abbrev cX8_learn : ByteArray := prog_10_method_2_code
def yX8_learn : MethodName := ⟨RX8, "learn", "(LNextMustShare$Larder;LNextMustShare$Law;)V"⟩
abbrev cX8_isStocked : ByteArray := prog_10_method_3_code
def yX8_isStocked : MethodName := ⟨RX8, "isStocked", "(I)Z"⟩
abbrev cX8_begin : ByteArray := prog_10_method_4_code
def yX8_begin : MethodName := ⟨RX8, "begin", "(III)V"⟩
abbrev cX8_allow : ByteArray := prog_10_method_5_code
def yX8_allow : MethodName := ⟨RX8, "allow", "(II)V"⟩
abbrev cX8_dishes : ByteArray := prog_10_method_6_code
def yX8_dishes : MethodName := ⟨RX8, "dishes", "()I"⟩
abbrev cX8_sets : ByteArray := prog_10_method_7_code
def yX8_sets : MethodName := ⟨RX8, "sets", "()I"⟩
abbrev cX8_from : ByteArray := prog_10_method_8_code
def yX8_from : MethodName := ⟨RX8, "from", "()I"⟩
abbrev cX8_start : ByteArray := prog_10_method_9_code
def yX8_start : MethodName := ⟨RX8, "start", "()I"⟩
abbrev cX8_hot : ByteArray := prog_10_method_10_code
def yX8_hot : MethodName := ⟨RX8, "hot", "()I"⟩
abbrev cX8_isHotToStay : ByteArray := prog_10_method_11_code
def yX8_isHotToStay : MethodName := ⟨RX8, "isHotToStay", "()Z"⟩
abbrev cX8_near : ByteArray := prog_10_method_12_code
def yX8_near : MethodName := ⟨RX8, "near", "(I)I"⟩
abbrev cX8_fits : ByteArray := prog_10_method_13_code
def yX8_fits : MethodName := ⟨RX8, "fits", "(I)Z"⟩
abbrev cX8_ends : ByteArray := prog_10_method_14_code
def yX8_ends : MethodName := ⟨RX8, "ends", "(I)I"⟩
abbrev cX8_more : ByteArray := prog_10_method_15_code
def yX8_more : MethodName := ⟨RX8, "more", "(I)I"⟩
abbrev cX8_open : ByteArray := prog_10_method_16_code
def yX8_open : MethodName := ⟨RX8, "open", "(I)I"⟩
abbrev cX8_reach : ByteArray := prog_10_method_17_code
def yX8_reach : MethodName := ⟨RX8, "reach", "()V"⟩
abbrev cX8_inSetsAbove : ByteArray := prog_10_method_18_code
def yX8_inSetsAbove : MethodName := ⟨RX8, "inSetsAbove", "(I)I"⟩
def RX9 : String := "NextMustShare$Taste"
def TX9 : u_T := fun k => match k with
  | 0 => ("NextMustShare$Taste", "codes", "[I", true)
  | 1 => ("NextMustShare$Taste", "draft", "[I", true)
  | 2 => ("NextMustShare$Taste", "stack", "[I", true)
  | 3 => ("NextMustShare$Taste", "size", "I", false)
  | 4 => ("NextMustShare$Taste", "drafted", "I", false)
  | 5 => ("NextMustShare$Taste", "top", "I", false)
  | _ => ("NextMustShare$Taste", "place", "I", false)
def tyX9 : Nat → FieldType := fun k => match k with
  | 0 => .array .int
  | 1 => .array .int
  | 2 => .array .int
  | 3 => .int
  | 4 => .int
  | 5 => .int
  | _ => .int
abbrev wsX90 : List Cond := u_ws RX9 TX9 7
theorem nmX9 : ∀ a, a < 7 → ∀ b, b < 7 → a ≠ b → (TX9 a).2.1 ≠ (TX9 b).2.1 := by decide +kernel
theorem tyX9_ok : ∀ k, k < 7 → parseFieldDescriptor (TX9 k).2.2.1 = some (tyX9 k) := by decide +kernel
abbrev cX9_init : ByteArray := prog_11_method_1_code
def yX9_init : MethodName := ⟨RX9, "<init>", "()V"⟩
abbrev cX9_read : ByteArray := prog_11_method_2_code
def yX9_read : MethodName := ⟨RX9, "read", "(LNextMustShare$Text;)I"⟩
abbrev cX9_readExpression : ByteArray := prog_11_method_3_code
def yX9_readExpression : MethodName := ⟨RX9, "readExpression", "(LNextMustShare$Text;I)Z"⟩
abbrev cX9_readSum : ByteArray := prog_11_method_4_code
def yX9_readSum : MethodName := ⟨RX9, "readSum", "(LNextMustShare$Text;I)Z"⟩
abbrev cX9_readProduct : ByteArray := prog_11_method_5_code
def yX9_readProduct : MethodName := ⟨RX9, "readProduct", "(LNextMustShare$Text;I)Z"⟩
abbrev cX9_readFactor : ByteArray := prog_11_method_6_code
def yX9_readFactor : MethodName := ⟨RX9, "readFactor", "(LNextMustShare$Text;I)Z"⟩
abbrev cX9_readThing : ByteArray := prog_11_method_7_code
def yX9_readThing : MethodName := ⟨RX9, "readThing", "(LNextMustShare$Text;I)Z"⟩
abbrev cX9_readBracket : ByteArray := prog_11_method_8_code
def yX9_readBracket : MethodName := ⟨RX9, "readBracket", "(LNextMustShare$Text;I)Z"⟩
abbrev cX9_readNumber : ByteArray := prog_11_method_9_code
def yX9_readNumber : MethodName := ⟨RX9, "readNumber", "(LNextMustShare$Text;)V"⟩
abbrev cX9_isQuality : ByteArray := prog_11_method_10_code
def yX9_isQuality : MethodName := ⟨RX9, "isQuality", "(I)Z"⟩
abbrev cX9_emit : ByteArray := prog_11_method_11_code
def yX9_emit : MethodName := ⟨RX9, "emit", "(I)V"⟩
abbrev cX9_of : ByteArray := prog_11_method_12_code
def yX9_of : MethodName := ⟨RX9, "of", "(LNextMustShare$Larder;II)I"⟩
abbrev cX9_ofAll : ByteArray := prog_11_method_13_code
def yX9_ofAll : MethodName := ⟨RX9, "ofAll", "(LNextMustShare$Larder;I)I"⟩
abbrev cX9_push : ByteArray := prog_11_method_14_code
def yX9_push : MethodName := ⟨RX9, "push", "(I)V"⟩
abbrev cX9_pop : ByteArray := prog_11_method_15_code
def yX9_pop : MethodName := ⟨RX9, "pop", "()I"⟩
abbrev cX9_quality : ByteArray := prog_11_method_16_code
def yX9_quality : MethodName := ⟨RX9, "quality", "(ILNextMustShare$Larder;II)I"⟩
abbrev cX9_result : ByteArray := prog_11_method_17_code
def yX9_result : MethodName := ⟨RX9, "result", "(III)I"⟩
def RX10 : String := "NextMustShare$Text"
def TX10 : u_T := fun k => match k with
  | 0 => ("NextMustShare$Text", "signs", "[I", true)
  | _ => ("NextMustShare$Text", "length", "I", false)
def tyX10 : Nat → FieldType := fun k => match k with
  | 0 => .array .int
  | _ => .int
abbrev wsX100 : List Cond := u_ws RX10 TX10 2
theorem nmX10 : ∀ a, a < 2 → ∀ b, b < 2 → a ≠ b → (TX10 a).2.1 ≠ (TX10 b).2.1 := by decide +kernel
theorem tyX10_ok : ∀ k, k < 2 → parseFieldDescriptor (TX10 k).2.2.1 = some (tyX10 k) := by decide +kernel
abbrev cX10_init : ByteArray := prog_12_method_1_code
def yX10_init : MethodName := ⟨RX10, "<init>", "()V"⟩
abbrev cX10_length : ByteArray := prog_12_method_2_code
def yX10_length : MethodName := ⟨RX10, "length", "()I"⟩
abbrev cX10_append : ByteArray := prog_12_method_3_code
def yX10_append : MethodName := ⟨RX10, "append", "(I)Z"⟩
abbrev cX10_cutTo : ByteArray := prog_12_method_4_code
def yX10_cutTo : MethodName := ⟨RX10, "cutTo", "(I)Z"⟩
abbrev cX10_clear : ByteArray := prog_12_method_5_code
def yX10_clear : MethodName := ⟨RX10, "clear", "()V"⟩
abbrev cX10_at : ByteArray := prog_12_method_6_code
def yX10_at : MethodName := ⟨RX10, "at", "(II)I"⟩
abbrev cX10_hasDigit : ByteArray := prog_12_method_7_code
def yX10_hasDigit : MethodName := ⟨RX10, "hasDigit", "(II)Z"⟩
def RX11 : String := "NextMustShare"
def TX11 : u_T := fun k => match k with
  | 0 => ("NextMustShare", "text", "LNextMustShare$Text;", true)
  | 1 => ("NextMustShare", "larder", "LNextMustShare$Larder;", true)
  | 2 => ("NextMustShare", "reader", "LNextMustShare$Reader;", true)
  | 3 => ("NextMustShare", "taste", "LNextMustShare$Taste;", true)
  | 4 => ("NextMustShare", "rules", "LNextMustShare$Law;", true)
  | 5 => ("NextMustShare", "otherRules", "LNextMustShare$Law;", true)
  | 6 => ("NextMustShare", "table", "LNextMustShare$Banquet;", true)
  | 7 => ("NextMustShare", "menus", "[LNextMustShare$Menu;", true)
  | 8 => ("NextMustShare", "bothMenus", "LNextMustShare$Menu;", true)
  | 9 => ("NextMustShare", "keptRules", "[LNextMustShare$Law;", true)
  | 10 => ("NextMustShare", "keptTables", "[LNextMustShare$Banquet;", true)
  | 11 => ("NextMustShare", "keptDishes", "[I", true)
  | 12 => ("NextMustShare", "steps", "LNextMustShare$Steps;", true)
  | 13 => ("NextMustShare", "plan", "LNextMustShare$Plan;", true)
  | 14 => ("NextMustShare", "match", "LNextMustShare$Match;", true)
  | _ => ("NextMustShare", "told", "LNextMustShare$Row;", true)
def tyX11 : Nat → FieldType := fun k => match k with
  | 0 => .object "NextMustShare$Text"
  | 1 => .object "NextMustShare$Larder"
  | 2 => .object "NextMustShare$Reader"
  | 3 => .object "NextMustShare$Taste"
  | 4 => .object "NextMustShare$Law"
  | 5 => .object "NextMustShare$Law"
  | 6 => .object "NextMustShare$Banquet"
  | 7 => .array (.object "NextMustShare$Menu")
  | 8 => .object "NextMustShare$Menu"
  | 9 => .array (.object "NextMustShare$Law")
  | 10 => .array (.object "NextMustShare$Banquet")
  | 11 => .array .int
  | 12 => .object "NextMustShare$Steps"
  | 13 => .object "NextMustShare$Plan"
  | 14 => .object "NextMustShare$Match"
  | _ => .object "NextMustShare$Row"
abbrev wsX110 : List Cond := u_ws RX11 TX11 16
theorem nmX11 : ∀ a, a < 16 → ∀ b, b < 16 → a ≠ b → (TX11 a).2.1 ≠ (TX11 b).2.1 := by decide +kernel
theorem tyX11_ok : ∀ k, k < 16 → parseFieldDescriptor (TX11 k).2.2.1 = some (tyX11 k) := by decide +kernel
abbrev cX11_init : ByteArray := prog_1_method_1_code
def yX11_init : MethodName := ⟨RX11, "<init>", "()V"⟩
abbrev cX11_sign : ByteArray := prog_1_method_2_code
def yX11_sign : MethodName := ⟨RX11, "sign", "(I)I"⟩
abbrev cX11_end : ByteArray := prog_1_method_3_code
def yX11_end : MethodName := ⟨RX11, "end", "(I)Z"⟩
abbrev cX11_kitchen : ByteArray := prog_1_method_4_code
def yX11_kitchen : MethodName := ⟨RX11, "kitchen", "()I"⟩
abbrev cX11_rule : ByteArray := prog_1_method_5_code
def yX11_rule : MethodName := ⟨RX11, "rule", "()I"⟩
abbrev cX11_dish : ByteArray := prog_1_method_6_code
def yX11_dish : MethodName := ⟨RX11, "dish", "(II)I"⟩
abbrev cX11_guest : ByteArray := prog_1_method_7_code
def yX11_guest : MethodName := ⟨RX11, "guest", "(II)I"⟩
abbrev cX11_joy : ByteArray := prog_1_method_8_code
def yX11_joy : MethodName := ⟨RX11, "joy", "(II)I"⟩
abbrev cX11_law : ByteArray := prog_1_method_9_code
def yX11_law : MethodName := ⟨RX11, "law", "(II)I"⟩
abbrev cX11_store : ByteArray := prog_1_method_10_code
def yX11_store : MethodName := ⟨RX11, "store", "(II)I"⟩
abbrev cX11_sheet : ByteArray := prog_1_method_11_code
def yX11_sheet : MethodName := ⟨RX11, "sheet", "(IIII)I"⟩
abbrev cX11_asEntry : ByteArray := prog_1_method_12_code
def yX11_asEntry : MethodName := ⟨RX11, "asEntry", "(II)I"⟩
abbrev cX11_serve : ByteArray := prog_1_method_13_code
def yX11_serve : MethodName := ⟨RX11, "serve", "(I)I"⟩
abbrev cX11_back : ByteArray := prog_1_method_14_code
def yX11_back : MethodName := ⟨RX11, "back", "()I"⟩
abbrev cX11_over : ByteArray := prog_1_method_15_code
def yX11_over : MethodName := ⟨RX11, "over", "()I"⟩
abbrev cX11_can : ByteArray := prog_1_method_16_code
def yX11_can : MethodName := ⟨RX11, "can", "()I"⟩
abbrev cX11_menu : ByteArray := prog_1_method_17_code
def yX11_menu : MethodName := ⟨RX11, "menu", "(I)I"⟩
abbrev cX11_look : ByteArray := prog_1_method_18_code
def yX11_look : MethodName := ⟨RX11, "look", "(I)I"⟩
abbrev cX11_swap : ByteArray := prog_1_method_19_code
def yX11_swap : MethodName := ⟨RX11, "swap", "(III)Z"⟩
abbrev cX11_turn : ByteArray := prog_1_method_20_code
def yX11_turn : MethodName := ⟨RX11, "turn", "(I)Z"⟩
abbrev cX11_joined : ByteArray := prog_1_method_21_code
def yX11_joined : MethodName := ⟨RX11, "joined", "(II)I"⟩
abbrev cX11_falls : ByteArray := prog_1_method_22_code
def yX11_falls : MethodName := ⟨RX11, "falls", "(III)I"⟩
abbrev cX11_isLaid : ByteArray := prog_1_method_23_code
def yX11_isLaid : MethodName := ⟨RX11, "isLaid", "(I)Z"⟩
abbrev cX11_isWhole : ByteArray := prog_1_method_24_code
def yX11_isWhole : MethodName := ⟨RX11, "isWhole", "(I)Z"⟩
abbrev cX11_longest : ByteArray := prog_1_method_25_code
def yX11_longest : MethodName := ⟨RX11, "longest", "()I"⟩
abbrev cX11_ways : ByteArray := prog_1_method_26_code
def yX11_ways : MethodName := ⟨RX11, "ways", "(I)J"⟩
abbrev cX11_between : ByteArray := prog_1_method_27_code
def yX11_between : MethodName := ⟨RX11, "between", "(II)I"⟩
abbrev cX11_shortest : ByteArray := prog_1_method_28_code
def yX11_shortest : MethodName := ⟨RX11, "shortest", "(II)I"⟩
abbrev cX11_bears : ByteArray := prog_1_method_29_code
def yX11_bears : MethodName := ⟨RX11, "bears", "(I)I"⟩
abbrev cX11_beside : ByteArray := prog_1_method_30_code
def yX11_beside : MethodName := ⟨RX11, "beside", "(I)I"⟩
abbrev cX11_parts : ByteArray := prog_1_method_31_code
def yX11_parts : MethodName := ⟨RX11, "parts", "()I"⟩
abbrev cX11_rare : ByteArray := prog_1_method_32_code
def yX11_rare : MethodName := ⟨RX11, "rare", "()I"⟩
abbrev cX11_round : ByteArray := prog_1_method_33_code
def yX11_round : MethodName := ⟨RX11, "round", "()I"⟩
abbrev cX11_shut : ByteArray := prog_1_method_34_code
def yX11_shut : MethodName := ⟨RX11, "shut", "(I)I"⟩
abbrev cX11_goOn : ByteArray := prog_1_method_35_code
def yX11_goOn : MethodName := ⟨RX11, "goOn", "(I)V"⟩
abbrev cX11_beginAnew : ByteArray := prog_1_method_36_code
def yX11_beginAnew : MethodName := ⟨RX11, "beginAnew", "(LNextMustShare$Law;)V"⟩
abbrev cX11_tellMost : ByteArray := prog_1_method_37_code
def yX11_tellMost : MethodName := ⟨RX11, "tellMost", "()I"⟩
abbrev cX11_tellBetween : ByteArray := prog_1_method_38_code
def yX11_tellBetween : MethodName := ⟨RX11, "tellBetween", "(III)I"⟩
abbrev cX11_goRound : ByteArray := prog_1_method_39_code
def yX11_goRound : MethodName := ⟨RX11, "goRound", "(I)V"⟩
abbrev cX11_best : ByteArray := prog_1_method_40_code
def yX11_best : MethodName := ⟨RX11, "best", "(II)I"⟩
abbrev cX11_fair : ByteArray := prog_1_method_41_code
def yX11_fair : MethodName := ⟨RX11, "fair", "(II)I"⟩
abbrev cX11_cheap : ByteArray := prog_1_method_42_code
def yX11_cheap : MethodName := ⟨RX11, "cheap", "(I)I"⟩
abbrev cX11_dear : ByteArray := prog_1_method_43_code
def yX11_dear : MethodName := ⟨RX11, "dear", "(I)I"⟩
abbrev cX11_tellJoy : ByteArray := prog_1_method_44_code
def yX11_tellJoy : MethodName := ⟨RX11, "tellJoy", "(II)I"⟩
abbrev cX11_tellCost : ByteArray := prog_1_method_45_code
def yX11_tellCost : MethodName := ⟨RX11, "tellCost", "(III)I"⟩
abbrev cX11_game : ByteArray := prog_1_method_46_code
def yX11_game : MethodName := ⟨RX11, "game", "()I"⟩
abbrev cX11_greedy : ByteArray := prog_1_method_47_code
def yX11_greedy : MethodName := ⟨RX11, "greedy", "()I"⟩
abbrev cX11_mend : ByteArray := prog_1_method_48_code
def yX11_mend : MethodName := ⟨RX11, "mend", "(II)I"⟩
abbrev cX11_fills : ByteArray := prog_1_method_49_code
def yX11_fills : MethodName := ⟨RX11, "fills", "(I)J"⟩
abbrev cX11_sure : ByteArray := prog_1_method_50_code
def yX11_sure : MethodName := ⟨RX11, "sure", "(II)I"⟩
abbrev cX11_layFilled : ByteArray := prog_1_method_51_code
def yX11_layFilled : MethodName := ⟨RX11, "layFilled", "(LNextMustShare$Menu;)V"⟩
abbrev cX11_hearths : ByteArray := prog_1_method_52_code
def yX11_hearths : MethodName := ⟨RX11, "hearths", "(I)I"⟩
abbrev cX11_late : ByteArray := prog_1_method_53_code
def yX11_late : MethodName := ⟨RX11, "late", "(II)I"⟩
abbrev cX11_poison : ByteArray := prog_1_method_54_code
def yX11_poison : MethodName := ⟨RX11, "poison", "(II)I"⟩
abbrev cX11_eats : ByteArray := prog_1_method_55_code
def yX11_eats : MethodName := ⟨RX11, "eats", "(II)I"⟩
abbrev cX11_made : ByteArray := prog_1_method_56_code
def yX11_made : MethodName := ⟨RX11, "made", "()I"⟩
abbrev cX11_keep : ByteArray := prog_1_method_57_code
def yX11_keep : MethodName := ⟨RX11, "keep", "(I)Z"⟩
abbrev cX11_again : ByteArray := prog_1_method_58_code
def yX11_again : MethodName := ⟨RX11, "again", "(I)Z"⟩
abbrev cX11_count : ByteArray := prog_1_method_59_code
def yX11_count : MethodName := ⟨RX11, "count", "(I)I"⟩
abbrev cX11_row : ByteArray := prog_1_method_60_code
def yX11_row : MethodName := ⟨RX11, "row", "(I)I"⟩
abbrev cX11_menusLaid : ByteArray := prog_1_method_61_code
def yX11_menusLaid : MethodName := ⟨RX11, "menusLaid", "()I"⟩
def RX12 : String := "NextMustShareModel"
def TX12 : u_T := fun k => match k with
  | 0 => ("NextMustShareModel", "store", "[I", true)
  | 1 => ("NextMustShareModel", "dishes", "I", false)
  | 2 => ("NextMustShareModel", "stuffs", "[I", true)
  | 3 => ("NextMustShareModel", "cost", "[I", true)
  | 4 => ("NextMustShareModel", "isHot", "[Z", true)
  | 5 => ("NextMustShareModel", "hours", "[I", true)
  | 6 => ("NextMustShareModel", "guests", "I", false)
  | 7 => ("NextMustShareModel", "loves", "[I", true)
  | 8 => ("NextMustShareModel", "bars", "[I", true)
  | 9 => ("NextMustShareModel", "share", "I", false)
  | 10 => ("NextMustShareModel", "times", "I", false)
  | 11 => ("NextMustShareModel", "heat", "I", false)
  | 12 => ("NextMustShareModel", "served", "[I", true)
  | 13 => ("NextMustShareModel", "servedMany", "I", false)
  | 14 => ("NextMustShareModel", "menus", "[I", true)
  | 15 => ("NextMustShareModel", "menuLong", "[I", true)
  | 16 => ("NextMustShareModel", "text", "[B", true)
  | 17 => ("NextMustShareModel", "typed", "I", false)
  | 18 => ("NextMustShareModel", "row", "[I", true)
  | 19 => ("NextMustShareModel", "rowMany", "I", false)
  | 20 => ("NextMustShareModel", "thrown", "I", false)
  | 21 => ("NextMustShareModel", "read", "[B", false)
  | 22 => ("NextMustShareModel", "size", "I", false)
  | 23 => ("NextMustShareModel", "top", "I", false)
  | 24 => ("NextMustShareModel", "at", "I", false)
  | 25 => ("NextMustShareModel", "wrong", "I", false)
  | 26 => ("NextMustShareModel", "rule", "[B", true)
  | 27 => ("NextMustShareModel", "ruleSize", "I", false)
  | 28 => ("NextMustShareModel", "askedGuest", "I", false)
  | 29 => ("NextMustShareModel", "askedDish", "I", false)
  | 30 => ("NextMustShareModel", "whyNot", "I", false)
  | 31 => ("NextMustShareModel", "costTill", "I", false)
  | 32 => ("NextMustShareModel", "hungryTill", "I", false)
  | 33 => ("NextMustShareModel", "setTill", "I", false)
  | 34 => ("NextMustShareModel", "lastTill", "I", false)
  | 35 => ("NextMustShareModel", "isEnd", "[Z", true)
  | 36 => ("NextMustShareModel", "canEnd", "[Z", true)
  | 37 => ("NextMustShareModel", "rows", "[J", true)
  | 38 => ("NextMustShareModel", "scores", "[I", true)
  | 39 => ("NextMustShareModel", "bestScore", "I", false)
  | 40 => ("NextMustShareModel", "shames", "[Z", true)
  | 41 => ("NextMustShareModel", "moreThen", "[I", true)
  | 42 => ("NextMustShareModel", "firstThen", "[I", true)
  | 43 => ("NextMustShareModel", "isShamed", "[Z", true)
  | 44 => ("NextMustShareModel", "moreOf", "[I", true)
  | 45 => ("NextMustShareModel", "changesFrom", "[I", true)
  | 46 => ("NextMustShareModel", "fillsFrom", "[J", true)
  | 47 => ("NextMustShareModel", "freeAt", "[I", true)
  | 48 => ("NextMustShareModel", "lastsOf", "[I", true)
  | 49 => ("NextMustShareModel", "came", "I", false)
  | 50 => ("NextMustShareModel", "kept", "[I", true)
  | 51 => ("NextMustShareModel", "isKept", "[Z", true)
  | _ => ("NextMustShareModel", "keptCame", "[I", true)
def tyX12 : Nat → FieldType := fun k => match k with
  | 0 => .array .int
  | 1 => .int
  | 2 => .array .int
  | 3 => .array .int
  | 4 => .array .boolean
  | 5 => .array .int
  | 6 => .int
  | 7 => .array .int
  | 8 => .array .int
  | 9 => .int
  | 10 => .int
  | 11 => .int
  | 12 => .array .int
  | 13 => .int
  | 14 => .array .int
  | 15 => .array .int
  | 16 => .array .byte
  | 17 => .int
  | 18 => .array .int
  | 19 => .int
  | 20 => .int
  | 21 => .array .byte
  | 22 => .int
  | 23 => .int
  | 24 => .int
  | 25 => .int
  | 26 => .array .byte
  | 27 => .int
  | 28 => .int
  | 29 => .int
  | 30 => .int
  | 31 => .int
  | 32 => .int
  | 33 => .int
  | 34 => .int
  | 35 => .array .boolean
  | 36 => .array .boolean
  | 37 => .array .long
  | 38 => .array .int
  | 39 => .int
  | 40 => .array .boolean
  | 41 => .array .int
  | 42 => .array .int
  | 43 => .array .boolean
  | 44 => .array .int
  | 45 => .array .int
  | 46 => .array .long
  | 47 => .array .int
  | 48 => .array .int
  | 49 => .int
  | 50 => .array .int
  | 51 => .array .boolean
  | _ => .array .int
abbrev wsX120 : List Cond := u_ws RX12 TX12 53
theorem nmX12 : ∀ a, a < 53 → ∀ b, b < 53 → a ≠ b → (TX12 a).2.1 ≠ (TX12 b).2.1 := by decide +kernel
theorem tyX12_ok : ∀ k, k < 53 → parseFieldDescriptor (TX12 k).2.2.1 = some (tyX12 k) := by decide +kernel
abbrev cX12_init : ByteArray := prog_14_method_1_code
def yX12_init : MethodName := ⟨RX12, "<init>", "()V"⟩
abbrev cX12_thrown : ByteArray := prog_14_method_2_code
def yX12_thrown : MethodName := ⟨RX12, "thrown", "()I"⟩
abbrev cX12_in : ByteArray := prog_14_method_3_code
def yX12_in : MethodName := ⟨RX12, "in", "(III)Z"⟩
abbrev cX12_has : ByteArray := prog_14_method_4_code
def yX12_has : MethodName := ⟨RX12, "has", "(II)Z"⟩
abbrev cX12_lost : ByteArray := prog_14_method_5_code
def yX12_lost : MethodName := ⟨RX12, "lost", "()I"⟩
abbrev cX12_tell : ByteArray := prog_14_method_6_code
def yX12_tell : MethodName := ⟨RX12, "tell", "(I)V"⟩
abbrev cX12_isDish : ByteArray := prog_14_method_7_code
def yX12_isDish : MethodName := ⟨RX12, "isDish", "(I)Z"⟩
abbrev cX12_isGuest : ByteArray := prog_14_method_8_code
def yX12_isGuest : MethodName := ⟨RX12, "isGuest", "(I)Z"⟩
abbrev cX12_sign : ByteArray := prog_14_method_9_code
def yX12_sign : MethodName := ⟨RX12, "sign", "(I)I"⟩
abbrev cX12_end : ByteArray := prog_14_method_10_code
def yX12_end : MethodName := ⟨RX12, "end", "(I)Z"⟩
abbrev cX12_begin : ByteArray := prog_14_method_11_code
def yX12_begin : MethodName := ⟨RX12, "begin", "([BII)V"⟩
abbrev cX12_here : ByteArray := prog_14_method_12_code
def yX12_here : MethodName := ⟨RX12, "here", "()I"⟩
abbrev cX12_fine : ByteArray := prog_14_method_13_code
def yX12_fine : MethodName := ⟨RX12, "fine", "()Z"⟩
abbrev cX12_fault : ByteArray := prog_14_method_14_code
def yX12_fault : MethodName := ⟨RX12, "fault", "(I)V"⟩
abbrev cX12_passes : ByteArray := prog_14_method_15_code
def yX12_passes : MethodName := ⟨RX12, "passes", "(C)Z"⟩
abbrev cX12_number : ByteArray := prog_14_method_16_code
def yX12_number : MethodName := ⟨RX12, "number", "(I)I"⟩
abbrev cX12_letters : ByteArray := prog_14_method_17_code
def yX12_letters : MethodName := ⟨RX12, "letters", "(Z)I"⟩
abbrev cX12_kitchen : ByteArray := prog_14_method_18_code
def yX12_kitchen : MethodName := ⟨RX12, "kitchen", "()I"⟩
abbrev cX12_readGuest : ByteArray := prog_14_method_19_code
def yX12_readGuest : MethodName := ⟨RX12, "readGuest", "(I)V"⟩
abbrev cX12_held : ByteArray := prog_14_method_20_code
def yX12_held : MethodName := ⟨RX12, "held", "(I)I"⟩
abbrev cX12_sum : ByteArray := prog_14_method_21_code
def yX12_sum : MethodName := ⟨RX12, "sum", "(I)I"⟩
abbrev cX12_product : ByteArray := prog_14_method_22_code
def yX12_product : MethodName := ⟨RX12, "product", "(I)I"⟩
abbrev cX12_thing : ByteArray := prog_14_method_23_code
def yX12_thing : MethodName := ⟨RX12, "thing", "(I)I"⟩
abbrev cX12_letter : ByteArray := prog_14_method_24_code
def yX12_letter : MethodName := ⟨RX12, "letter", "(I)I"⟩
abbrev cX12_rule : ByteArray := prog_14_method_25_code
def yX12_rule : MethodName := ⟨RX12, "rule", "()I"⟩
abbrev cX12_joyOf : ByteArray := prog_14_method_26_code
def yX12_joyOf : MethodName := ⟨RX12, "joyOf", "(II)I"⟩
abbrev cX12_joyOfAll : ByteArray := prog_14_method_27_code
def yX12_joyOfAll : MethodName := ⟨RX12, "joyOfAll", "(I)I"⟩
abbrev cX12_isHungry : ByteArray := prog_14_method_28_code
def yX12_isHungry : MethodName := ⟨RX12, "isHungry", "(II)Z"⟩
abbrev cX12_dish : ByteArray := prog_14_method_29_code
def yX12_dish : MethodName := ⟨RX12, "dish", "(II)I"⟩
abbrev cX12_guest : ByteArray := prog_14_method_30_code
def yX12_guest : MethodName := ⟨RX12, "guest", "(II)I"⟩
abbrev cX12_joy : ByteArray := prog_14_method_31_code
def yX12_joy : MethodName := ⟨RX12, "joy", "(II)I"⟩
abbrev cX12_isLaw : ByteArray := prog_14_method_32_code
def yX12_isLaw : MethodName := ⟨RX12, "isLaw", "(II)Z"⟩
abbrev cX12_law : ByteArray := prog_14_method_33_code
def yX12_law : MethodName := ⟨RX12, "law", "(II)I"⟩
abbrev cX12_store : ByteArray := prog_14_method_34_code
def yX12_store : MethodName := ⟨RX12, "store", "(II)I"⟩
abbrev cX12_sheet : ByteArray := prog_14_method_35_code
def yX12_sheet : MethodName := ⟨RX12, "sheet", "(IIII)I"⟩
abbrev cX12_shared : ByteArray := prog_14_method_36_code
def yX12_shared : MethodName := ⟨RX12, "shared", "(II)I"⟩
abbrev cX12_hasHot : ByteArray := prog_14_method_37_code
def yX12_hasHot : MethodName := ⟨RX12, "hasHot", "(I)Z"⟩
abbrev cX12_fits : ByteArray := prog_14_method_38_code
def yX12_fits : MethodName := ⟨RX12, "fits", "(IIZ)Z"⟩
abbrev cX12_refusal : ByteArray := prog_14_method_39_code
def yX12_refusal : MethodName := ⟨RX12, "refusal", "(III)I"⟩
abbrev cX12_servedSet : ByteArray := prog_14_method_40_code
def yX12_servedSet : MethodName := ⟨RX12, "servedSet", "()I"⟩
abbrev cX12_servedLast : ByteArray := prog_14_method_41_code
def yX12_servedLast : MethodName := ⟨RX12, "servedLast", "()I"⟩
abbrev cX12_serve : ByteArray := prog_14_method_42_code
def yX12_serve : MethodName := ⟨RX12, "serve", "(I)I"⟩
abbrev cX12_back : ByteArray := prog_14_method_43_code
def yX12_back : MethodName := ⟨RX12, "back", "()I"⟩
abbrev cX12_over : ByteArray := prog_14_method_44_code
def yX12_over : MethodName := ⟨RX12, "over", "()I"⟩
abbrev cX12_can : ByteArray := prog_14_method_45_code
def yX12_can : MethodName := ⟨RX12, "can", "()I"⟩
abbrev cX12_menu : ByteArray := prog_14_method_46_code
def yX12_menu : MethodName := ⟨RX12, "menu", "(I)I"⟩
abbrev cX12_isMenu : ByteArray := prog_14_method_47_code
def yX12_isMenu : MethodName := ⟨RX12, "isMenu", "(I)Z"⟩
abbrev cX12_isWhole : ByteArray := prog_14_method_48_code
def yX12_isWhole : MethodName := ⟨RX12, "isWhole", "(I)Z"⟩
abbrev cX12_lookOn : ByteArray := prog_14_method_49_code
def yX12_lookOn : MethodName := ⟨RX12, "lookOn", "(I)I"⟩
abbrev cX12_lookFromNothing : ByteArray := prog_14_method_50_code
def yX12_lookFromNothing : MethodName := ⟨RX12, "lookFromNothing", "()V"⟩
abbrev cX12_look : ByteArray := prog_14_method_51_code
def yX12_look : MethodName := ⟨RX12, "look", "(I)I"⟩
abbrev cX12_swap : ByteArray := prog_14_method_52_code
def yX12_swap : MethodName := ⟨RX12, "swap", "(III)Z"⟩
abbrev cX12_turn : ByteArray := prog_14_method_53_code
def yX12_turn : MethodName := ⟨RX12, "turn", "(I)Z"⟩
abbrev cX12_joined : ByteArray := prog_14_method_54_code
def yX12_joined : MethodName := ⟨RX12, "joined", "(II)I"⟩
abbrev cX12_isLawful : ByteArray := prog_14_method_55_code
def yX12_isLawful : MethodName := ⟨RX12, "isLawful", "(I)Z"⟩
abbrev cX12_falls : ByteArray := prog_14_method_56_code
def yX12_falls : MethodName := ⟨RX12, "falls", "(III)I"⟩
abbrev cX12_place : ByteArray := prog_14_method_57_code
def yX12_place : MethodName := ⟨RX12, "place", "(II)I"⟩
abbrev cX12_all : ByteArray := prog_14_method_58_code
def yX12_all : MethodName := ⟨RX12, "all", "()I"⟩
abbrev cX12_may : ByteArray := prog_14_method_59_code
def yX12_may : MethodName := ⟨RX12, "may", "(III)Z"⟩
abbrev cX12_isState : ByteArray := prog_14_method_60_code
def yX12_isState : MethodName := ⟨RX12, "isState", "(II)Z"⟩
abbrev cX12_noEnds : ByteArray := prog_14_method_61_code
def yX12_noEnds : MethodName := ⟨RX12, "noEnds", "()V"⟩
abbrev cX12_findEnds : ByteArray := prog_14_method_62_code
def yX12_findEnds : MethodName := ⟨RX12, "findEnds", "(I)V"⟩
abbrev cX12_tellWay : ByteArray := prog_14_method_63_code
def yX12_tellWay : MethodName := ⟨RX12, "tellWay", "(III)V"⟩
abbrev cX12_findRows : ByteArray := prog_14_method_64_code
def yX12_findRows : MethodName := ⟨RX12, "findRows", "(III)V"⟩
abbrev cX12_longestBy : ByteArray := prog_14_method_65_code
def yX12_longestBy : MethodName := ⟨RX12, "longestBy", "(I)I"⟩
abbrev cX12_longest : ByteArray := prog_14_method_66_code
def yX12_longest : MethodName := ⟨RX12, "longest", "()I"⟩
abbrev cX12_ways : ByteArray := prog_14_method_67_code
def yX12_ways : MethodName := ⟨RX12, "ways", "(I)J"⟩
abbrev cX12_tellFrom : ByteArray := prog_14_method_68_code
def yX12_tellFrom : MethodName := ⟨RX12, "tellFrom", "(II)Z"⟩
abbrev cX12_betweenBy : ByteArray := prog_14_method_69_code
def yX12_betweenBy : MethodName := ⟨RX12, "betweenBy", "(IIZ)I"⟩
abbrev cX12_between : ByteArray := prog_14_method_70_code
def yX12_between : MethodName := ⟨RX12, "between", "(II)I"⟩
abbrev cX12_shortest : ByteArray := prog_14_method_71_code
def yX12_shortest : MethodName := ⟨RX12, "shortest", "(II)I"⟩
abbrev cX12_bears : ByteArray := prog_14_method_72_code
def yX12_bears : MethodName := ⟨RX12, "bears", "(I)I"⟩
abbrev cX12_besides : ByteArray := prog_14_method_73_code
def yX12_besides : MethodName := ⟨RX12, "besides", "(I)I"⟩
abbrev cX12_beside : ByteArray := prog_14_method_74_code
def yX12_beside : MethodName := ⟨RX12, "beside", "(I)I"⟩
abbrev cX12_parts : ByteArray := prog_14_method_75_code
def yX12_parts : MethodName := ⟨RX12, "parts", "()I"⟩
abbrev cX12_rare : ByteArray := prog_14_method_76_code
def yX12_rare : MethodName := ⟨RX12, "rare", "()I"⟩
abbrev cX12_round : ByteArray := prog_14_method_77_code
def yX12_round : MethodName := ⟨RX12, "round", "()I"⟩
abbrev cX12_shut : ByteArray := prog_14_method_78_code
def yX12_shut : MethodName := ⟨RX12, "shut", "(I)I"⟩
abbrev cX12_joyIn : ByteArray := prog_14_method_79_code
def yX12_joyIn : MethodName := ⟨RX12, "joyIn", "(II)I"⟩
abbrev cX12_costIn : ByteArray := prog_14_method_80_code
def yX12_costIn : MethodName := ⟨RX12, "costIn", "(I)I"⟩
abbrev cX12_scoreOf : ByteArray := prog_14_method_81_code
def yX12_scoreOf : MethodName := ⟨RX12, "scoreOf", "(II)I"⟩
abbrev cX12_findBest : ByteArray := prog_14_method_82_code
def yX12_findBest : MethodName := ⟨RX12, "findBest", "(IIII)Z"⟩
abbrev cX12_tellBest : ByteArray := prog_14_method_83_code
def yX12_tellBest : MethodName := ⟨RX12, "tellBest", "(III)I"⟩
abbrev cX12_best : ByteArray := prog_14_method_84_code
def yX12_best : MethodName := ⟨RX12, "best", "(II)I"⟩
abbrev cX12_fair : ByteArray := prog_14_method_85_code
def yX12_fair : MethodName := ⟨RX12, "fair", "(II)I"⟩
abbrev cX12_tellCost : ByteArray := prog_14_method_86_code
def yX12_tellCost : MethodName := ⟨RX12, "tellCost", "(III)I"⟩
abbrev cX12_cheap : ByteArray := prog_14_method_87_code
def yX12_cheap : MethodName := ⟨RX12, "cheap", "(I)I"⟩
abbrev cX12_dear : ByteArray := prog_14_method_88_code
def yX12_dear : MethodName := ⟨RX12, "dear", "(I)I"⟩
abbrev cX12_findGame : ByteArray := prog_14_method_89_code
def yX12_findGame : MethodName := ⟨RX12, "findGame", "()V"⟩
abbrev cX12_findTurn : ByteArray := prog_14_method_90_code
def yX12_findTurn : MethodName := ⟨RX12, "findTurn", "(II)V"⟩
abbrev cX12_game : ByteArray := prog_14_method_91_code
def yX12_game : MethodName := ⟨RX12, "game", "()I"⟩
abbrev cX12_findGreedy : ByteArray := prog_14_method_92_code
def yX12_findGreedy : MethodName := ⟨RX12, "findGreedy", "(II)V"⟩
abbrev cX12_greedy : ByteArray := prog_14_method_93_code
def yX12_greedy : MethodName := ⟨RX12, "greedy", "()I"⟩
abbrev cX12_menuAt : ByteArray := prog_14_method_94_code
def yX12_menuAt : MethodName := ⟨RX12, "menuAt", "(II)I"⟩
abbrev cX12_mend : ByteArray := prog_14_method_95_code
def yX12_mend : MethodName := ⟨RX12, "mend", "(II)I"⟩
abbrev cX12_tellMended : ByteArray := prog_14_method_96_code
def yX12_tellMended : MethodName := ⟨RX12, "tellMended", "(II)V"⟩
abbrev cX12_findFills : ByteArray := prog_14_method_97_code
def yX12_findFills : MethodName := ⟨RX12, "findFills", "(I)J"⟩
abbrev cX12_isAsked : ByteArray := prog_14_method_98_code
def yX12_isAsked : MethodName := ⟨RX12, "isAsked", "(III)Z"⟩
abbrev cX12_fills : ByteArray := prog_14_method_99_code
def yX12_fills : MethodName := ⟨RX12, "fills", "(I)J"⟩
abbrev cX12_sure : ByteArray := prog_14_method_100_code
def yX12_sure : MethodName := ⟨RX12, "sure", "(II)I"⟩
abbrev cX12_hearths : ByteArray := prog_14_method_101_code
def yX12_hearths : MethodName := ⟨RX12, "hearths", "(I)I"⟩
abbrev cX12_late : ByteArray := prog_14_method_102_code
def yX12_late : MethodName := ⟨RX12, "late", "(II)I"⟩
abbrev cX12_ateOf : ByteArray := prog_14_method_103_code
def yX12_ateOf : MethodName := ⟨RX12, "ateOf", "(II)I"⟩
abbrev cX12_poison : ByteArray := prog_14_method_104_code
def yX12_poison : MethodName := ⟨RX12, "poison", "(II)I"⟩
abbrev cX12_eats : ByteArray := prog_14_method_105_code
def yX12_eats : MethodName := ⟨RX12, "eats", "(II)I"⟩
abbrev cX12_canAll : ByteArray := prog_14_method_106_code
def yX12_canAll : MethodName := ⟨RX12, "canAll", "(I)Z"⟩
abbrev cX12_made : ByteArray := prog_14_method_107_code
def yX12_made : MethodName := ⟨RX12, "made", "()I"⟩
abbrev cX12_keep : ByteArray := prog_14_method_108_code
def yX12_keep : MethodName := ⟨RX12, "keep", "(I)Z"⟩
abbrev cX12_again : ByteArray := prog_14_method_109_code
def yX12_again : MethodName := ⟨RX12, "again", "(I)Z"⟩
abbrev cX12_count : ByteArray := prog_14_method_110_code
def yX12_count : MethodName := ⟨RX12, "count", "(I)I"⟩
abbrev cX12_row : ByteArray := prog_14_method_111_code
def yX12_row : MethodName := ⟨RX12, "row", "(I)I"⟩
def RJx145de : String := "java/io/Serializable"
def RJ6 : String := "java/lang/Integer"
abbrev cJ6_bitCount_0f7a4 : ByteArray := prog_17_method_49_code
def yJ6_bitCount_0f7a4 : MethodName := ⟨RJ6, "bitCount", "(I)I"⟩
def RJ9 : String := "java/lang/Math"
abbrev cJ9_abs_0f7a4 : ByteArray := prog_18_method_59_code
def yJ9_abs_0f7a4 : MethodName := ⟨RJ9, "abs", "(I)I"⟩
abbrev cJ9_max_7cf53 : ByteArray := prog_18_method_65_code
def yJ9_max_7cf53 : MethodName := ⟨RJ9, "max", "(II)I"⟩
abbrev cJ9_min_7cf53 : ByteArray := prog_18_method_69_code
def yJ9_min_7cf53 : MethodName := ⟨RJ9, "min", "(II)I"⟩
def RJ10 : String := "java/lang/System"
def RJ7 : String := "java/util/Arrays"
abbrev cJ7_fill_53178 : ByteArray := prog_22_method_103_code
def yJ7_fill_53178 : MethodName := ⟨RJ7, "fill", "([II)V"⟩
def RL : String := "NextMustShareLaw"
abbrev vwCl : List vw_C := [(RX0, TX0, 3), (RX1, TX1, 9), (RX2, TX2, 4), (RX3, TX3, 2), (RX4, TX4, 3), (RX5, TX5, 8), (RX6, TX6, 3), (RX7, TX7, 2), (RX8, TX8, 11), (RX9, TX9, 7), (RX10, TX10, 2), (RX11, TX11, 16), (RX12, TX12, 53)]
end
section
/-! The shape of the heap: places 0 .. 99; x (the class) and what it holds is 0 .. 68, m (the reference) 69 .. 98, out 99. -/
abbrev jV : Type := Int ⊕ (Int ⊕ Nat)
abbrev jI (x : Int) : jV := Sum.inl x
abbrev jL (x : Int) : jV := Sum.inr (Sum.inl x)
abbrev jR (p : Nat) : jV := Sum.inr (Sum.inr p)
abbrev jLs : Type := List (Option jV)
abbrev jSt : Type := List jV
abbrev jM : Type := Nat → Int → Int
abbrev jO : Type := Option (Option jV) × jM
abbrev jIn : Type := Instr × Nat × Nat × Nat × Nat × Nat
abbrev jT : Type := List jIn × List (List Bool × Nat)
def jKl : List Nat := [11, 10, 20, 1, 20, 20, 20, 20, 20, 20, 20, 6, 9, 20, 20, 20, 2, 20, 2, 20, 0, 20, 24, 4, 20, 20, 25, 26, 20, 8, 22, 20, 20, 20, 20, 20, 5, 27, 20, 20, 20, 20, 20, 20, 20, 20, 20, 3, 20, 20, 7, 20, 4, 20, 20, 4, 20, 20, 4, 20, 20, 2, 20, 0, 20, 2, 20, 0, 20, 12, 20, 20, 20, 22, 20, 20, 20, 20, 20, 20, 21, 20, 21, 22, 22, 23, 20, 22, 20, 20, 22, 20, 20, 23, 20, 20, 20, 22, 20, 23]
def jLl : List Nat := [0, 0, 80, 0, 10, 10, 10, 10, 6, 6, 8, 0, 0, 40, 40, 40, 0, 8, 0, 8, 0, 10, 3, 0, 20, 9, 2, 2, 2, 0, 1024, 1024, 11, 10, 8, 8, 0, 6, 10, 10, 10, 10, 10, 10, 1024, 10, 10, 0, 11264, 10, 0, 20, 0, 10, 9, 0, 10, 9, 0, 10, 9, 0, 8, 0, 10, 0, 8, 0, 10, 0, 8, 11, 11, 11, 11, 6, 6, 10, 30, 3, 80, 16, 40, 11264, 11264, 11264, 1024, 11264, 11264, 11264, 22528, 22528, 11264, 11264, 9, 2048, 44, 2, 2, 1]
def jRl : List (List Nat) := [[1, 3, 11, 12, 16, 18, 20, 22, 23, 26, 27, 28, 29, 36, 47, 50], [2], [], [4, 5, 6, 7, 8, 9, 10], [], [], [], [], [], [], [], [], [13, 14, 15], [], [], [], [17], [], [19], [], [21], [], [52, 55, 58], [24, 25], [], [], [61, 65], [63, 67], [], [30, 31, 32, 33, 34, 35], [], [], [], [], [], [], [37, 44, 45, 46], [38, 39, 40, 41, 42, 43], [], [], [], [], [], [], [], [], [], [48, 49], [], [], [51], [], [53, 54], [], [], [56, 57], [], [], [59, 60], [], [], [62], [], [64], [], [66], [], [68], [], [70, 0, 71, 72, 73, 74, 0, 75, 76, 0, 0, 0, 77, 0, 78, 79, 80, 0, 81, 0, 0, 0, 0, 0, 0, 0, 82, 0, 0, 0, 0, 0, 0, 0, 0, 83, 84, 85, 86, 0, 87, 88, 89, 90, 91, 92, 93, 94, 95, 0, 96, 97, 98], [], [], [], [], [], [], [], [], [], [], [], [], [], [], [], [], [], [], [], [], [], [], [], [], [], [], [], [], [], []]
def jFl : List (List Nat) := [[2, 0, 0], [2, 2, 2, 2, 2, 2, 2, 0, 0], [2, 0, 0, 0], [2, 2], [2, 2, 0], [2, 2, 2, 2, 0, 0, 0, 0], [0, 0, 0], [2, 0], [2, 2, 2, 2, 2, 2, 0, 0, 1, 0, 0], [2, 2, 2, 0, 0, 0, 0], [2, 0], [2, 2, 2, 2, 2, 2, 2, 2, 2, 2, 2, 2, 2, 2, 2, 2], [2, 0, 2, 2, 2, 2, 0, 2, 2, 0, 0, 0, 2, 0, 2, 2, 2, 0, 2, 0, 0, 3, 0, 0, 0, 0, 2, 0, 0, 0, 0, 0, 0, 0, 0, 2, 2, 2, 2, 0, 2, 2, 2, 2, 2, 2, 2, 2, 2, 0, 2, 2, 2]]
def KD (p : Nat) : Nat := jKl.getD p 99
def LN (p : Nat) : Int := (jLl.getD p 0 : Nat)
def RF (p : Nat) (i : Int) : Nat := (jRl.getD p []).getD i.toNat 0
def FT (ci k : Nat) : Nat := (jFl.getD ci []).getD k 9
def w32 (x : Int) : Int := Int.bmod x 4294967296
def w64 (x : Int) : Int := Int.bmod x 18446744073709551616
def jand (x y : Int) : Int := (Int32.ofInt x &&& Int32.ofInt y).toInt
def jor (x y : Int) : Int := (Int32.ofInt x ||| Int32.ofInt y).toInt
def jxor (x y : Int) : Int := (Int32.ofInt x ^^^ Int32.ofInt y).toInt
def jshl (x y : Int) : Int := (Int32.ofInt x <<< (Int32.ofInt y &&& 31)).toInt
def jshr (x y : Int) : Int := (Int32.ofInt x >>> (Int32.ofInt y &&& 31)).toInt
def jushr (x y : Int) : Int := ((Int32.ofInt x).toUInt32 >>> ((Int32.ofInt y).toUInt32 &&& Int32.toUInt32 31)).toInt32.toInt
def jdiv (x y : Int) : Int := (Int32.ofInt x / Int32.ofInt y).toInt
def jrem (x y : Int) : Int := (Int32.ofInt x - Int32.ofInt x / Int32.ofInt y * Int32.ofInt y).toInt
def jb8 (x : Int) : Int := (Int32.ofInt x).toInt8.toInt32.toInt
def js16 (x : Int) : Int := (Int32.ofInt x).toInt16.toInt32.toInt
/-- one number of the heap changed; a whole cell changed -/
def jup (μ : jM) (p : Nat) (i v : Int) : jM := fun q j => if q = p ∧ j = i then v else μ q j
def jfill (μ : jM) (p : Nat) (f : Int → Int) : jM := fun q j => if q = p then f j else μ q j
def gd (c : Prop) [Decidable c] (k : Option jO) : Option jO := if c then k else none
def rI (x : Int) (μ : jM) : Option jO := some (some (some (Sum.inl x)), μ)
def rL (x : Int) (μ : jM) : Option jO := some (some (some (Sum.inr (Sum.inl x))), μ)
def rV (μ : jM) : Option jO := some (some none, μ)
def rT (μ : jM) : Option jO := some (none, μ)
def bI (o : Option jO) (k : Int → jM → Option jO) : Option jO := match o with
  | some (some (some (Sum.inl x)), μ) => k x μ
  | _ => none
def bL (o : Option jO) (k : Int → jM → Option jO) : Option jO := match o with
  | some (some (some (Sum.inr (Sum.inl x))), μ) => k x μ
  | _ => none
def bV (o : Option jO) (k : jM → Option jO) : Option jO := match o with
  | some (some none, μ) => k μ
  | _ => none
def jnth : jLs → Nat → Option jV
  | [], _ => none
  | x :: _, 0 => x
  | _ :: l, n + 1 => jnth l n
def jset : jLs → Nat → Option jV → jLs
  | [], _, _ => []
  | _ :: l, 0, v => v :: l
  | x :: l, n + 1, v => x :: jset l n v
def jisL : Option jV → Bool
  | some (Sum.inr (Sum.inl _)) => true
  | _ => false
/-- a store of one slot: a long just ahead of it is lost -/
def jst1 (l : jLs) (i : Nat) (v : jV) : jLs := match i with
  | 0 => jset l 0 (some v)
  | k + 1 => jset (bif jisL (jnth l k) then jset l k none else l) (k + 1) (some v)
def jst2 (l : jLs) (i : Nat) (v : jV) : jLs := jset (jst1 l i v) (i + 1) none
def jmk : List Bool → jLs → jLs
  | b :: bs, x :: l => (bif b then x else none) :: jmk bs l
  | _, _ => []
def jc (c : ClassFile.Cond) (x y : Int) (a b : Option jO) : Option jO := match c with
  | .eq => if x = y then a else b
  | .ne => if x = y then b else a
  | .lt => if x < y then a else b
  | .ge => if x < y then b else a
  | .gt => if y < x then a else b
  | .le => if y < x then b else a
def jcmp (x y : Int) : Int := if y < x then 1 else if x = y then 0 else -1
def jcat : jSt → Nat
  | [] => 0
  | Sum.inr (Sum.inl _) :: l => 2 + jcat l
  | _ :: l => 1 + jcat l
def jabs (x : Int) : Int := if 0 ≤ x then x else w32 (0 - x)
/-- instructions that neither jump nor call (lmul, lsub, lneg stand for Math.max, min, abs of ints; invokedynamic for System.arraycopy) -/
def j1 (i : Instr) (a b : Nat) (lv : jLs) (st : jSt) (μ : jM) (k : jLs → jSt → jM → Option jO) : Option jO := match i with
  | .iconst v => k lv (jI v :: st) μ
  | .sipush v => k lv (jL v :: st) μ
  | .iload n => match jnth lv n with
    | some (Sum.inl x) => k lv (jI x :: st) μ
    | _ => none
  | .lload n => match jnth lv n with
    | some (Sum.inr (Sum.inl x)) => k lv (jL x :: st) μ
    | _ => none
  | .aload n => match jnth lv n with
    | some (Sum.inr (Sum.inr p)) => k lv (jR p :: st) μ
    | _ => none
  | .istore n => match st with
    | Sum.inl x :: st => k (jst1 lv n (jI x)) st μ
    | _ => none
  | .lstore n => match st with
    | Sum.inr (Sum.inl x) :: st => k (jst2 lv n (jL x)) st μ
    | _ => none
  | .astore n => match st with
    | Sum.inr (Sum.inr p) :: st => k (jst1 lv n (jR p)) st μ
    | _ => none
  | .iinc n c => match jnth lv n with
    | some (Sum.inl x) => k (jst1 lv n (jI (w32 (x + c)))) st μ
    | _ => none
  | .iadd => match st with
    | Sum.inl y :: Sum.inl x :: st => k lv (jI (w32 (x + y)) :: st) μ
    | _ => none
  | .isub => match st with
    | Sum.inl y :: Sum.inl x :: st => k lv (jI (w32 (x - y)) :: st) μ
    | _ => none
  | .imul => match st with
    | Sum.inl y :: Sum.inl x :: st => k lv (jI (w32 (x * y)) :: st) μ
    | _ => none
  | .ineg => match st with
    | Sum.inl x :: st => k lv (jI (w32 (-x)) :: st) μ
    | _ => none
  | .idiv => match st with
    | Sum.inl y :: Sum.inl x :: st => gd (y ≠ 0) (k lv (jI (jdiv x y) :: st) μ)
    | _ => none
  | .irem => match st with
    | Sum.inl y :: Sum.inl x :: st => gd (y ≠ 0) (k lv (jI (jrem x y) :: st) μ)
    | _ => none
  | .iand => match st with
    | Sum.inl y :: Sum.inl x :: st => k lv (jI (jand x y) :: st) μ
    | _ => none
  | .ior => match st with
    | Sum.inl y :: Sum.inl x :: st => k lv (jI (jor x y) :: st) μ
    | _ => none
  | .ixor => match st with
    | Sum.inl y :: Sum.inl x :: st => k lv (jI (jxor x y) :: st) μ
    | _ => none
  | .ishl => match st with
    | Sum.inl y :: Sum.inl x :: st => k lv (jI (jshl x y) :: st) μ
    | _ => none
  | .ishr => match st with
    | Sum.inl y :: Sum.inl x :: st => k lv (jI (jshr x y) :: st) μ
    | _ => none
  | .iushr => match st with
    | Sum.inl y :: Sum.inl x :: st => k lv (jI (jushr x y) :: st) μ
    | _ => none
  | .i2b => match st with
    | Sum.inl x :: st => k lv (jI (jb8 x) :: st) μ
    | _ => none
  | .i2s => match st with
    | Sum.inl x :: st => k lv (jI (js16 x) :: st) μ
    | _ => none
  | .i2l => match st with
    | Sum.inl x :: st => k lv (jL x :: st) μ
    | _ => none
  | .ladd => match st with
    | Sum.inr (Sum.inl y) :: Sum.inr (Sum.inl x) :: st => k lv (jL (w64 (x + y)) :: st) μ
    | _ => none
  | .lcmp => match st with
    | Sum.inr (Sum.inl y) :: Sum.inr (Sum.inl x) :: st => k lv (jI (jcmp x y) :: st) μ
    | _ => none
  | .dup => match st with
    | Sum.inl x :: st => k lv (jI x :: jI x :: st) μ
    | Sum.inr (Sum.inr p) :: st => k lv (jR p :: jR p :: st) μ
    | _ => none
  | .dup2 => match st with
    | Sum.inl x :: Sum.inr (Sum.inr p) :: st => k lv (jI x :: jR p :: jI x :: jR p :: st) μ
    | _ => none
  | .dup_x1 => match st with
    | Sum.inl x :: Sum.inr (Sum.inr p) :: st => k lv (jI x :: jR p :: jI x :: st) μ
    | _ => none
  | .pop => match st with
    | Sum.inl _ :: st => k lv st μ
    | _ => none
  | .getfield _ => match st with
    | Sum.inr (Sum.inr p) :: st => bif Nat.beq (KD p) a then (bif Nat.blt (FT a b) 2 then k lv (jI (μ p b) :: st) μ else bif Nat.beq (FT a b) 2 then k lv (jR (RF p b) :: st) μ else gd (0 ≤ μ p b ∧ μ p b < 100) (k lv (jR (μ p b).toNat :: st) μ)) else none
    | _ => none
  | .putfield _ => match st with
    | Sum.inl v :: Sum.inr (Sum.inr p) :: st => bif Nat.beq (KD p) a then (bif Nat.beq (FT a b) 0 then k lv st (jup μ p b v) else bif Nat.beq (FT a b) 1 then gd (v = 0 ∨ v = 1) (k lv st (jup μ p b v)) else none) else none
    | Sum.inr (Sum.inr q) :: Sum.inr (Sum.inr p) :: st => bif Nat.beq (KD p) a then (bif Nat.beq (FT a b) 3 then k lv st (jup μ p b q) else none) else none
    | _ => none
  | .iaload => match st with
    | Sum.inl i :: Sum.inr (Sum.inr p) :: st => bif Nat.beq (KD p) 20 then gd (0 ≤ i ∧ i < LN p) (k lv (jI (μ p i) :: st) μ) else none
    | _ => none
  | .baload => match st with
    | Sum.inl i :: Sum.inr (Sum.inr p) :: st => bif Nat.beq (KD p) a then gd (0 ≤ i ∧ i < LN p) (k lv (jI (μ p i) :: st) μ) else none
    | _ => none
  | .laload => match st with
    | Sum.inl i :: Sum.inr (Sum.inr p) :: st => bif Nat.beq (KD p) 23 then gd (0 ≤ i ∧ i < LN p) (k lv (jL (μ p i) :: st) μ) else none
    | _ => none
  | .aaload => match st with
    | Sum.inl i :: Sum.inr (Sum.inr p) :: st => bif Nat.beq (KD p) a then gd (0 ≤ i ∧ i < LN p) (k lv (jR (RF p i) :: st) μ) else none
    | _ => none
  | .iastore => match st with
    | Sum.inl v :: Sum.inl i :: Sum.inr (Sum.inr p) :: st => bif Nat.beq (KD p) 20 then gd (0 ≤ i ∧ i < LN p) (k lv st (jup μ p i v)) else none
    | _ => none
  | .bastore => match st with
    | Sum.inl v :: Sum.inl i :: Sum.inr (Sum.inr p) :: st => bif Nat.beq (KD p) a then gd (0 ≤ i ∧ i < LN p) (bif Nat.beq a 21 then k lv st (jup μ p i (jb8 v)) else gd (v = 0 ∨ v = 1) (k lv st (jup μ p i v))) else none
    | _ => none
  | .lastore => match st with
    | Sum.inr (Sum.inl v) :: Sum.inl i :: Sum.inr (Sum.inr p) :: st => bif Nat.beq (KD p) 23 then gd (0 ≤ i ∧ i < LN p) (k lv st (jup μ p i v)) else none
    | _ => none
  | .arraylength => match st with
    | Sum.inr (Sum.inr p) :: st => bif Nat.ble 20 (KD p) && Nat.ble (KD p) 27 then k lv (jI (LN p) :: st) μ else none
    | _ => none
  | .lmul => match st with
    | Sum.inl y :: Sum.inl x :: st => bif Nat.ble (jcat st) 8 then k lv (jI (max x y) :: st) μ else none
    | _ => none
  | .lsub => match st with
    | Sum.inl y :: Sum.inl x :: st => bif Nat.ble (jcat st) 8 then k lv (jI (min x y) :: st) μ else none
    | _ => none
  | .lneg => match st with
    | Sum.inl x :: st => bif Nat.ble (jcat st) 8 then k lv (jI (jabs x) :: st) μ else none
    | _ => none
  | .invokedynamic _ => match st with
    | [Sum.inl n, Sum.inl dp, Sum.inr (Sum.inr q), Sum.inl sp, Sum.inr (Sum.inr p)] => bif Nat.beq (KD p) 20 && Nat.beq (KD q) 20 then gd (0 ≤ n ∧ 0 ≤ sp ∧ 0 ≤ dp ∧ sp + n ≤ LN p ∧ dp + n ≤ LN q) (k lv [] (jfill μ q (fun j => if dp ≤ j ∧ j < dp + n then μ p (sp + (j - dp)) else μ q j))) else none
    | _ => none
  | _ => none
def jret (c : Nat) (o : Option jO) (st : jSt) (k : jSt → jM → Option jO) : Option jO := match c with
  | 0 => bV o (fun μ => k st μ)
  | 1 => bI o (fun x μ => k (jI x :: st) μ)
  | _ => bL o (fun x μ => k (jL x :: st) μ)
def jsw (k : Int → Option jO) (d : Int) (x : Int) : List (Int × Int) → Option jO
  | [] => k d
  | q :: l => if x = q.1 then k q.2 else jsw k d x l
/-- code: a jump back, or into a loop's head, is J; a jump on skips entries; C calls -/
def jB (J : Nat → jLs → jSt → jM → Option jO) (C : Nat → jSt → jM → Option jO) : Nat → List jIn → jLs → jSt → jM → Option jO
  | 0, _, _, _, _ => none
  | _ + 1, [], _, _, _ => none
  | n + 1, (i, a, b, c, _, _) :: is, lv, st, μ => match i with
    | .nop => J a lv st μ
    | .goto _ => bif Nat.beq a 0 then jB J C n (is.drop b) lv st μ else J b lv st μ
    | .ifCond q _ => match st with
      | Sum.inl x :: st => jc q x 0 (bif Nat.beq a 0 then jB J C n (is.drop b) lv st μ else J b lv st μ) (jB J C n is lv st μ)
      | _ => none
    | .if_icmp q _ => match st with
      | Sum.inl y :: Sum.inl x :: st => jc q x y (bif Nat.beq a 0 then jB J C n (is.drop b) lv st μ else J b lv st μ) (jB J C n is lv st μ)
      | _ => none
    | .lookupswitch d ps => match st with
      | Sum.inl x :: st => jsw (fun t => jB J C n (is.drop t.toNat) lv st μ) d x ps.toList
      | _ => none
    | .invokevirtual y => bif Nat.ble a st.length && Nat.ble (jcat (st.drop a)) 8 then (match (st.take a).reverse with
      | Sum.inr (Sum.inr p) :: args => bif Nat.beq (KD p) c then jret b (C y (jR p :: args) μ) (st.drop a) (fun st μ => jB J C n is lv st μ) else none
      | _ => none) else none
    | .invokestatic y => bif Nat.ble a st.length && Nat.ble (jcat (st.drop a)) 8 then jret b (C y (st.take a).reverse μ) (st.drop a) (fun st μ => jB J C n is lv st μ) else none
    | .ireturn => match st with
      | [Sum.inl x] => bif Nat.beq a 0 then rI x μ else gd (x = 0 ∨ x = 1) (rI x μ)
      | _ => none
    | .lreturn => match st with
      | [Sum.inr (Sum.inl x)] => rL x μ
      | _ => none
    | .return_ => match st with
      | [] => rV μ
      | _ => none
    | .athrow => match st with
      | [] => rT μ
      | _ => none
    | i => j1 i a b lv st μ (fun lv st μ => jB J C n is lv st μ)
def jcode (T : jT) (L : Nat) : List jIn := T.1.drop (T.2.getD L ([], 0)).2
def jlive (T : jT) (L : Nat) (lv : jLs) : jLs := jmk (T.2.getD L ([], 0)).1 lv
def jstep (T : jT) (C : Nat → jSt → jM → Option jO) (J : Nat → jLs → jSt → jM → Option jO) (L : Nat) (lv : jLs) (st : jSt) (μ : jM) : Option jO := jB (fun L' lv' st' μ' => J L' (jlive T L' lv') st' μ') C 400 (jcode T L) lv st μ
def jn (T : jT) (C : Nat → jSt → jM → Option jO) : Nat → Nat → jLs → jSt → jM → Option jO
  | 0 => fun _ _ _ _ => none
  | n + 1 => jstep T C (jn T C n)
/-- what the loops come to -/
noncomputable def EVc (T : jT) (C : Nat → jSt → jM → Option jO) (L : Nat) (lv : jLs) (st : jSt) (μ : jM) : Option jO := @dite _ _ (Classical.propDecidable _) (fun h : ∃ (n : Nat) (o : jO), jn T C n L lv st μ = some o => some (Classical.choose (Classical.choose_spec h))) (fun _ => none)
end
section
theorem j1_spec (i : Instr) (a b : Nat) (lv : jLs) (st : jSt) (μ : jM) : (∀ k, j1 i a b lv st μ k = none) ∨ ∃ (lv' : jLs) (st' : jSt) (μ' : jM), ∀ k, j1 i a b lv st μ k = k lv' st' μ' := by
  unfold j1
  split <;> (try unfold gd) <;> (repeat' (first | (simp only [cond_true, cond_false]) | split | (simp only [Bool.cond_eq_ite]))) <;> first | exact Or.inl (fun _ => trivial) | exact Or.inl (fun _ => rfl) | exact Or.inr ⟨_, _, _, fun _ => rfl⟩
def jX : Type := Option jO ⊕ (Nat × jLs × jSt × jM)
def jXr (J : Nat → jLs → jSt → jM → Option jO) (x : Option jO ⊕ (Nat × jLs × jSt × jM)) : Option jO := match x with
  | Sum.inl o => o
  | Sum.inr q => J q.1 q.2.1 q.2.2.1 q.2.2.2
theorem jXr_l (J : Nat → jLs → jSt → jM → Option jO) (o : Option jO) : jXr J (Sum.inl o) = o := rfl
/-- a piece of code ends, or jumps: to where, its own start alone says -/
theorem jB_spec (C : Nat → jSt → jM → Option jO) : ∀ (n : Nat) (is : List jIn) (lv : jLs) (st : jSt) (μ : jM), ∃ x : Option jO ⊕ (Nat × jLs × jSt × jM), ∀ J, jB J C n is lv st μ = jXr J x
  | 0, _, _, _, _ => ⟨Sum.inl none, fun _ => rfl⟩
  | _ + 1, [], _, _, _ => ⟨Sum.inl none, fun _ => rfl⟩
  | n + 1, (i, a, b, c, h, pc) :: is, lv, st, μ => by
    have ih := jB_spec C n
    have two : ∀ (P : Prop) [Decidable P] (f g : (Nat → jLs → jSt → jM → Option jO) → Option jO), (∃ x, ∀ J, f J = jXr J x) → (∃ x, ∀ J, g J = jXr J x) → ∃ x, ∀ J, (if P then f J else g J) = jXr J x := by
      intro P _ f g hf hg
      by_cases hP : P
      · obtain ⟨x, hx⟩ := hf
        exact ⟨x, fun J => by rw [if_pos hP]; exact hx J⟩
      · obtain ⟨x, hx⟩ := hg
        exact ⟨x, fun J => by rw [if_neg hP]; exact hx J⟩
    have cnd : ∀ (q : Bool) (f g : (Nat → jLs → jSt → jM → Option jO) → Option jO), (∃ x, ∀ J, f J = jXr J x) → (∃ x, ∀ J, g J = jXr J x) → ∃ x, ∀ J, (bif q then f J else g J) = jXr J x := by
      intro q f g hf hg
      cases q
      · exact hg
      · exact hf
    have jmp : ∀ (L : Nat) (lv : jLs) (st : jSt) (μ : jM), ∃ x, ∀ J : Nat → jLs → jSt → jM → Option jO, J L lv st μ = jXr J x := fun L lv st μ => ⟨Sum.inr (L, lv, st, μ), fun _ => rfl⟩
    have non : ∀ o : Option jO, ∃ x, ∀ J : Nat → jLs → jSt → jM → Option jO, o = jXr J x := fun o => ⟨Sum.inl o, fun _ => rfl⟩
    have tgt : ∀ (lv : jLs) (st : jSt) (μ : jM), ∃ x, ∀ J, (bif Nat.beq a 0 then jB J C n (is.drop b) lv st μ else J b lv st μ) = jXr J x := fun lv st μ => cnd _ _ _ (ih _ _ _ _) (jmp _ _ _ _)
    have jcs : ∀ (q : ClassFile.Cond) (x y : Int) (f g : (Nat → jLs → jSt → jM → Option jO) → Option jO), (∃ x, ∀ J, f J = jXr J x) → (∃ x, ∀ J, g J = jXr J x) → ∃ z, ∀ J, jc q x y (f J) (g J) = jXr J z := by
      intro q x y f g hf hg
      cases q
      · exact two _ _ _ hf hg
      · exact two _ _ _ hg hf
      · exact two _ _ _ hf hg
      · exact two _ _ _ hg hf
      · exact two _ _ _ hf hg
      · exact two _ _ _ hg hf
    have rets : ∀ (r : Nat) (o : Option jO) (st : jSt) (f : (Nat → jLs → jSt → jM → Option jO) → jSt → jM → Option jO), (∀ st μ, ∃ x, ∀ J, f J st μ = jXr J x) → ∃ x, ∀ J, jret r o st (f J) = jXr J x := by
      intro r o st f hf
      match r with
      | 0 =>
        show ∃ x, ∀ J, bV o (fun μ => f J st μ) = jXr J x
        unfold bV
        split
        · exact hf _ _
        · exact non _
      | 1 =>
        show ∃ x, ∀ J, bI o (fun x μ => f J (jI x :: st) μ) = jXr J x
        unfold bI
        split
        · exact hf _ _
        · exact non _
      | _ + 2 =>
        show ∃ x, ∀ J, bL o (fun x μ => f J (jL x :: st) μ) = jXr J x
        unfold bL
        split
        · exact hf _ _
        · exact non _
    have sws : ∀ (x d : Int) (l : List (Int × Int)) (st : jSt), ∃ z, ∀ J, jsw (fun t => jB J C n (is.drop t.toNat) lv st μ) d x l = jXr J z := by
      intro x d l st
      induction l with
      | nil => exact ih _ _ _ _
      | cons q l il =>
        show ∃ z, ∀ J, (if x = q.1 then jB J C n (is.drop q.2.toNat) lv st μ else jsw (fun t => jB J C n (is.drop t.toNat) lv st μ) d x l) = jXr J z
        exact two _ _ _ (ih _ _ _ _) il
    unfold jB
    split
    · exact jmp _ _ _ _
    · exact tgt _ _ _
    · split
      · exact jcs _ _ _ _ _ (tgt _ _ _) (ih _ _ _ _)
      · exact non _
    · split
      · exact jcs _ _ _ _ _ (tgt _ _ _) (ih _ _ _ _)
      · exact non _
    · split
      · exact sws _ _ _ _
      · exact non _
    · refine cnd _ _ _ ?_ (non _)
      split
      · exact cnd _ _ _ (rets _ _ _ _ (fun st μ => ih _ _ _ _)) (non _)
      · exact non _
    · exact cnd _ _ _ (rets _ _ _ _ (fun st μ => ih _ _ _ _)) (non _)
    · exact non _
    · exact non _
    · exact non _
    · exact non _
    · rcases j1_spec i a b lv st μ with hk | ⟨lv', st', μ', hk⟩
      · exact ⟨Sum.inl none, fun J => hk _⟩
      · obtain ⟨x, hx⟩ := ih is lv' st' μ'
        exact ⟨x, fun J => (hk _).trans (hx J)⟩
theorem jstep_spec (T : jT) (C : Nat → jSt → jM → Option jO) (L : Nat) (lv : jLs) (st : jSt) (μ : jM) : ∃ x : Option jO ⊕ (Nat × jLs × jSt × jM), ∀ J, jstep T C J L lv st μ = jXr (fun L' lv' st' μ' => J L' (jlive T L' lv') st' μ') x := by
  obtain ⟨x, hx⟩ := jB_spec C 400 (jcode T L) lv st μ
  exact ⟨x, fun J => hx _⟩
theorem jn_up (T : jT) (C : Nat → jSt → jM → Option jO) : ∀ (n L : Nat) (lv : jLs) (st : jSt) (μ : jM) (o : jO), jn T C n L lv st μ = some o → jn T C (n + 1) L lv st μ = some o
  | 0, _, _, _, _, _, h => by cases h
  | n + 1, L, lv, st, μ, o, h => by
    obtain ⟨x, hx⟩ := jstep_spec T C L lv st μ
    have h1 : jn T C (n + 1) L lv st μ = jXr _ x := hx (jn T C n)
    have h2 : jn T C (n + 1 + 1) L lv st μ = jXr _ x := hx (jn T C (n + 1))
    rw [h2]
    rw [h1] at h
    cases x with
    | inl r => exact h
    | inr q => exact jn_up T C n _ _ _ _ _ h
theorem jn_le (T : jT) (C : Nat → jSt → jM → Option jO) {n k L : Nat} {lv : jLs} {st : jSt} {μ : jM} {o : jO} (hk : n ≤ k) (h : jn T C n L lv st μ = some o) : jn T C k L lv st μ = some o := by
  induction hk with
  | refl => exact h
  | step _ ih => exact jn_up T C _ _ _ _ _ _ ih
theorem EVc_iff (T : jT) (C : Nat → jSt → jM → Option jO) (L : Nat) (lv : jLs) (st : jSt) (μ : jM) (o : jO) : EVc T C L lv st μ = some o ↔ ∃ n, jn T C n L lv st μ = some o := by
  unfold EVc
  constructor
  · intro h
    by_cases hx : ∃ (n : Nat) (o : jO), jn T C n L lv st μ = some o
    · rw [dif_pos hx] at h
      refine ⟨Classical.choose hx, ?_⟩
      rw [← h]
      exact Classical.choose_spec (Classical.choose_spec hx)
    · rw [dif_neg hx] at h
      cases h
  · rintro ⟨n, hn⟩
    have hx : ∃ (n : Nat) (o : jO), jn T C n L lv st μ = some o := ⟨n, o, hn⟩
    rw [dif_pos hx]
    have h2 := Classical.choose_spec (Classical.choose_spec hx)
    have e1 := jn_le T C (Nat.le_max_left n (Classical.choose hx)) hn
    have e2 := jn_le T C (Nat.le_max_right n (Classical.choose hx)) h2
    rw [← e1, ← e2]
theorem EVc_eq (T : jT) (C : Nat → jSt → jM → Option jO) (L : Nat) (lv : jLs) (st : jSt) (μ : jM) : EVc T C L lv st μ = jstep T C (EVc T C) L lv st μ := by
  apply Option.ext
  intro o
  rw [EVc_iff]
  obtain ⟨x, hx⟩ := jstep_spec T C L lv st μ
  rw [hx]
  constructor
  · rintro ⟨n, hn⟩
    cases n with
    | zero => cases hn
    | succ n =>
      have h1 : jn T C (n + 1) L lv st μ = jXr _ x := hx (jn T C n)
      rw [h1] at hn
      cases x with
      | inl r => exact hn
      | inr q => exact (EVc_iff T C _ _ _ _ _).mpr ⟨n, hn⟩
  · intro h
    cases x with
    | inl r =>
      refine ⟨1, ?_⟩
      have h1 : jn T C 1 L lv st μ = jXr _ (Sum.inl r) := hx (jn T C 0)
      rw [h1]
      exact h
    | inr q =>
      obtain ⟨n, hn⟩ := (EVc_iff T C _ _ _ _ _).mp h
      refine ⟨n + 1, ?_⟩
      have h1 : jn T C (n + 1) L lv st μ = jXr _ (Sum.inr q) := hx (jn T C n)
      rw [h1]
      exact hn
/-- calls, at most d deep; MT: the methods -/
noncomputable def jCL (MT : List (jT × Nat)) : Nat → Nat → jSt → jM → Option jO
  | 0 => fun _ _ _ => none
  | d + 1 => fun n args μ => match MT[n]? with
    | some q => bif args.all (fun v => !jisL (some v)) && Nat.ble args.length q.2 then EVc q.1 (jCL MT d) 0 (args.map some ++ List.replicate (q.2 - args.length) none) [] μ else none
    | none => none
end
section
def T_bitCount : jT := ([(.iload 0, 0, 0, 0, 0, 0), (.iload 0, 0, 0, 0, 0, 1), (.iconst 1, 0, 0, 0, 0, 2), (.iushr, 0, 0, 0, 0, 3), (.iconst 1431655765, 0, 0, 0, 640, 4), (.iand, 0, 0, 0, 0, 7), (.isub, 0, 0, 0, 0, 8), (.istore 0, 0, 0, 0, 0, 9), (.iload 0, 0, 0, 0, 0, 10), (.iconst 858993459, 0, 0, 0, 641, 11), (.iand, 0, 0, 0, 0, 14), (.iload 0, 0, 0, 0, 0, 15), (.iconst 2, 0, 0, 0, 0, 16), (.iushr, 0, 0, 0, 0, 17), (.iconst 858993459, 0, 0, 0, 641, 18), (.iand, 0, 0, 0, 0, 21), (.iadd, 0, 0, 0, 0, 22), (.istore 0, 0, 0, 0, 0, 23), (.iload 0, 0, 0, 0, 0, 24), (.iload 0, 0, 0, 0, 0, 25), (.iconst 4, 0, 0, 0, 0, 26), (.iushr, 0, 0, 0, 0, 27), (.iadd, 0, 0, 0, 0, 28), (.iconst 252645135, 0, 0, 0, 642, 29), (.iand, 0, 0, 0, 0, 32), (.istore 0, 0, 0, 0, 0, 33), (.iload 0, 0, 0, 0, 0, 34), (.iload 0, 0, 0, 0, 0, 35), (.iconst 8, 0, 0, 0, 0, 36), (.iushr, 0, 0, 0, 0, 38), (.iadd, 0, 0, 0, 0, 39), (.istore 0, 0, 0, 0, 0, 40), (.iload 0, 0, 0, 0, 0, 41), (.iload 0, 0, 0, 0, 0, 42), (.iconst 16, 0, 0, 0, 0, 43), (.iushr, 0, 0, 0, 0, 45), (.iadd, 0, 0, 0, 0, 46), (.istore 0, 0, 0, 0, 0, 47), (.iload 0, 0, 0, 0, 0, 48), (.iconst 63, 0, 0, 0, 0, 49), (.iand, 0, 0, 0, 0, 51), (.ireturn, 0, 0, 0, 0, 52)], [([true], 0)])
def T_fill : jT := ([(.iconst 0, 0, 0, 0, 0, 0), (.istore 2, 0, 0, 0, 0, 1), (.aload 0, 0, 0, 0, 0, 2), (.arraylength, 0, 0, 0, 0, 3), (.istore 3, 0, 0, 0, 0, 4), (.nop, 1, 0, 0, 0, 5), (.iload 2, 0, 0, 0, 0, 5), (.iload 3, 0, 0, 0, 0, 6), (.if_icmp .ge 0, 0, 6, 0, 0, 7), (.aload 0, 0, 0, 0, 0, 10), (.iload 2, 0, 0, 0, 0, 11), (.iload 1, 0, 0, 0, 0, 12), (.iastore, 0, 0, 0, 0, 13), (.iinc 2 1, 0, 0, 0, 0, 14), (.goto 0, 1, 1, 0, 0, 17), (.return_, 0, 0, 0, 0, 20)], [([true, true, true, true], 0), ([true, true, true, true], 6)])
def T_X0_size : jT := ([(.aload 0, 0, 0, 0, 0, 0), (.getfield 0, 0, 1, 0, 255, 1), (.ireturn, 0, 0, 0, 0, 4)], [([true], 0)])
def T_X0_set : jT := ([(.aload 0, 0, 0, 0, 0, 0), (.getfield 0, 0, 2, 0, 256, 1), (.ireturn, 0, 0, 0, 0, 4)], [([true], 0)])
def T_X0_last : jT := ([(.aload 0, 0, 0, 0, 0, 0), (.getfield 0, 0, 1, 0, 255, 1), (.ifCond .le 0, 0, 12, 0, 0, 4), (.aload 0, 0, 0, 0, 0, 7), (.getfield 0, 0, 1, 0, 255, 8), (.iconst 10, 0, 0, 0, 0, 11), (.if_icmp .gt 0, 0, 8, 0, 0, 13), (.aload 0, 0, 0, 0, 0, 16), (.getfield 0, 0, 0, 0, 254, 17), (.aload 0, 0, 0, 0, 0, 20), (.getfield 0, 0, 1, 0, 255, 21), (.iconst 1, 0, 0, 0, 0, 24), (.isub, 0, 0, 0, 0, 25), (.iaload, 0, 0, 0, 0, 26), (.goto 0, 0, 1, 0, 0, 27), (.iconst (-1), 0, 0, 0, 0, 30), (.ireturn, 0, 0, 0, 0, 31)], [([true], 0)])
def T_X0_add : jT := ([(.aload 0, 0, 0, 0, 0, 0), (.getfield 0, 0, 1, 0, 255, 1), (.iconst 10, 0, 0, 0, 0, 4), (.if_icmp .ge 0, 0, 20, 0, 0, 6), (.aload 0, 0, 0, 0, 0, 9), (.getfield 0, 0, 0, 0, 254, 10), (.aload 0, 0, 0, 0, 0, 13), (.getfield 0, 0, 1, 0, 255, 14), (.iload 1, 0, 0, 0, 0, 17), (.iastore, 0, 0, 0, 0, 18), (.aload 0, 0, 0, 0, 0, 19), (.dup, 0, 0, 0, 0, 20), (.getfield 0, 0, 1, 0, 255, 21), (.iconst 1, 0, 0, 0, 0, 24), (.iadd, 0, 0, 0, 0, 25), (.putfield 0, 0, 1, 0, 255, 26), (.aload 0, 0, 0, 0, 0, 29), (.dup, 0, 0, 0, 0, 30), (.getfield 0, 0, 2, 0, 256, 31), (.iconst 1, 0, 0, 0, 0, 34), (.iload 1, 0, 0, 0, 0, 35), (.ishl, 0, 0, 0, 0, 36), (.ior, 0, 0, 0, 0, 37), (.putfield 0, 0, 2, 0, 256, 38), (.return_, 0, 0, 0, 0, 41)], [([true, true], 0)])
def T_X0_takeLast : jT := ([(.aload 0, 0, 0, 0, 0, 0), (.invokevirtual 4, 1, 1, 0, 672, 1), (.istore 1, 0, 0, 0, 0, 4), (.iload 1, 0, 0, 0, 0, 5), (.iconst (-1), 0, 0, 0, 0, 6), (.if_icmp .eq 0, 0, 16, 0, 0, 7), (.aload 0, 0, 0, 0, 0, 10), (.dup, 0, 0, 0, 0, 11), (.getfield 0, 0, 1, 0, 255, 12), (.iconst 1, 0, 0, 0, 0, 15), (.isub, 0, 0, 0, 0, 16), (.putfield 0, 0, 1, 0, 255, 17), (.aload 0, 0, 0, 0, 0, 20), (.dup, 0, 0, 0, 0, 21), (.getfield 0, 0, 2, 0, 256, 22), (.iconst 1, 0, 0, 0, 0, 25), (.iload 1, 0, 0, 0, 0, 26), (.ishl, 0, 0, 0, 0, 27), (.iconst (-1), 0, 0, 0, 0, 28), (.ixor, 0, 0, 0, 0, 29), (.iand, 0, 0, 0, 0, 30), (.putfield 0, 0, 2, 0, 256, 31), (.iload 1, 0, 0, 0, 0, 34), (.ireturn, 0, 0, 0, 0, 35)], [([true, true], 0)])
def T_X0_clear : jT := ([(.aload 0, 0, 0, 0, 0, 0), (.iconst 0, 0, 0, 0, 0, 1), (.putfield 0, 0, 1, 0, 255, 2), (.aload 0, 0, 0, 0, 0, 5), (.iconst 0, 0, 0, 0, 0, 6), (.putfield 0, 0, 2, 0, 256, 7), (.return_, 0, 0, 0, 0, 10)], [([true], 0)])
def T_X0_copy : jT := ([(.aload 1, 0, 0, 0, 0, 0), (.getfield 0, 0, 0, 0, 254, 1), (.iconst 0, 0, 0, 0, 0, 4), (.aload 0, 0, 0, 0, 0, 5), (.getfield 0, 0, 0, 0, 254, 6), (.iconst 0, 0, 0, 0, 0, 9), (.iconst 10, 0, 0, 0, 0, 10), (.invokedynamic 0, 0, 0, 0, 1309, 12), (.aload 0, 0, 0, 0, 0, 15), (.aload 1, 0, 0, 0, 0, 16), (.getfield 0, 0, 1, 0, 255, 17), (.putfield 0, 0, 1, 0, 255, 20), (.aload 0, 0, 0, 0, 0, 23), (.aload 1, 0, 0, 0, 0, 24), (.getfield 0, 0, 2, 0, 256, 25), (.putfield 0, 0, 2, 0, 256, 28), (.return_, 0, 0, 0, 0, 31)], [([true, true], 0)])
def T_X1_dishes : jT := ([(.aload 0, 0, 0, 0, 0, 0), (.getfield 0, 1, 7, 0, 161, 1), (.ireturn, 0, 0, 0, 0, 4)], [([true], 0)])
def T_X1_guests : jT := ([(.aload 0, 0, 0, 0, 0, 0), (.getfield 0, 1, 8, 0, 162, 1), (.ireturn, 0, 0, 0, 0, 4)], [([true], 0)])
def T_X1_hasDish : jT := ([(.iload 1, 0, 0, 0, 0, 0), (.ifCond .lt 0, 0, 6, 0, 0, 1), (.iload 1, 0, 0, 0, 0, 4), (.aload 0, 0, 0, 0, 0, 5), (.getfield 0, 1, 7, 0, 161, 6), (.if_icmp .ge 0, 0, 2, 0, 0, 9), (.iconst 1, 0, 0, 0, 0, 12), (.goto 0, 0, 1, 0, 0, 13), (.iconst 0, 0, 0, 0, 0, 16), (.ireturn, 1, 0, 0, 0, 17)], [([true, true], 0)])
def T_X1_hasGuest : jT := ([(.iload 1, 0, 0, 0, 0, 0), (.ifCond .lt 0, 0, 6, 0, 0, 1), (.iload 1, 0, 0, 0, 0, 4), (.aload 0, 0, 0, 0, 0, 5), (.getfield 0, 1, 8, 0, 162, 6), (.if_icmp .ge 0, 0, 2, 0, 0, 9), (.iconst 1, 0, 0, 0, 0, 12), (.goto 0, 0, 1, 0, 0, 13), (.iconst 0, 0, 0, 0, 0, 16), (.ireturn, 1, 0, 0, 0, 17)], [([true, true], 0)])
def T_X1_all : jT := ([(.iconst 1, 0, 0, 0, 0, 0), (.aload 0, 0, 0, 0, 0, 1), (.getfield 0, 1, 7, 0, 161, 2), (.ishl, 0, 0, 0, 0, 5), (.iconst 1, 0, 0, 0, 0, 6), (.isub, 0, 0, 0, 0, 7), (.ireturn, 0, 0, 0, 0, 8)], [([true], 0)])
def T_X1_stuffsOf : jT := ([(.aload 0, 0, 0, 0, 0, 0), (.iload 1, 0, 0, 0, 0, 1), (.invokevirtual 11, 2, 1, 1, 600, 2), (.ifCond .eq 0, 0, 5, 0, 0, 5), (.aload 0, 0, 0, 0, 0, 8), (.getfield 0, 1, 0, 0, 154, 9), (.iload 1, 0, 0, 0, 0, 12), (.iaload, 0, 0, 0, 0, 13), (.goto 0, 0, 1, 0, 0, 14), (.iconst 0, 0, 0, 0, 0, 17), (.ireturn, 0, 0, 0, 0, 18)], [([true, true], 0)])
def T_X1_costOf : jT := ([(.aload 0, 0, 0, 0, 0, 0), (.iload 1, 0, 0, 0, 0, 1), (.invokevirtual 11, 2, 1, 1, 600, 2), (.ifCond .eq 0, 0, 5, 0, 0, 5), (.aload 0, 0, 0, 0, 0, 8), (.getfield 0, 1, 1, 0, 155, 9), (.iload 1, 0, 0, 0, 0, 12), (.iaload, 0, 0, 0, 0, 13), (.goto 0, 0, 1, 0, 0, 14), (.iconst 0, 0, 0, 0, 0, 17), (.ireturn, 0, 0, 0, 0, 18)], [([true, true], 0)])
def T_X1_heatOf : jT := ([(.aload 0, 0, 0, 0, 0, 0), (.iload 1, 0, 0, 0, 0, 1), (.invokevirtual 11, 2, 1, 1, 600, 2), (.ifCond .eq 0, 0, 5, 0, 0, 5), (.aload 0, 0, 0, 0, 0, 8), (.getfield 0, 1, 2, 0, 156, 9), (.iload 1, 0, 0, 0, 0, 12), (.iaload, 0, 0, 0, 0, 13), (.goto 0, 0, 1, 0, 0, 14), (.iconst 0, 0, 0, 0, 0, 17), (.ireturn, 0, 0, 0, 0, 18)], [([true, true], 0)])
def T_X1_hoursOf : jT := ([(.aload 0, 0, 0, 0, 0, 0), (.iload 1, 0, 0, 0, 0, 1), (.invokevirtual 11, 2, 1, 1, 600, 2), (.ifCond .eq 0, 0, 5, 0, 0, 5), (.aload 0, 0, 0, 0, 0, 8), (.getfield 0, 1, 3, 0, 157, 9), (.iload 1, 0, 0, 0, 0, 12), (.iaload, 0, 0, 0, 0, 13), (.goto 0, 0, 1, 0, 0, 14), (.iconst 0, 0, 0, 0, 0, 17), (.ireturn, 0, 0, 0, 0, 18)], [([true, true], 0)])
def T_X1_lovedBy : jT := ([(.aload 0, 0, 0, 0, 0, 0), (.iload 1, 0, 0, 0, 0, 1), (.invokevirtual 12, 2, 1, 1, 759, 2), (.ifCond .eq 0, 0, 5, 0, 0, 5), (.aload 0, 0, 0, 0, 0, 8), (.getfield 0, 1, 4, 0, 158, 9), (.iload 1, 0, 0, 0, 0, 12), (.iaload, 0, 0, 0, 0, 13), (.goto 0, 0, 1, 0, 0, 14), (.iconst 0, 0, 0, 0, 0, 17), (.ireturn, 0, 0, 0, 0, 18)], [([true, true], 0)])
def T_X1_barredBy : jT := ([(.aload 0, 0, 0, 0, 0, 0), (.iload 1, 0, 0, 0, 0, 1), (.invokevirtual 12, 2, 1, 1, 759, 2), (.ifCond .eq 0, 0, 5, 0, 0, 5), (.aload 0, 0, 0, 0, 0, 8), (.getfield 0, 1, 5, 0, 159, 9), (.iload 1, 0, 0, 0, 0, 12), (.iaload, 0, 0, 0, 0, 13), (.goto 0, 0, 1, 0, 0, 14), (.iconst 0, 0, 0, 0, 0, 17), (.ireturn, 0, 0, 0, 0, 18)], [([true, true], 0)])
def T_X1_holdersOf : jT := ([(.iload 1, 0, 0, 0, 0, 0), (.ifCond .lt 0, 0, 8, 0, 0, 1), (.iload 1, 0, 0, 0, 0, 4), (.iconst 8, 0, 0, 0, 0, 5), (.if_icmp .ge 0, 0, 5, 0, 0, 7), (.aload 0, 0, 0, 0, 0, 10), (.getfield 0, 1, 6, 0, 160, 11), (.iload 1, 0, 0, 0, 0, 14), (.iaload, 0, 0, 0, 0, 15), (.goto 0, 0, 1, 0, 0, 16), (.iconst 0, 0, 0, 0, 0, 19), (.ireturn, 0, 0, 0, 0, 20)], [([true, true], 0)])
def T_X1_draftDish : jT := ([(.iload 1, 0, 0, 0, 0, 0), (.aload 0, 0, 0, 0, 0, 1), (.getfield 0, 1, 7, 0, 161, 2), (.if_icmp .lt 0, 0, 23, 0, 0, 5), (.iload 1, 0, 0, 0, 0, 8), (.iconst 10, 0, 0, 0, 0, 9), (.if_icmp .ge 0, 0, 20, 0, 0, 11), (.aload 0, 0, 0, 0, 0, 14), (.getfield 0, 1, 0, 0, 154, 15), (.iload 1, 0, 0, 0, 0, 18), (.iload 2, 0, 0, 0, 0, 19), (.iastore, 0, 0, 0, 0, 20), (.aload 0, 0, 0, 0, 0, 21), (.getfield 0, 1, 1, 0, 155, 22), (.iload 1, 0, 0, 0, 0, 25), (.iload 3, 0, 0, 0, 0, 26), (.iastore, 0, 0, 0, 0, 27), (.aload 0, 0, 0, 0, 0, 28), (.getfield 0, 1, 2, 0, 156, 29), (.iload 1, 0, 0, 0, 0, 32), (.iload 4, 0, 0, 0, 0, 33), (.iastore, 0, 0, 0, 0, 35), (.aload 0, 0, 0, 0, 0, 36), (.getfield 0, 1, 3, 0, 157, 37), (.iload 1, 0, 0, 0, 0, 40), (.iload 5, 0, 0, 0, 0, 41), (.iastore, 0, 0, 0, 0, 43), (.return_, 0, 0, 0, 0, 44)], [([true, true, true, true, true, true], 0)])
def T_X1_draftGuest : jT := ([(.iload 1, 0, 0, 0, 0, 0), (.aload 0, 0, 0, 0, 0, 1), (.getfield 0, 1, 8, 0, 162, 2), (.if_icmp .lt 0, 0, 13, 0, 0, 5), (.iload 1, 0, 0, 0, 0, 8), (.iconst 6, 0, 0, 0, 0, 9), (.if_icmp .ge 0, 0, 10, 0, 0, 11), (.aload 0, 0, 0, 0, 0, 14), (.getfield 0, 1, 4, 0, 158, 15), (.iload 1, 0, 0, 0, 0, 18), (.iload 2, 0, 0, 0, 0, 19), (.iastore, 0, 0, 0, 0, 20), (.aload 0, 0, 0, 0, 0, 21), (.getfield 0, 1, 5, 0, 159, 22), (.iload 1, 0, 0, 0, 0, 25), (.iload 3, 0, 0, 0, 0, 26), (.iastore, 0, 0, 0, 0, 27), (.return_, 0, 0, 0, 0, 28)], [([true, true, true, true], 0)])
def T_X1_takeIn : jT := ([(.iload 1, 0, 0, 0, 0, 0), (.aload 0, 0, 0, 0, 0, 1), (.getfield 0, 1, 7, 0, 161, 2), (.if_icmp .lt 0, 0, 10, 0, 0, 5), (.iload 1, 0, 0, 0, 0, 8), (.iconst 10, 0, 0, 0, 0, 9), (.if_icmp .gt 0, 0, 7, 0, 0, 11), (.iload 2, 0, 0, 0, 0, 14), (.aload 0, 0, 0, 0, 0, 15), (.getfield 0, 1, 8, 0, 162, 16), (.if_icmp .lt 0, 0, 3, 0, 0, 19), (.iload 2, 0, 0, 0, 0, 22), (.iconst 6, 0, 0, 0, 0, 23), (.if_icmp .le 0, 0, 1, 0, 0, 25), (.return_, 0, 0, 0, 0, 28), (.aload 0, 0, 0, 0, 0, 29), (.getfield 0, 1, 7, 0, 161, 30), (.istore 3, 0, 0, 0, 0, 33), (.nop, 1, 0, 0, 0, 34), (.iload 3, 0, 0, 0, 0, 34), (.iload 1, 0, 0, 0, 0, 35), (.if_icmp .ge 0, 0, 27, 0, 0, 36), (.iconst 0, 0, 0, 0, 0, 39), (.istore 4, 0, 0, 0, 0, 40), (.nop, 2, 0, 0, 0, 42), (.iload 4, 0, 0, 0, 0, 42), (.iconst 8, 0, 0, 0, 0, 44), (.if_icmp .ge 0, 0, 19, 0, 0, 46), (.aload 0, 0, 0, 0, 0, 49), (.getfield 0, 1, 6, 0, 160, 50), (.iload 4, 0, 0, 0, 0, 53), (.dup2, 0, 0, 0, 0, 55), (.iaload, 0, 0, 0, 0, 56), (.aload 0, 0, 0, 0, 0, 57), (.getfield 0, 1, 0, 0, 154, 58), (.iload 3, 0, 0, 0, 0, 61), (.iaload, 0, 0, 0, 0, 62), (.iload 4, 0, 0, 0, 0, 63), (.ishr, 0, 0, 0, 0, 65), (.iconst 1, 0, 0, 0, 0, 66), (.iand, 0, 0, 0, 0, 67), (.iload 3, 0, 0, 0, 0, 68), (.ishl, 0, 0, 0, 0, 69), (.ior, 0, 0, 0, 0, 70), (.iastore, 0, 0, 0, 0, 71), (.iinc 4 1, 0, 0, 0, 0, 72), (.goto 0, 1, 2, 0, 0, 75), (.iinc 3 1, 0, 0, 0, 0, 78), (.goto 0, 1, 1, 0, 0, 81), (.aload 0, 0, 0, 0, 0, 84), (.iload 1, 0, 0, 0, 0, 85), (.putfield 0, 1, 7, 0, 161, 86), (.aload 0, 0, 0, 0, 0, 89), (.iload 2, 0, 0, 0, 0, 90), (.putfield 0, 1, 8, 0, 162, 91), (.return_, 0, 0, 0, 0, 94)], [([true, true, true, true, true], 0), ([true, true, true, true, false], 19), ([true, true, true, true, true], 25)])
def T_X1_price : jT := ([(.aload 0, 0, 0, 0, 0, 0), (.iload 1, 0, 0, 0, 0, 1), (.invokevirtual 11, 2, 1, 1, 600, 2), (.ifCond .eq 0, 0, 5, 0, 0, 5), (.aload 0, 0, 0, 0, 0, 8), (.getfield 0, 1, 1, 0, 155, 9), (.iload 1, 0, 0, 0, 0, 12), (.iload 2, 0, 0, 0, 0, 13), (.iastore, 0, 0, 0, 0, 14), (.return_, 0, 0, 0, 0, 15)], [([true, true, true], 0)])
def T_X1_costOfAll : jT := ([(.iconst 0, 0, 0, 0, 0, 0), (.istore 2, 0, 0, 0, 0, 1), (.iconst 0, 0, 0, 0, 0, 2), (.istore 3, 0, 0, 0, 0, 3), (.nop, 1, 0, 0, 0, 4), (.iload 3, 0, 0, 0, 0, 4), (.aload 0, 0, 0, 0, 0, 5), (.getfield 0, 1, 7, 0, 161, 6), (.if_icmp .ge 0, 0, 15, 0, 0, 9), (.iload 2, 0, 0, 0, 0, 12), (.iload 1, 0, 0, 0, 0, 13), (.iload 3, 0, 0, 0, 0, 14), (.ishr, 0, 0, 0, 0, 15), (.iconst 1, 0, 0, 0, 0, 16), (.iand, 0, 0, 0, 0, 17), (.aload 0, 0, 0, 0, 0, 18), (.getfield 0, 1, 1, 0, 155, 19), (.iload 3, 0, 0, 0, 0, 22), (.iaload, 0, 0, 0, 0, 23), (.imul, 0, 0, 0, 0, 24), (.iadd, 0, 0, 0, 0, 25), (.istore 2, 0, 0, 0, 0, 26), (.iinc 3 1, 0, 0, 0, 0, 27), (.goto 0, 1, 1, 0, 0, 30), (.iload 2, 0, 0, 0, 0, 33), (.ireturn, 0, 0, 0, 0, 34)], [([true, true, true, true], 0), ([true, true, true, true], 5)])
def T_X1_isHungry : jT := ([(.aload 0, 0, 0, 0, 0, 0), (.iload 1, 0, 0, 0, 0, 1), (.invokevirtual 19, 2, 1, 1, 755, 2), (.aload 0, 0, 0, 0, 0, 5), (.iload 2, 0, 0, 0, 0, 6), (.invokevirtual 14, 2, 1, 1, 629, 7), (.iand, 0, 0, 0, 0, 10), (.ifCond .eq 0, 0, 2, 0, 0, 11), (.iconst 1, 0, 0, 0, 0, 14), (.goto 0, 0, 1, 0, 0, 15), (.iconst 0, 0, 0, 0, 0, 18), (.ireturn, 1, 0, 0, 0, 19)], [([true, true, true], 0)])
def T_X1_hungryAt : jT := ([(.iconst 0, 0, 0, 0, 0, 0), (.istore 2, 0, 0, 0, 0, 1), (.iconst 0, 0, 0, 0, 0, 2), (.istore 3, 0, 0, 0, 0, 3), (.nop, 1, 0, 0, 0, 4), (.iload 3, 0, 0, 0, 0, 4), (.aload 0, 0, 0, 0, 0, 5), (.getfield 0, 1, 8, 0, 162, 6), (.if_icmp .ge 0, 0, 15, 0, 0, 9), (.iload 2, 0, 0, 0, 0, 12), (.aload 0, 0, 0, 0, 0, 13), (.iload 3, 0, 0, 0, 0, 14), (.iload 1, 0, 0, 0, 0, 15), (.invokevirtual 26, 3, 1, 1, 751, 16), (.ifCond .eq 0, 0, 4, 0, 0, 19), (.iconst 1, 0, 0, 0, 0, 22), (.iload 3, 0, 0, 0, 0, 23), (.ishl, 0, 0, 0, 0, 24), (.goto 0, 0, 1, 0, 0, 25), (.iconst 0, 0, 0, 0, 0, 28), (.ior, 0, 0, 0, 0, 29), (.istore 2, 0, 0, 0, 0, 30), (.iinc 3 1, 0, 0, 0, 0, 31), (.goto 0, 1, 1, 0, 0, 34), (.iload 2, 0, 0, 0, 0, 37), (.ireturn, 0, 0, 0, 0, 38)], [([true, true, true, true], 0), ([true, true, true, true], 5)])
def T_X1_barredTo : jT := ([(.iconst 0, 0, 0, 0, 0, 0), (.istore 2, 0, 0, 0, 0, 1), (.iconst 0, 0, 0, 0, 0, 2), (.istore 3, 0, 0, 0, 0, 3), (.nop, 1, 0, 0, 0, 4), (.iload 3, 0, 0, 0, 0, 4), (.aload 0, 0, 0, 0, 0, 5), (.getfield 0, 1, 7, 0, 161, 6), (.if_icmp .ge 0, 0, 15, 0, 0, 9), (.iload 2, 0, 0, 0, 0, 12), (.aload 0, 0, 0, 0, 0, 13), (.iload 1, 0, 0, 0, 0, 14), (.iload 3, 0, 0, 0, 0, 15), (.invokevirtual 26, 3, 1, 1, 751, 16), (.ifCond .eq 0, 0, 4, 0, 0, 19), (.iconst 1, 0, 0, 0, 0, 22), (.iload 3, 0, 0, 0, 0, 23), (.ishl, 0, 0, 0, 0, 24), (.goto 0, 0, 1, 0, 0, 25), (.iconst 0, 0, 0, 0, 0, 28), (.ior, 0, 0, 0, 0, 29), (.istore 2, 0, 0, 0, 0, 30), (.iinc 3 1, 0, 0, 0, 0, 31), (.goto 0, 1, 1, 0, 0, 34), (.iload 2, 0, 0, 0, 0, 37), (.ireturn, 0, 0, 0, 0, 38)], [([true, true, true, true], 0), ([true, true, true, true], 5)])
def T_X1_barredToNobody : jT := ([(.aload 0, 0, 0, 0, 0, 0), (.invokevirtual 13, 1, 1, 1, 1132, 1), (.istore 1, 0, 0, 0, 0, 4), (.iconst 0, 0, 0, 0, 0, 5), (.istore 2, 0, 0, 0, 0, 6), (.nop, 1, 0, 0, 0, 7), (.iload 2, 0, 0, 0, 0, 7), (.aload 0, 0, 0, 0, 0, 8), (.getfield 0, 1, 8, 0, 162, 9), (.if_icmp .ge 0, 0, 10, 0, 0, 12), (.iload 1, 0, 0, 0, 0, 15), (.aload 0, 0, 0, 0, 0, 16), (.iload 2, 0, 0, 0, 0, 17), (.invokevirtual 28, 2, 1, 1, 1133, 18), (.iconst (-1), 0, 0, 0, 0, 21), (.ixor, 0, 0, 0, 0, 22), (.iand, 0, 0, 0, 0, 23), (.istore 1, 0, 0, 0, 0, 24), (.iinc 2 1, 0, 0, 0, 0, 25), (.goto 0, 1, 1, 0, 0, 28), (.iload 1, 0, 0, 0, 0, 31), (.ireturn, 0, 0, 0, 0, 32)], [([true, true, true], 0), ([true, true, true], 6)])
def T_X1_hotDishes : jT := ([(.iconst 0, 0, 0, 0, 0, 0), (.istore 1, 0, 0, 0, 0, 1), (.iconst 0, 0, 0, 0, 0, 2), (.istore 2, 0, 0, 0, 0, 3), (.nop, 1, 0, 0, 0, 4), (.iload 2, 0, 0, 0, 0, 4), (.aload 0, 0, 0, 0, 0, 5), (.getfield 0, 1, 7, 0, 161, 6), (.if_icmp .ge 0, 0, 11, 0, 0, 9), (.iload 1, 0, 0, 0, 0, 12), (.aload 0, 0, 0, 0, 0, 13), (.getfield 0, 1, 2, 0, 156, 14), (.iload 2, 0, 0, 0, 0, 17), (.iaload, 0, 0, 0, 0, 18), (.iload 2, 0, 0, 0, 0, 19), (.ishl, 0, 0, 0, 0, 20), (.ior, 0, 0, 0, 0, 21), (.istore 1, 0, 0, 0, 0, 22), (.iinc 2 1, 0, 0, 0, 0, 23), (.goto 0, 1, 1, 0, 0, 26), (.iload 1, 0, 0, 0, 0, 29), (.ireturn, 0, 0, 0, 0, 30)], [([true, true, true], 0), ([true, true, true], 5)])
def T_X1_holdersOfSome : jT := ([(.iconst 0, 0, 0, 0, 0, 0), (.istore 3, 0, 0, 0, 0, 1), (.iconst 0, 0, 0, 0, 0, 2), (.istore 4, 0, 0, 0, 0, 3), (.nop, 1, 0, 0, 0, 5), (.iload 4, 0, 0, 0, 0, 5), (.aload 0, 0, 0, 0, 0, 7), (.getfield 0, 1, 7, 0, 161, 8), (.if_icmp .ge 0, 0, 19, 0, 0, 11), (.iload 3, 0, 0, 0, 0, 14), (.aload 0, 0, 0, 0, 0, 15), (.getfield 0, 1, 0, 0, 154, 16), (.iload 4, 0, 0, 0, 0, 19), (.iaload, 0, 0, 0, 0, 21), (.iload 1, 0, 0, 0, 0, 22), (.iand, 0, 0, 0, 0, 23), (.invokestatic 0, 1, 1, 0, 637, 24), (.iload 2, 0, 0, 0, 0, 27), (.if_icmp .lt 0, 0, 4, 0, 0, 28), (.iconst 1, 0, 0, 0, 0, 31), (.iload 4, 0, 0, 0, 0, 32), (.ishl, 0, 0, 0, 0, 34), (.goto 0, 0, 1, 0, 0, 35), (.iconst 0, 0, 0, 0, 0, 38), (.ior, 0, 0, 0, 0, 39), (.istore 3, 0, 0, 0, 0, 40), (.iinc 4 1, 0, 0, 0, 0, 41), (.goto 0, 1, 1, 0, 0, 44), (.iload 3, 0, 0, 0, 0, 47), (.ireturn, 0, 0, 0, 0, 48)], [([true, true, true, true, true], 0), ([true, true, true, true, true], 5)])
def T_X1_sharing : jT := ([(.aload 0, 0, 0, 0, 0, 0), (.aload 0, 0, 0, 0, 0, 1), (.iload 1, 0, 0, 0, 0, 2), (.invokevirtual 14, 2, 1, 1, 629, 3), (.iload 2, 0, 0, 0, 0, 6), (.invokevirtual 31, 3, 1, 1, 633, 7), (.iconst 1, 0, 0, 0, 0, 10), (.iload 1, 0, 0, 0, 0, 11), (.ishl, 0, 0, 0, 0, 12), (.iconst (-1), 0, 0, 0, 0, 13), (.ixor, 0, 0, 0, 0, 14), (.iand, 0, 0, 0, 0, 15), (.ireturn, 0, 0, 0, 0, 16)], [([true, true, true], 0)])
def T_X1_partOf : jT := ([(.iconst 1, 0, 0, 0, 0, 0), (.iload 1, 0, 0, 0, 0, 1), (.ishl, 0, 0, 0, 0, 2), (.istore 3, 0, 0, 0, 0, 3), (.iconst 0, 0, 0, 0, 0, 4), (.istore 4, 0, 0, 0, 0, 5), (.nop, 1, 0, 0, 0, 7), (.iload 4, 0, 0, 0, 0, 7), (.aload 0, 0, 0, 0, 0, 9), (.getfield 0, 1, 7, 0, 161, 10), (.if_icmp .ge 0, 0, 27, 0, 0, 13), (.iconst 0, 0, 0, 0, 0, 16), (.istore 5, 0, 0, 0, 0, 17), (.nop, 2, 0, 0, 0, 19), (.iload 5, 0, 0, 0, 0, 19), (.aload 0, 0, 0, 0, 0, 21), (.getfield 0, 1, 7, 0, 161, 22), (.if_icmp .ge 0, 0, 18, 0, 0, 25), (.iload 3, 0, 0, 0, 0, 28), (.iload 3, 0, 0, 0, 0, 29), (.iload 5, 0, 0, 0, 0, 30), (.ishr, 0, 0, 0, 0, 32), (.iconst 1, 0, 0, 0, 0, 33), (.iand, 0, 0, 0, 0, 34), (.iconst 1, 0, 0, 0, 0, 35), (.if_icmp .ne 0, 0, 5, 0, 0, 36), (.aload 0, 0, 0, 0, 0, 39), (.iload 5, 0, 0, 0, 0, 40), (.iload 2, 0, 0, 0, 0, 42), (.invokevirtual 32, 3, 1, 1, 1034, 43), (.goto 0, 0, 1, 0, 0, 46), (.iconst 0, 0, 0, 0, 0, 49), (.ior, 0, 0, 0, 0, 50), (.istore 3, 0, 0, 0, 0, 51), (.iinc 5 1, 0, 0, 0, 0, 52), (.goto 0, 1, 2, 0, 0, 55), (.iinc 4 1, 0, 0, 0, 0, 58), (.goto 0, 1, 1, 0, 0, 61), (.iload 3, 0, 0, 0, 0, 64), (.ireturn, 0, 0, 0, 0, 65)], [([true, true, true, true, true, true], 0), ([true, false, true, true, true, false], 7), ([true, false, true, true, true, true], 14)])
def T_X2_allows : jT := ([(.iload 0, 0, 0, 0, 0, 0), (.lookupswitch 29 #[(0, 0), (1, 10), (2, 20)], 0, 0, 0, 0, 1), (.iload 1, 0, 0, 0, 0, 28), (.iconst 1, 0, 0, 0, 0, 29), (.if_icmp .lt 0, 0, 5, 0, 0, 30), (.iload 1, 0, 0, 0, 0, 33), (.iconst 8, 0, 0, 0, 0, 34), (.if_icmp .gt 0, 0, 2, 0, 0, 36), (.iconst 1, 0, 0, 0, 0, 39), (.goto 0, 0, 1, 0, 0, 40), (.iconst 0, 0, 0, 0, 0, 43), (.ireturn, 1, 0, 0, 0, 44), (.iload 1, 0, 0, 0, 0, 45), (.iconst 1, 0, 0, 0, 0, 46), (.if_icmp .lt 0, 0, 5, 0, 0, 47), (.iload 1, 0, 0, 0, 0, 50), (.iconst 9, 0, 0, 0, 0, 51), (.if_icmp .gt 0, 0, 2, 0, 0, 53), (.iconst 1, 0, 0, 0, 0, 56), (.goto 0, 0, 1, 0, 0, 57), (.iconst 0, 0, 0, 0, 0, 60), (.ireturn, 1, 0, 0, 0, 61), (.iload 1, 0, 0, 0, 0, 62), (.ifCond .lt 0, 0, 5, 0, 0, 63), (.iload 1, 0, 0, 0, 0, 66), (.iconst 2, 0, 0, 0, 0, 67), (.if_icmp .gt 0, 0, 2, 0, 0, 68), (.iconst 1, 0, 0, 0, 0, 71), (.goto 0, 0, 1, 0, 0, 72), (.iconst 0, 0, 0, 0, 0, 75), (.ireturn, 1, 0, 0, 0, 76), (.iconst 0, 0, 0, 0, 0, 77), (.ireturn, 1, 0, 0, 0, 78)], [([true, true], 0)])
def T_X2_share : jT := ([(.aload 0, 0, 0, 0, 0, 0), (.getfield 0, 2, 1, 0, 236, 1), (.ireturn, 0, 0, 0, 0, 4)], [([true], 0)])
def T_X2_heat : jT := ([(.aload 0, 0, 0, 0, 0, 0), (.getfield 0, 2, 3, 0, 238, 1), (.ireturn, 0, 0, 0, 0, 4)], [([true], 0)])
def T_X2_most : jT := ([(.iload 1, 0, 0, 0, 0, 0), (.ifCond .lt 0, 0, 11, 0, 0, 1), (.iload 1, 0, 0, 0, 0, 4), (.iconst 8, 0, 0, 0, 0, 5), (.if_icmp .ge 0, 0, 8, 0, 0, 7), (.aload 0, 0, 0, 0, 0, 10), (.getfield 0, 2, 2, 0, 237, 11), (.aload 0, 0, 0, 0, 0, 14), (.getfield 0, 2, 0, 0, 235, 15), (.iload 1, 0, 0, 0, 0, 18), (.iaload, 0, 0, 0, 0, 19), (.lsub, 0, 0, 0, 841, 20), (.goto 0, 0, 1, 0, 0, 23), (.iconst 0, 0, 0, 0, 0, 26), (.ireturn, 0, 0, 0, 0, 27)], [([true, true], 0)])
def T_X2_change : jT := ([(.iload 1, 0, 0, 0, 0, 0), (.ifCond .ne 0, 0, 3, 0, 0, 1), (.aload 0, 0, 0, 0, 0, 4), (.getfield 0, 2, 1, 0, 236, 5), (.goto 0, 0, 8, 0, 0, 8), (.iload 1, 0, 0, 0, 0, 11), (.iconst 1, 0, 0, 0, 0, 12), (.if_icmp .ne 0, 0, 3, 0, 0, 13), (.aload 0, 0, 0, 0, 0, 16), (.getfield 0, 2, 2, 0, 237, 17), (.goto 0, 0, 2, 0, 0, 20), (.aload 0, 0, 0, 0, 0, 23), (.getfield 0, 2, 3, 0, 238, 24), (.istore 3, 0, 0, 0, 0, 27), (.aload 0, 0, 0, 0, 0, 28), (.iload 1, 0, 0, 0, 0, 29), (.ifCond .ne 0, 0, 2, 0, 0, 30), (.iload 2, 0, 0, 0, 0, 33), (.goto 0, 0, 2, 0, 0, 34), (.aload 0, 0, 0, 0, 0, 37), (.getfield 0, 2, 1, 0, 236, 38), (.putfield 0, 2, 1, 0, 236, 41), (.aload 0, 0, 0, 0, 0, 44), (.iload 1, 0, 0, 0, 0, 45), (.iconst 1, 0, 0, 0, 0, 46), (.if_icmp .ne 0, 0, 2, 0, 0, 47), (.iload 2, 0, 0, 0, 0, 50), (.goto 0, 0, 2, 0, 0, 51), (.aload 0, 0, 0, 0, 0, 54), (.getfield 0, 2, 2, 0, 237, 55), (.putfield 0, 2, 2, 0, 237, 58), (.aload 0, 0, 0, 0, 0, 61), (.iload 1, 0, 0, 0, 0, 62), (.iconst 2, 0, 0, 0, 0, 63), (.if_icmp .ne 0, 0, 2, 0, 0, 64), (.iload 2, 0, 0, 0, 0, 67), (.goto 0, 0, 2, 0, 0, 68), (.aload 0, 0, 0, 0, 0, 71), (.getfield 0, 2, 3, 0, 238, 72), (.putfield 0, 2, 3, 0, 238, 75), (.iload 3, 0, 0, 0, 0, 78), (.ireturn, 0, 0, 0, 0, 79)], [([true, true, true, true], 0)])
def T_X2_restock : jT := ([(.iload 1, 0, 0, 0, 0, 0), (.ifCond .lt 0, 0, 3, 0, 0, 1), (.iload 1, 0, 0, 0, 0, 4), (.iconst 8, 0, 0, 0, 0, 5), (.if_icmp .lt 0, 0, 2, 0, 0, 7), (.iconst (-1), 0, 0, 0, 0, 10), (.ireturn, 0, 0, 0, 0, 11), (.aload 0, 0, 0, 0, 0, 12), (.getfield 0, 2, 0, 0, 235, 13), (.iload 1, 0, 0, 0, 0, 16), (.iaload, 0, 0, 0, 0, 17), (.istore 3, 0, 0, 0, 0, 18), (.aload 0, 0, 0, 0, 0, 19), (.getfield 0, 2, 0, 0, 235, 20), (.iload 1, 0, 0, 0, 0, 23), (.iload 2, 0, 0, 0, 0, 24), (.iastore, 0, 0, 0, 0, 25), (.iload 3, 0, 0, 0, 0, 26), (.ireturn, 0, 0, 0, 0, 27)], [([true, true, true, true], 0)])
def T_X2_copy : jT := ([(.aload 0, 0, 0, 0, 0, 0), (.aload 1, 0, 0, 0, 0, 1), (.getfield 0, 2, 1, 0, 236, 2), (.putfield 0, 2, 1, 0, 236, 5), (.aload 0, 0, 0, 0, 0, 8), (.aload 1, 0, 0, 0, 0, 9), (.getfield 0, 2, 2, 0, 237, 10), (.putfield 0, 2, 2, 0, 237, 13), (.aload 0, 0, 0, 0, 0, 16), (.aload 1, 0, 0, 0, 0, 17), (.getfield 0, 2, 3, 0, 238, 18), (.putfield 0, 2, 3, 0, 238, 21), (.aload 1, 0, 0, 0, 0, 24), (.getfield 0, 2, 0, 0, 235, 25), (.iconst 0, 0, 0, 0, 0, 28), (.aload 0, 0, 0, 0, 0, 29), (.getfield 0, 2, 0, 0, 235, 30), (.iconst 0, 0, 0, 0, 0, 33), (.iconst 8, 0, 0, 0, 0, 34), (.invokedynamic 0, 0, 0, 0, 812, 36), (.return_, 0, 0, 0, 0, 39)], [([true, true], 0)])
def T_X2_useUp : jT := ([(.iconst 0, 0, 0, 0, 0, 0), (.istore 3, 0, 0, 0, 0, 1), (.nop, 1, 0, 0, 0, 2), (.iload 3, 0, 0, 0, 0, 2), (.iconst 8, 0, 0, 0, 0, 3), (.if_icmp .ge 0, 0, 19, 0, 0, 5), (.aload 0, 0, 0, 0, 0, 8), (.getfield 0, 2, 0, 0, 235, 9), (.iload 3, 0, 0, 0, 0, 12), (.iconst 0, 0, 0, 0, 0, 13), (.aload 0, 0, 0, 0, 0, 14), (.getfield 0, 2, 0, 0, 235, 15), (.iload 3, 0, 0, 0, 0, 18), (.iaload, 0, 0, 0, 0, 19), (.aload 1, 0, 0, 0, 0, 20), (.iload 3, 0, 0, 0, 0, 21), (.invokevirtual 20, 2, 1, 1, 651, 22), (.iload 2, 0, 0, 0, 0, 25), (.iand, 0, 0, 0, 0, 26), (.invokestatic 0, 1, 1, 0, 655, 27), (.isub, 0, 0, 0, 0, 30), (.lmul, 0, 0, 0, 681, 31), (.iastore, 0, 0, 0, 0, 34), (.iinc 3 1, 0, 0, 0, 0, 35), (.goto 0, 1, 1, 0, 0, 38), (.return_, 0, 0, 0, 0, 41)], [([true, true, true, true], 0), ([true, true, true, true], 3)])
def T_X2_refusal : jT := ([(.iload 2, 0, 0, 0, 0, 0), (.iload 4, 0, 0, 0, 0, 1), (.ishr, 0, 0, 0, 0, 3), (.iconst 1, 0, 0, 0, 0, 4), (.iand, 0, 0, 0, 0, 5), (.iconst 1, 0, 0, 0, 0, 6), (.if_icmp .ne 0, 0, 2, 0, 0, 7), (.iconst (-2), 0, 0, 0, 0, 10), (.ireturn, 0, 0, 0, 0, 12), (.iload 3, 0, 0, 0, 0, 13), (.iconst (-1), 0, 0, 0, 0, 14), (.if_icmp .eq 0, 0, 12, 0, 0, 15), (.aload 1, 0, 0, 0, 0, 18), (.iload 3, 0, 0, 0, 0, 19), (.aload 0, 0, 0, 0, 0, 20), (.getfield 0, 2, 1, 0, 236, 21), (.invokevirtual 32, 3, 1, 1, 625, 24), (.iload 4, 0, 0, 0, 0, 27), (.ishr, 0, 0, 0, 0, 29), (.iconst 1, 0, 0, 0, 0, 30), (.iand, 0, 0, 0, 0, 31), (.ifCond .ne 0, 0, 2, 0, 0, 32), (.iconst (-3), 0, 0, 0, 0, 35), (.ireturn, 0, 0, 0, 0, 37), (.aload 0, 0, 0, 0, 0, 38), (.aload 1, 0, 0, 0, 0, 39), (.invokevirtual 30, 1, 1, 1, 643, 40), (.iload 2, 0, 0, 0, 0, 43), (.iload 3, 0, 0, 0, 0, 44), (.iload 4, 0, 0, 0, 0, 45), (.invokevirtual 43, 5, 1, 2, 647, 47), (.ifCond .eq 0, 0, 2, 0, 0, 50), (.iconst (-4), 0, 0, 0, 0, 53), (.ireturn, 0, 0, 0, 0, 55), (.iconst 0, 0, 0, 0, 0, 56), (.istore 5, 0, 0, 0, 0, 57), (.iconst 0, 0, 0, 0, 0, 59), (.istore 6, 0, 0, 0, 0, 60), (.nop, 1, 0, 0, 0, 62), (.iload 6, 0, 0, 0, 0, 62), (.iconst 8, 0, 0, 0, 0, 64), (.if_icmp .ge 0, 0, 31, 0, 0, 66), (.aload 1, 0, 0, 0, 0, 69), (.iload 6, 0, 0, 0, 0, 70), (.invokevirtual 20, 2, 1, 1, 651, 72), (.iload 2, 0, 0, 0, 0, 75), (.iconst 1, 0, 0, 0, 0, 76), (.iload 4, 0, 0, 0, 0, 77), (.ishl, 0, 0, 0, 0, 79), (.ior, 0, 0, 0, 0, 80), (.iand, 0, 0, 0, 0, 81), (.invokestatic 0, 1, 1, 0, 655, 82), (.istore 7, 0, 0, 0, 0, 85), (.iload 7, 0, 0, 0, 0, 87), (.aload 0, 0, 0, 0, 0, 89), (.getfield 0, 2, 2, 0, 237, 90), (.if_icmp .le 0, 0, 2, 0, 0, 93), (.iconst (-5), 0, 0, 0, 0, 96), (.ireturn, 0, 0, 0, 0, 98), (.iload 5, 0, 0, 0, 0, 99), (.iload 7, 0, 0, 0, 0, 101), (.aload 0, 0, 0, 0, 0, 103), (.getfield 0, 2, 0, 0, 235, 104), (.iload 6, 0, 0, 0, 0, 107), (.iaload, 0, 0, 0, 0, 109), (.if_icmp .le 0, 0, 2, 0, 0, 110), (.iconst 1, 0, 0, 0, 0, 113), (.goto 0, 0, 1, 0, 0, 114), (.iconst 0, 0, 0, 0, 0, 117), (.ior, 0, 0, 0, 0, 118), (.istore 5, 0, 0, 0, 0, 119), (.iinc 6 1, 0, 0, 0, 0, 121), (.goto 0, 1, 1, 0, 0, 124), (.iload 5, 0, 0, 0, 0, 127), (.ifCond .eq 0, 0, 2, 0, 0, 129), (.iconst (-6), 0, 0, 0, 0, 132), (.goto 0, 0, 1, 0, 0, 134), (.iconst 0, 0, 0, 0, 0, 137), (.ireturn, 0, 0, 0, 0, 138)], [([true, true, true, true, true, true, true, true], 0), ([true, true, true, false, true, true, true, false], 39)])
def T_X2_isAgainstHeat : jT := ([(.aload 0, 0, 0, 0, 0, 0), (.getfield 0, 2, 3, 0, 238, 1), (.iconst 1, 0, 0, 0, 0, 4), (.if_icmp .ne 0, 0, 14, 0, 0, 5), (.iload 1, 0, 0, 0, 0, 8), (.iload 4, 0, 0, 0, 0, 9), (.ishr, 0, 0, 0, 0, 11), (.iconst 1, 0, 0, 0, 0, 12), (.iand, 0, 0, 0, 0, 13), (.ifCond .ne 0, 0, 6, 0, 0, 14), (.iload 2, 0, 0, 0, 0, 17), (.iload 1, 0, 0, 0, 0, 18), (.iand, 0, 0, 0, 0, 19), (.ifCond .eq 0, 0, 2, 0, 0, 20), (.iconst 1, 0, 0, 0, 0, 23), (.goto 0, 0, 1, 0, 0, 24), (.iconst 0, 0, 0, 0, 0, 27), (.ireturn, 1, 0, 0, 0, 28), (.aload 0, 0, 0, 0, 0, 29), (.getfield 0, 2, 3, 0, 238, 30), (.iconst 2, 0, 0, 0, 0, 33), (.if_icmp .ne 0, 0, 16, 0, 0, 34), (.iload 3, 0, 0, 0, 0, 37), (.iconst (-1), 0, 0, 0, 0, 38), (.if_icmp .eq 0, 0, 13, 0, 0, 39), (.iload 1, 0, 0, 0, 0, 42), (.iload 3, 0, 0, 0, 0, 43), (.ishr, 0, 0, 0, 0, 44), (.iconst 1, 0, 0, 0, 0, 45), (.iand, 0, 0, 0, 0, 46), (.iload 1, 0, 0, 0, 0, 47), (.iload 4, 0, 0, 0, 0, 48), (.ishr, 0, 0, 0, 0, 50), (.iconst 1, 0, 0, 0, 0, 51), (.iand, 0, 0, 0, 0, 52), (.if_icmp .ne 0, 0, 2, 0, 0, 53), (.iconst 1, 0, 0, 0, 0, 56), (.goto 0, 0, 1, 0, 0, 57), (.iconst 0, 0, 0, 0, 0, 60), (.ireturn, 1, 0, 0, 0, 61)], [([true, true, true, true, true], 0)])
def T_X3_value : jT := ([(.iload 1, 0, 0, 0, 0, 0), (.iconst 11, 0, 0, 0, 0, 1), (.imul, 0, 0, 0, 0, 3), (.iload 2, 0, 0, 0, 0, 4), (.iadd, 0, 0, 0, 0, 5), (.istore 3, 0, 0, 0, 0, 6), (.iload 3, 0, 0, 0, 0, 7), (.ifCond .lt 0, 0, 10, 0, 0, 8), (.iload 3, 0, 0, 0, 0, 11), (.aload 0, 0, 0, 0, 0, 12), (.getfield 0, 3, 0, 0, 363, 13), (.arraylength, 0, 0, 0, 0, 16), (.if_icmp .ge 0, 0, 5, 0, 0, 17), (.aload 0, 0, 0, 0, 0, 20), (.getfield 0, 3, 0, 0, 363, 21), (.iload 3, 0, 0, 0, 0, 24), (.iaload, 0, 0, 0, 0, 25), (.goto 0, 0, 1, 0, 0, 26), (.iconst 0, 0, 0, 0, 0, 29), (.ireturn, 0, 0, 0, 0, 30)], [([true, true, true, true], 0)])
def T_X3_setValue : jT := ([(.iload 1, 0, 0, 0, 0, 0), (.iconst 11, 0, 0, 0, 0, 1), (.imul, 0, 0, 0, 0, 3), (.iload 2, 0, 0, 0, 0, 4), (.iadd, 0, 0, 0, 0, 5), (.istore 4, 0, 0, 0, 0, 6), (.iload 4, 0, 0, 0, 0, 8), (.ifCond .lt 0, 0, 10, 0, 0, 10), (.iload 4, 0, 0, 0, 0, 13), (.aload 0, 0, 0, 0, 0, 15), (.getfield 0, 3, 0, 0, 363, 16), (.arraylength, 0, 0, 0, 0, 19), (.if_icmp .ge 0, 0, 5, 0, 0, 20), (.aload 0, 0, 0, 0, 0, 23), (.getfield 0, 3, 0, 0, 363, 24), (.iload 4, 0, 0, 0, 0, 27), (.iload 3, 0, 0, 0, 0, 29), (.iastore, 0, 0, 0, 0, 30), (.return_, 0, 0, 0, 0, 31)], [([true, true, true, true, true], 0)])
def T_X3_countRows : jT := ([(.sipush 0, 0, 0, 0, 0, 0), (.lstore 3, 0, 0, 0, 0, 1), (.aload 0, 0, 0, 0, 0, 2), (.aload 1, 0, 0, 0, 0, 3), (.invokevirtual 112, 1, 1, 8, 962, 4), (.aload 1, 0, 0, 0, 0, 7), (.invokevirtual 113, 1, 1, 8, 963, 8), (.iconst 1, 0, 0, 0, 0, 11), (.invokevirtual 45, 4, 0, 3, 964, 12), (.aload 1, 0, 0, 0, 0, 15), (.invokevirtual 112, 1, 1, 8, 962, 16), (.istore 5, 0, 0, 0, 0, 19), (.nop, 1, 0, 0, 0, 21), (.iload 5, 0, 0, 0, 0, 21), (.aload 1, 0, 0, 0, 0, 23), (.invokevirtual 111, 1, 1, 8, 968, 24), (.if_icmp .ge 0, 0, 32, 0, 0, 27), (.aload 1, 0, 0, 0, 0, 30), (.iload 5, 0, 0, 0, 0, 31), (.invokevirtual 118, 2, 1, 8, 969, 33), (.ifCond .eq 0, 0, 26, 0, 0, 36), (.aload 1, 0, 0, 0, 0, 39), (.iload 5, 0, 0, 0, 0, 40), (.invokevirtual 119, 2, 1, 8, 970, 42), (.iload 2, 0, 0, 0, 0, 45), (.if_icmp .le 0, 0, 1, 0, 0, 46), (.goto 0, 0, 20, 0, 0, 49), (.aload 1, 0, 0, 0, 0, 52), (.iload 5, 0, 0, 0, 0, 53), (.invokevirtual 119, 2, 1, 8, 970, 55), (.iload 2, 0, 0, 0, 0, 58), (.if_icmp .ne 0, 0, 11, 0, 0, 59), (.lload 3, 0, 0, 0, 0, 62), (.aload 0, 0, 0, 0, 0, 63), (.iload 5, 0, 0, 0, 0, 64), (.aload 1, 0, 0, 0, 0, 66), (.iload 5, 0, 0, 0, 0, 67), (.invokevirtual 118, 2, 1, 8, 969, 69), (.invokevirtual 48, 3, 1, 3, 971, 72), (.i2l, 0, 0, 0, 0, 75), (.ladd, 0, 0, 0, 0, 76), (.lstore 3, 0, 0, 0, 0, 77), (.goto 0, 0, 4, 0, 0, 78), (.aload 0, 0, 0, 0, 0, 81), (.aload 1, 0, 0, 0, 0, 82), (.iload 5, 0, 0, 0, 0, 83), (.invokevirtual 47, 3, 0, 3, 979, 85), (.iinc 5 1, 0, 0, 0, 0, 88), (.goto 0, 1, 1, 0, 0, 91), (.lload 3, 0, 0, 0, 0, 94), (.lreturn, 0, 0, 0, 0, 95)], [([true, true, true, true, true, true], 0), ([true, true, true, true, false, true], 13)])
def T_X3_countOn : jT := ([(.aload 1, 0, 0, 0, 0, 0), (.iload 2, 0, 0, 0, 0, 1), (.invokevirtual 120, 2, 1, 8, 983, 2), (.istore 3, 0, 0, 0, 0, 5), (.iconst 0, 0, 0, 0, 0, 6), (.istore 4, 0, 0, 0, 0, 7), (.nop, 1, 0, 0, 0, 9), (.iload 4, 0, 0, 0, 0, 9), (.aload 1, 0, 0, 0, 0, 11), (.invokevirtual 110, 1, 1, 8, 984, 12), (.if_icmp .ge 0, 0, 27, 0, 0, 15), (.iload 3, 0, 0, 0, 0, 18), (.iload 4, 0, 0, 0, 0, 19), (.ishr, 0, 0, 0, 0, 21), (.iconst 1, 0, 0, 0, 0, 22), (.iand, 0, 0, 0, 0, 23), (.iconst 1, 0, 0, 0, 0, 24), (.if_icmp .ne 0, 0, 18, 0, 0, 25), (.aload 0, 0, 0, 0, 0, 28), (.iload 2, 0, 0, 0, 0, 29), (.iconst 1, 0, 0, 0, 0, 30), (.iload 4, 0, 0, 0, 0, 31), (.ishl, 0, 0, 0, 0, 33), (.ior, 0, 0, 0, 0, 34), (.iload 4, 0, 0, 0, 0, 35), (.aload 0, 0, 0, 0, 0, 37), (.iload 2, 0, 0, 0, 0, 38), (.aload 1, 0, 0, 0, 0, 39), (.iload 2, 0, 0, 0, 0, 40), (.invokevirtual 118, 2, 1, 8, 969, 41), (.aload 1, 0, 0, 0, 0, 44), (.iload 4, 0, 0, 0, 0, 45), (.invokevirtual 116, 2, 1, 8, 985, 47), (.iand, 0, 0, 0, 0, 50), (.invokevirtual 48, 3, 1, 3, 971, 51), (.invokevirtual 45, 4, 0, 3, 964, 54), (.iinc 4 1, 0, 0, 0, 0, 57), (.goto 0, 1, 1, 0, 0, 60), (.return_, 0, 0, 0, 0, 63)], [([true, true, true, true, true], 0), ([true, true, true, true, true], 7)])
def T_X3_countWith : jT := ([(.iconst 0, 0, 0, 0, 0, 0), (.istore 3, 0, 0, 0, 0, 1), (.iconst 0, 0, 0, 0, 0, 2), (.istore 4, 0, 0, 0, 0, 3), (.nop, 1, 0, 0, 0, 5), (.iload 4, 0, 0, 0, 0, 5), (.iconst 11, 0, 0, 0, 0, 7), (.if_icmp .ge 0, 0, 18, 0, 0, 9), (.iload 3, 0, 0, 0, 0, 12), (.iload 2, 0, 0, 0, 0, 13), (.iload 4, 0, 0, 0, 0, 14), (.ishr, 0, 0, 0, 0, 16), (.iconst 1, 0, 0, 0, 0, 17), (.iand, 0, 0, 0, 0, 18), (.iconst 1, 0, 0, 0, 0, 19), (.if_icmp .ne 0, 0, 5, 0, 0, 20), (.aload 0, 0, 0, 0, 0, 23), (.iload 1, 0, 0, 0, 0, 24), (.iload 4, 0, 0, 0, 0, 25), (.invokevirtual 44, 3, 1, 3, 975, 27), (.goto 0, 0, 1, 0, 0, 30), (.iconst 0, 0, 0, 0, 0, 33), (.iadd, 0, 0, 0, 0, 34), (.istore 3, 0, 0, 0, 0, 35), (.iinc 4 1, 0, 0, 0, 0, 36), (.goto 0, 1, 1, 0, 0, 39), (.iload 3, 0, 0, 0, 0, 42), (.ireturn, 0, 0, 0, 0, 43)], [([true, true, true, true, true], 0), ([true, true, true, true, true], 5)])
def T_X3_mending : jT := ([(.aload 1, 0, 0, 0, 0, 0), (.invokevirtual 111, 1, 1, 8, 968, 1), (.iconst 1, 0, 0, 0, 0, 4), (.isub, 0, 0, 0, 0, 5), (.istore 4, 0, 0, 0, 0, 6), (.nop, 1, 0, 0, 0, 8), (.iload 4, 0, 0, 0, 0, 8), (.ifCond .lt 0, 0, 36, 0, 0, 10), (.aload 1, 0, 0, 0, 0, 13), (.iload 4, 0, 0, 0, 0, 14), (.invokevirtual 120, 2, 1, 8, 983, 16), (.istore 5, 0, 0, 0, 0, 19), (.iconst 0, 0, 0, 0, 0, 21), (.istore 6, 0, 0, 0, 0, 22), (.nop, 2, 0, 0, 0, 24), (.iload 6, 0, 0, 0, 0, 24), (.iconst 11, 0, 0, 0, 0, 26), (.if_icmp .ge 0, 0, 24, 0, 0, 28), (.aload 1, 0, 0, 0, 0, 31), (.iload 4, 0, 0, 0, 0, 32), (.invokevirtual 118, 2, 1, 8, 969, 34), (.iload 6, 0, 0, 0, 0, 37), (.ishr, 0, 0, 0, 0, 39), (.iconst 1, 0, 0, 0, 0, 40), (.iand, 0, 0, 0, 0, 41), (.iconst 1, 0, 0, 0, 0, 42), (.if_icmp .ne 0, 0, 13, 0, 0, 43), (.aload 0, 0, 0, 0, 0, 46), (.iload 4, 0, 0, 0, 0, 47), (.iload 6, 0, 0, 0, 0, 49), (.aload 0, 0, 0, 0, 0, 51), (.iload 4, 0, 0, 0, 0, 52), (.iload 5, 0, 0, 0, 0, 54), (.aload 1, 0, 0, 0, 0, 56), (.iload 6, 0, 0, 0, 0, 57), (.invokevirtual 116, 2, 1, 8, 985, 59), (.iand, 0, 0, 0, 0, 62), (.aload 2, 0, 0, 0, 0, 63), (.invokevirtual 50, 4, 1, 3, 1185, 64), (.invokevirtual 45, 4, 0, 3, 964, 67), (.iinc 6 1, 0, 0, 0, 0, 70), (.goto 0, 1, 2, 0, 0, 73), (.iinc 4 (-1), 0, 0, 0, 0, 76), (.goto 0, 1, 1, 0, 0, 79), (.aload 0, 0, 0, 0, 0, 82), (.iconst 0, 0, 0, 0, 0, 83), (.iconst 10, 0, 0, 0, 0, 84), (.invokevirtual 44, 3, 1, 3, 975, 86), (.istore 4, 0, 0, 0, 0, 89), (.iload 4, 0, 0, 0, 0, 91), (.iconst 100, 0, 0, 0, 0, 93), (.if_icmp .lt 0, 0, 2, 0, 0, 95), (.iconst (-2), 0, 0, 0, 0, 98), (.ireturn, 0, 0, 0, 0, 100), (.aload 0, 0, 0, 0, 0, 101), (.aload 1, 0, 0, 0, 0, 102), (.aload 2, 0, 0, 0, 0, 103), (.aload 3, 0, 0, 0, 0, 104), (.invokevirtual 52, 4, 0, 3, 1197, 105), (.iload 4, 0, 0, 0, 0, 108), (.ireturn, 0, 0, 0, 0, 110)], [([true, true, true, true, true, true, true], 0), ([true, true, true, true, true, false, false], 6), ([true, true, true, true, true, true, true], 15)])
def T_X3_fewestChanges : jT := ([(.iload 1, 0, 0, 0, 0, 0), (.invokestatic 0, 1, 1, 0, 1189, 1), (.aload 3, 0, 0, 0, 0, 4), (.invokevirtual 58, 1, 1, 4, 1190, 5), (.if_icmp .lt 0, 0, 2, 0, 0, 8), (.iconst 0, 0, 0, 0, 0, 11), (.ireturn, 0, 0, 0, 0, 12), (.iconst 100, 0, 0, 0, 0, 13), (.istore 4, 0, 0, 0, 0, 15), (.iconst 0, 0, 0, 0, 0, 17), (.istore 5, 0, 0, 0, 0, 18), (.nop, 1, 0, 0, 0, 20), (.iload 5, 0, 0, 0, 0, 20), (.iconst 10, 0, 0, 0, 0, 22), (.if_icmp .ge 0, 0, 17, 0, 0, 24), (.iload 2, 0, 0, 0, 0, 27), (.iload 5, 0, 0, 0, 0, 28), (.ishr, 0, 0, 0, 0, 30), (.iconst 1, 0, 0, 0, 0, 31), (.iand, 0, 0, 0, 0, 32), (.iconst 1, 0, 0, 0, 0, 33), (.if_icmp .ne 0, 0, 8, 0, 0, 34), (.iload 4, 0, 0, 0, 0, 37), (.aload 0, 0, 0, 0, 0, 39), (.iload 1, 0, 0, 0, 0, 40), (.iload 5, 0, 0, 0, 0, 41), (.aload 3, 0, 0, 0, 0, 43), (.invokevirtual 51, 4, 1, 3, 1191, 44), (.lsub, 0, 0, 0, 1196, 47), (.istore 4, 0, 0, 0, 0, 50), (.iinc 5 1, 0, 0, 0, 0, 52), (.goto 0, 1, 1, 0, 0, 55), (.iload 4, 0, 0, 0, 0, 58), (.ireturn, 0, 0, 0, 0, 60)], [([true, true, true, true, true, true], 0), ([true, true, true, true, true, true], 12)])
def T_X3_changesWith : jT := ([(.aload 3, 0, 0, 0, 0, 0), (.iload 1, 0, 0, 0, 0, 1), (.invokestatic 0, 1, 1, 0, 1189, 2), (.invokevirtual 59, 2, 1, 4, 1195, 5), (.iload 2, 0, 0, 0, 0, 8), (.if_icmp .ne 0, 0, 2, 0, 0, 9), (.iconst 0, 0, 0, 0, 0, 12), (.goto 0, 0, 1, 0, 0, 13), (.iconst 1, 0, 0, 0, 0, 16), (.istore 4, 0, 0, 0, 0, 17), (.aload 0, 0, 0, 0, 0, 19), (.iload 1, 0, 0, 0, 0, 20), (.iconst 1, 0, 0, 0, 0, 21), (.iload 2, 0, 0, 0, 0, 22), (.ishl, 0, 0, 0, 0, 23), (.ior, 0, 0, 0, 0, 24), (.iload 2, 0, 0, 0, 0, 25), (.invokevirtual 44, 3, 1, 3, 975, 26), (.iload 4, 0, 0, 0, 0, 29), (.iadd, 0, 0, 0, 0, 31), (.ireturn, 0, 0, 0, 0, 32)], [([true, true, true, true, true], 0)])
def T_X3_tellMended : jT := ([(.aload 3, 0, 0, 0, 0, 0), (.invokevirtual 104, 1, 0, 7, 1154, 1), (.iconst 0, 0, 0, 0, 0, 4), (.istore 4, 0, 0, 0, 0, 5), (.iconst 10, 0, 0, 0, 0, 7), (.istore 5, 0, 0, 0, 0, 9), (.iconst 0, 0, 0, 0, 0, 11), (.istore 6, 0, 0, 0, 0, 12), (.nop, 1, 0, 0, 0, 14), (.iload 6, 0, 0, 0, 0, 14), (.aload 2, 0, 0, 0, 0, 16), (.invokevirtual 58, 1, 1, 4, 1190, 17), (.if_icmp .ge 0, 0, 45, 0, 0, 20), (.aload 1, 0, 0, 0, 0, 23), (.iload 4, 0, 0, 0, 0, 24), (.invokevirtual 120, 2, 1, 8, 983, 26), (.aload 1, 0, 0, 0, 0, 29), (.iload 5, 0, 0, 0, 0, 30), (.invokevirtual 116, 2, 1, 8, 985, 32), (.iand, 0, 0, 0, 0, 35), (.istore 7, 0, 0, 0, 0, 36), (.iconst 0, 0, 0, 0, 0, 38), (.istore 8, 0, 0, 0, 0, 39), (.nop, 2, 0, 0, 0, 41), (.iload 8, 0, 0, 0, 0, 41), (.iconst 10, 0, 0, 0, 0, 43), (.if_icmp .ge 0, 0, 18, 0, 0, 45), (.iload 7, 0, 0, 0, 0, 48), (.iload 8, 0, 0, 0, 0, 50), (.ishr, 0, 0, 0, 0, 52), (.iconst 1, 0, 0, 0, 0, 53), (.iand, 0, 0, 0, 0, 54), (.ifCond .eq 0, 0, 10, 0, 0, 55), (.aload 0, 0, 0, 0, 0, 58), (.iload 4, 0, 0, 0, 0, 59), (.iload 8, 0, 0, 0, 0, 61), (.aload 2, 0, 0, 0, 0, 63), (.invokevirtual 51, 4, 1, 3, 1191, 64), (.aload 0, 0, 0, 0, 0, 67), (.iload 4, 0, 0, 0, 0, 68), (.iload 5, 0, 0, 0, 0, 70), (.invokevirtual 44, 3, 1, 3, 975, 72), (.if_icmp .eq 0, 0, 2, 0, 0, 75), (.iinc 8 1, 0, 0, 0, 0, 78), (.goto 0, 1, 2, 0, 0, 81), (.aload 3, 0, 0, 0, 0, 84), (.iload 8, 0, 0, 0, 0, 85), (.invokevirtual 105, 2, 0, 7, 1155, 87), (.iload 4, 0, 0, 0, 0, 90), (.iconst 1, 0, 0, 0, 0, 92), (.iload 8, 0, 0, 0, 0, 93), (.ishl, 0, 0, 0, 0, 95), (.ior, 0, 0, 0, 0, 96), (.istore 4, 0, 0, 0, 0, 97), (.iload 8, 0, 0, 0, 0, 99), (.istore 5, 0, 0, 0, 0, 101), (.iinc 6 1, 0, 0, 0, 0, 103), (.goto 0, 1, 1, 0, 0, 106), (.return_, 0, 0, 0, 0, 109)], [([true, true, true, true, true, true, true, true, true], 0), ([true, true, true, true, true, true, true, false, false], 9), ([true, true, true, true, true, true, true, true, true], 24)])
def T_X3_playBoth : jT := ([(.aload 1, 0, 0, 0, 0, 0), (.invokevirtual 111, 1, 1, 8, 968, 1), (.iconst 1, 0, 0, 0, 0, 4), (.isub, 0, 0, 0, 0, 5), (.istore 3, 0, 0, 0, 0, 6), (.nop, 1, 0, 0, 0, 7), (.iload 3, 0, 0, 0, 0, 7), (.aload 1, 0, 0, 0, 0, 8), (.invokevirtual 112, 1, 1, 8, 962, 9), (.if_icmp .lt 0, 0, 56, 0, 0, 12), (.aload 1, 0, 0, 0, 0, 15), (.iload 3, 0, 0, 0, 0, 16), (.invokevirtual 120, 2, 1, 8, 983, 17), (.istore 4, 0, 0, 0, 0, 20), (.iconst 0, 0, 0, 0, 0, 22), (.istore 5, 0, 0, 0, 0, 23), (.nop, 2, 0, 0, 0, 25), (.iload 5, 0, 0, 0, 0, 25), (.iconst 11, 0, 0, 0, 0, 27), (.if_icmp .ge 0, 0, 44, 0, 0, 29), (.aload 1, 0, 0, 0, 0, 32), (.iload 3, 0, 0, 0, 0, 33), (.invokevirtual 118, 2, 1, 8, 969, 34), (.iload 5, 0, 0, 0, 0, 37), (.ishr, 0, 0, 0, 0, 39), (.iconst 1, 0, 0, 0, 0, 40), (.iand, 0, 0, 0, 0, 41), (.iconst 1, 0, 0, 0, 0, 42), (.if_icmp .ne 0, 0, 33, 0, 0, 43), (.iload 4, 0, 0, 0, 0, 46), (.aload 1, 0, 0, 0, 0, 48), (.iload 5, 0, 0, 0, 0, 49), (.invokevirtual 116, 2, 1, 8, 985, 51), (.iand, 0, 0, 0, 0, 54), (.istore 6, 0, 0, 0, 0, 55), (.aload 0, 0, 0, 0, 0, 57), (.iload 3, 0, 0, 0, 0, 58), (.iload 6, 0, 0, 0, 0, 59), (.invokevirtual 57, 3, 1, 3, 1150, 61), (.istore 7, 0, 0, 0, 0, 64), (.aload 0, 0, 0, 0, 0, 66), (.iload 3, 0, 0, 0, 0, 67), (.iload 5, 0, 0, 0, 0, 68), (.iload 7, 0, 0, 0, 0, 70), (.iconst (-1), 0, 0, 0, 0, 72), (.if_icmp .ne 0, 0, 6, 0, 0, 73), (.aload 1, 0, 0, 0, 0, 76), (.iload 3, 0, 0, 0, 0, 77), (.invokevirtual 119, 2, 1, 8, 970, 78), (.iconst 100, 0, 0, 0, 0, 81), (.isub, 0, 0, 0, 0, 83), (.goto 0, 0, 9, 0, 0, 84), (.aload 0, 0, 0, 0, 0, 87), (.iload 3, 0, 0, 0, 0, 88), (.iconst 1, 0, 0, 0, 0, 89), (.iload 7, 0, 0, 0, 0, 90), (.ishl, 0, 0, 0, 0, 92), (.ior, 0, 0, 0, 0, 93), (.iload 7, 0, 0, 0, 0, 94), (.invokevirtual 44, 3, 1, 3, 975, 96), (.ineg, 0, 0, 0, 0, 99), (.invokevirtual 45, 4, 0, 3, 964, 100), (.iinc 5 1, 0, 0, 0, 0, 103), (.goto 0, 1, 2, 0, 0, 106), (.iinc 3 (-1), 0, 0, 0, 0, 109), (.goto 0, 1, 1, 0, 0, 112), (.aload 1, 0, 0, 0, 0, 115), (.invokevirtual 112, 1, 1, 8, 962, 116), (.istore 3, 0, 0, 0, 0, 119), (.aload 0, 0, 0, 0, 0, 120), (.iload 3, 0, 0, 0, 0, 121), (.aload 1, 0, 0, 0, 0, 122), (.invokevirtual 113, 1, 1, 8, 963, 123), (.invokevirtual 44, 3, 1, 3, 975, 126), (.istore 4, 0, 0, 0, 0, 129), (.aload 2, 0, 0, 0, 0, 131), (.invokevirtual 104, 1, 0, 7, 1154, 132), (.aload 2, 0, 0, 0, 0, 135), (.iload 4, 0, 0, 0, 0, 136), (.ifCond .le 0, 0, 12, 0, 0, 138), (.aload 0, 0, 0, 0, 0, 141), (.iload 3, 0, 0, 0, 0, 142), (.aload 1, 0, 0, 0, 0, 143), (.iload 3, 0, 0, 0, 0, 144), (.invokevirtual 120, 2, 1, 8, 983, 145), (.aload 1, 0, 0, 0, 0, 148), (.aload 1, 0, 0, 0, 0, 149), (.invokevirtual 113, 1, 1, 8, 963, 150), (.invokevirtual 116, 2, 1, 8, 985, 153), (.iand, 0, 0, 0, 0, 156), (.invokevirtual 57, 3, 1, 3, 1150, 157), (.goto 0, 0, 1, 0, 0, 160), (.iconst (-1), 0, 0, 0, 0, 163), (.invokevirtual 105, 2, 0, 7, 1155, 164), (.aload 2, 0, 0, 0, 0, 167), (.iconst 100, 0, 0, 0, 0, 168), (.iload 4, 0, 0, 0, 0, 170), (.lneg, 0, 0, 0, 1156, 172), (.isub, 0, 0, 0, 0, 175), (.invokevirtual 105, 2, 0, 7, 1155, 176), (.iload 4, 0, 0, 0, 0, 179), (.ifCond .le 0, 0, 2, 0, 0, 181), (.iconst 1, 0, 0, 0, 0, 184), (.goto 0, 0, 1, 0, 0, 185), (.iconst 0, 0, 0, 0, 0, 188), (.ireturn, 0, 0, 0, 0, 189)], [([true, true, true, true, true, true, true, true], 0), ([true, true, true, true, false, false, false, false], 6), ([true, true, true, true, true, true, false, false], 17)])
def T_X3_playGreedy : jT := ([(.iconst 0, 0, 0, 0, 0, 0), (.istore 5, 0, 0, 0, 0, 1), (.nop, 1, 0, 0, 0, 3), (.iload 5, 0, 0, 0, 0, 3), (.aload 0, 0, 0, 0, 0, 5), (.getfield 0, 3, 1, 0, 364, 6), (.arraylength, 0, 0, 0, 0, 9), (.if_icmp .ge 0, 0, 10, 0, 0, 10), (.aload 0, 0, 0, 0, 0, 13), (.getfield 0, 3, 1, 0, 364, 14), (.iload 5, 0, 0, 0, 0, 17), (.aload 3, 0, 0, 0, 0, 19), (.aload 2, 0, 0, 0, 0, 20), (.iload 5, 0, 0, 0, 0, 21), (.invokevirtual 134, 3, 1, 9, 1167, 23), (.iastore, 0, 0, 0, 0, 26), (.iinc 5 1, 0, 0, 0, 0, 27), (.goto 0, 1, 1, 0, 0, 30), (.aload 1, 0, 0, 0, 0, 33), (.invokevirtual 111, 1, 1, 8, 968, 34), (.iconst 1, 0, 0, 0, 0, 37), (.isub, 0, 0, 0, 0, 38), (.istore 5, 0, 0, 0, 0, 39), (.nop, 2, 0, 0, 0, 41), (.iload 5, 0, 0, 0, 0, 41), (.aload 1, 0, 0, 0, 0, 43), (.invokevirtual 112, 1, 1, 8, 962, 44), (.if_icmp .lt 0, 0, 38, 0, 0, 47), (.aload 1, 0, 0, 0, 0, 50), (.iload 5, 0, 0, 0, 0, 51), (.invokevirtual 120, 2, 1, 8, 983, 53), (.istore 6, 0, 0, 0, 0, 56), (.iconst 0, 0, 0, 0, 0, 58), (.istore 7, 0, 0, 0, 0, 59), (.nop, 3, 0, 0, 0, 61), (.iload 7, 0, 0, 0, 0, 61), (.iconst 11, 0, 0, 0, 0, 63), (.if_icmp .ge 0, 0, 26, 0, 0, 65), (.aload 1, 0, 0, 0, 0, 68), (.iload 5, 0, 0, 0, 0, 69), (.invokevirtual 118, 2, 1, 8, 969, 71), (.iload 7, 0, 0, 0, 0, 74), (.ishr, 0, 0, 0, 0, 76), (.iconst 1, 0, 0, 0, 0, 77), (.iand, 0, 0, 0, 0, 78), (.iconst 1, 0, 0, 0, 0, 79), (.if_icmp .ne 0, 0, 15, 0, 0, 80), (.aload 0, 0, 0, 0, 0, 83), (.iload 5, 0, 0, 0, 0, 84), (.iload 7, 0, 0, 0, 0, 86), (.aload 0, 0, 0, 0, 0, 88), (.iload 5, 0, 0, 0, 0, 89), (.iload 6, 0, 0, 0, 0, 91), (.aload 1, 0, 0, 0, 0, 93), (.iload 7, 0, 0, 0, 0, 94), (.invokevirtual 116, 2, 1, 8, 985, 96), (.iand, 0, 0, 0, 0, 99), (.aload 1, 0, 0, 0, 0, 100), (.iload 5, 0, 0, 0, 0, 101), (.invokevirtual 119, 2, 1, 8, 970, 103), (.invokevirtual 55, 4, 1, 3, 1168, 106), (.invokevirtual 45, 4, 0, 3, 964, 109), (.iinc 7 1, 0, 0, 0, 0, 112), (.goto 0, 1, 3, 0, 0, 115), (.iinc 5 (-1), 0, 0, 0, 0, 118), (.goto 0, 1, 2, 0, 0, 121), (.aload 0, 0, 0, 0, 0, 124), (.aload 1, 0, 0, 0, 0, 125), (.invokevirtual 112, 1, 1, 8, 962, 126), (.aload 1, 0, 0, 0, 0, 129), (.invokevirtual 113, 1, 1, 8, 963, 130), (.invokevirtual 44, 3, 1, 3, 975, 133), (.istore 5, 0, 0, 0, 0, 136), (.aload 4, 0, 0, 0, 0, 138), (.invokevirtual 104, 1, 0, 7, 1154, 140), (.aload 4, 0, 0, 0, 0, 143), (.iconst 100, 0, 0, 0, 0, 145), (.iload 5, 0, 0, 0, 0, 147), (.lneg, 0, 0, 0, 1156, 149), (.isub, 0, 0, 0, 0, 152), (.invokevirtual 105, 2, 0, 7, 1155, 153), (.iload 5, 0, 0, 0, 0, 156), (.ifCond .le 0, 0, 2, 0, 0, 158), (.iconst 1, 0, 0, 0, 0, 161), (.goto 0, 0, 1, 0, 0, 162), (.iconst 0, 0, 0, 0, 0, 165), (.ireturn, 0, 0, 0, 0, 166)], [([true, true, true, true, true, true, true, true], 0), ([true, true, true, true, true, true, false, false], 3), ([true, true, false, false, true, true, false, false], 24), ([true, true, false, false, true, true, true, true], 35)])
def T_X3_worthToOther : jT := ([(.iload 3, 0, 0, 0, 0, 0), (.iconst 2, 0, 0, 0, 0, 1), (.irem, 0, 0, 0, 0, 2), (.ifCond .ne 0, 0, 2, 0, 0, 3), (.iconst 1, 0, 0, 0, 0, 6), (.goto 0, 0, 1, 0, 0, 7), (.iconst 0, 0, 0, 0, 0, 10), (.istore 4, 0, 0, 0, 0, 11), (.iload 2, 0, 0, 0, 0, 13), (.ifCond .ne 0, 0, 10, 0, 0, 14), (.iload 4, 0, 0, 0, 0, 17), (.ifCond .eq 0, 0, 4, 0, 0, 19), (.iconst 100, 0, 0, 0, 0, 22), (.iload 3, 0, 0, 0, 0, 24), (.isub, 0, 0, 0, 0, 25), (.goto 0, 0, 3, 0, 0, 26), (.iload 3, 0, 0, 0, 0, 29), (.iconst 100, 0, 0, 0, 0, 30), (.isub, 0, 0, 0, 0, 32), (.ireturn, 0, 0, 0, 0, 33), (.iload 4, 0, 0, 0, 0, 34), (.ifCond .eq 0, 0, 13, 0, 0, 36), (.aload 0, 0, 0, 0, 0, 39), (.iload 2, 0, 0, 0, 0, 40), (.invokevirtual 56, 2, 1, 3, 1172, 41), (.istore 5, 0, 0, 0, 0, 44), (.aload 0, 0, 0, 0, 0, 46), (.iload 1, 0, 0, 0, 0, 47), (.iconst 1, 0, 0, 0, 0, 48), (.iload 5, 0, 0, 0, 0, 49), (.ishl, 0, 0, 0, 0, 51), (.ior, 0, 0, 0, 0, 52), (.iload 5, 0, 0, 0, 0, 53), (.invokevirtual 44, 3, 1, 3, 975, 55), (.ireturn, 0, 0, 0, 0, 58), (.iconst (-100), 0, 0, 0, 0, 59), (.istore 5, 0, 0, 0, 0, 61), (.iconst 0, 0, 0, 0, 0, 63), (.istore 6, 0, 0, 0, 0, 64), (.nop, 1, 0, 0, 0, 66), (.iload 6, 0, 0, 0, 0, 66), (.iconst 10, 0, 0, 0, 0, 68), (.if_icmp .ge 0, 0, 20, 0, 0, 70), (.iload 2, 0, 0, 0, 0, 73), (.iload 6, 0, 0, 0, 0, 74), (.ishr, 0, 0, 0, 0, 76), (.iconst 1, 0, 0, 0, 0, 77), (.iand, 0, 0, 0, 0, 78), (.iconst 1, 0, 0, 0, 0, 79), (.if_icmp .ne 0, 0, 11, 0, 0, 80), (.iload 5, 0, 0, 0, 0, 83), (.aload 0, 0, 0, 0, 0, 85), (.iload 1, 0, 0, 0, 0, 86), (.iconst 1, 0, 0, 0, 0, 87), (.iload 6, 0, 0, 0, 0, 88), (.ishl, 0, 0, 0, 0, 90), (.ior, 0, 0, 0, 0, 91), (.iload 6, 0, 0, 0, 0, 92), (.invokevirtual 44, 3, 1, 3, 975, 94), (.lmul, 0, 0, 0, 1176, 97), (.istore 5, 0, 0, 0, 0, 100), (.iinc 6 1, 0, 0, 0, 0, 102), (.goto 0, 1, 1, 0, 0, 105), (.iload 5, 0, 0, 0, 0, 108), (.ireturn, 0, 0, 0, 0, 110)], [([true, true, true, true, true, true, true], 0), ([true, true, true, false, false, true, true], 40)])
def T_X3_mostJoyful : jT := ([(.iconst 0, 0, 0, 0, 0, 0), (.istore 2, 0, 0, 0, 0, 1), (.iconst 0, 0, 0, 0, 0, 2), (.istore 3, 0, 0, 0, 0, 3), (.nop, 1, 0, 0, 0, 4), (.iload 3, 0, 0, 0, 0, 4), (.aload 0, 0, 0, 0, 0, 5), (.getfield 0, 3, 1, 0, 364, 6), (.arraylength, 0, 0, 0, 0, 9), (.if_icmp .ge 0, 0, 32, 0, 0, 10), (.iload 1, 0, 0, 0, 0, 13), (.iload 2, 0, 0, 0, 0, 14), (.ishr, 0, 0, 0, 0, 15), (.iconst 1, 0, 0, 0, 0, 16), (.iand, 0, 0, 0, 0, 17), (.ifCond .ne 0, 0, 2, 0, 0, 18), (.iconst 1, 0, 0, 0, 0, 21), (.goto 0, 0, 1, 0, 0, 22), (.iconst 0, 0, 0, 0, 0, 25), (.istore 4, 0, 0, 0, 0, 26), (.iload 1, 0, 0, 0, 0, 28), (.iload 3, 0, 0, 0, 0, 29), (.ishr, 0, 0, 0, 0, 30), (.iconst 1, 0, 0, 0, 0, 31), (.iand, 0, 0, 0, 0, 32), (.iconst 1, 0, 0, 0, 0, 33), (.if_icmp .ne 0, 0, 13, 0, 0, 34), (.iload 4, 0, 0, 0, 0, 37), (.ifCond .ne 0, 0, 9, 0, 0, 39), (.aload 0, 0, 0, 0, 0, 42), (.getfield 0, 3, 1, 0, 364, 43), (.iload 3, 0, 0, 0, 0, 46), (.iaload, 0, 0, 0, 0, 47), (.aload 0, 0, 0, 0, 0, 48), (.getfield 0, 3, 1, 0, 364, 49), (.iload 2, 0, 0, 0, 0, 52), (.iaload, 0, 0, 0, 0, 53), (.if_icmp .le 0, 0, 2, 0, 0, 54), (.iload 3, 0, 0, 0, 0, 57), (.istore 2, 0, 0, 0, 0, 58), (.iinc 3 1, 0, 0, 0, 0, 59), (.goto 0, 1, 1, 0, 0, 62), (.iload 2, 0, 0, 0, 0, 65), (.ireturn, 0, 0, 0, 0, 66)], [([true, true, true, true, true], 0), ([true, true, true, true, false], 5)])
def T_X3_leastFor : jT := ([(.iconst (-1), 0, 0, 0, 0, 0), (.istore 3, 0, 0, 0, 0, 1), (.iconst 0, 0, 0, 0, 0, 2), (.istore 4, 0, 0, 0, 0, 3), (.nop, 1, 0, 0, 0, 5), (.iload 4, 0, 0, 0, 0, 5), (.iconst 10, 0, 0, 0, 0, 7), (.if_icmp .ge 0, 0, 31, 0, 0, 9), (.iload 2, 0, 0, 0, 0, 12), (.iload 4, 0, 0, 0, 0, 13), (.ishr, 0, 0, 0, 0, 15), (.iconst 1, 0, 0, 0, 0, 16), (.iand, 0, 0, 0, 0, 17), (.iconst 1, 0, 0, 0, 0, 18), (.if_icmp .ne 0, 0, 22, 0, 0, 19), (.iload 3, 0, 0, 0, 0, 22), (.iconst (-1), 0, 0, 0, 0, 23), (.if_icmp .eq 0, 0, 17, 0, 0, 24), (.aload 0, 0, 0, 0, 0, 27), (.iload 1, 0, 0, 0, 0, 28), (.iconst 1, 0, 0, 0, 0, 29), (.iload 4, 0, 0, 0, 0, 30), (.ishl, 0, 0, 0, 0, 32), (.ior, 0, 0, 0, 0, 33), (.iload 4, 0, 0, 0, 0, 34), (.invokevirtual 44, 3, 1, 3, 975, 36), (.aload 0, 0, 0, 0, 0, 39), (.iload 1, 0, 0, 0, 0, 40), (.iconst 1, 0, 0, 0, 0, 41), (.iload 3, 0, 0, 0, 0, 42), (.ishl, 0, 0, 0, 0, 43), (.ior, 0, 0, 0, 0, 44), (.iload 3, 0, 0, 0, 0, 45), (.invokevirtual 44, 3, 1, 3, 975, 46), (.if_icmp .ge 0, 0, 2, 0, 0, 49), (.iload 4, 0, 0, 0, 0, 52), (.istore 3, 0, 0, 0, 0, 54), (.iinc 4 1, 0, 0, 0, 0, 55), (.goto 0, 1, 1, 0, 0, 58), (.iload 3, 0, 0, 0, 0, 61), (.ireturn, 0, 0, 0, 0, 62)], [([true, true, true, true, true], 0), ([true, true, true, true, true], 5)])
def T_X4_size : jT := ([(.aload 0, 0, 0, 0, 0, 0), (.getfield 0, 4, 2, 0, 273, 1), (.ireturn, 0, 0, 0, 0, 4)], [([true], 0)])
def T_X4_at : jT := ([(.iload 1, 0, 0, 0, 0, 0), (.ifCond .lt 0, 0, 14, 0, 0, 1), (.iload 1, 0, 0, 0, 0, 4), (.aload 0, 0, 0, 0, 0, 5), (.getfield 0, 4, 2, 0, 273, 6), (.if_icmp .ge 0, 0, 10, 0, 0, 9), (.iload 1, 0, 0, 0, 0, 12), (.aload 0, 0, 0, 0, 0, 13), (.getfield 0, 4, 0, 0, 271, 14), (.arraylength, 0, 0, 0, 0, 17), (.if_icmp .ge 0, 0, 5, 0, 0, 18), (.aload 0, 0, 0, 0, 0, 21), (.getfield 0, 4, 0, 0, 271, 22), (.iload 1, 0, 0, 0, 0, 25), (.iaload, 0, 0, 0, 0, 26), (.goto 0, 0, 1, 0, 0, 27), (.iconst (-1), 0, 0, 0, 0, 30), (.ireturn, 0, 0, 0, 0, 31)], [([true, true], 0)])
def T_X4_isKnown : jT := ([(.iconst 0, 0, 0, 0, 0, 0), (.istore 1, 0, 0, 0, 0, 1), (.nop, 1, 0, 0, 0, 2), (.iload 1, 0, 0, 0, 0, 2), (.aload 0, 0, 0, 0, 0, 3), (.getfield 0, 4, 2, 0, 273, 4), (.if_icmp .ge 0, 0, 9, 0, 0, 7), (.aload 0, 0, 0, 0, 0, 10), (.iload 1, 0, 0, 0, 0, 11), (.invokevirtual 59, 2, 1, 4, 720, 12), (.iconst (-1), 0, 0, 0, 0, 15), (.if_icmp .ne 0, 0, 2, 0, 0, 16), (.iconst 0, 0, 0, 0, 0, 19), (.ireturn, 1, 0, 0, 0, 20), (.iinc 1 1, 0, 0, 0, 0, 21), (.goto 0, 1, 1, 0, 0, 24), (.iconst 1, 0, 0, 0, 0, 27), (.ireturn, 1, 0, 0, 0, 28)], [([true, true], 0), ([true, true], 3)])
def T_X4_clear : jT := ([(.aload 0, 0, 0, 0, 0, 0), (.iconst 0, 0, 0, 0, 0, 1), (.putfield 0, 4, 2, 0, 273, 2), (.return_, 0, 0, 0, 0, 5)], [([true], 0)])
def T_X4_addAll : jT := ([(.iconst 0, 0, 0, 0, 0, 0), (.istore 2, 0, 0, 0, 0, 1), (.nop, 1, 0, 0, 0, 2), (.iload 2, 0, 0, 0, 0, 2), (.aload 1, 0, 0, 0, 0, 3), (.getfield 0, 4, 2, 0, 273, 4), (.if_icmp .ge 0, 0, 22, 0, 0, 7), (.aload 0, 0, 0, 0, 0, 10), (.getfield 0, 4, 2, 0, 273, 11), (.aload 0, 0, 0, 0, 0, 14), (.getfield 0, 4, 0, 0, 271, 15), (.arraylength, 0, 0, 0, 0, 18), (.if_icmp .ge 0, 0, 14, 0, 0, 19), (.aload 0, 0, 0, 0, 0, 22), (.getfield 0, 4, 0, 0, 271, 23), (.aload 0, 0, 0, 0, 0, 26), (.getfield 0, 4, 2, 0, 273, 27), (.aload 1, 0, 0, 0, 0, 30), (.iload 2, 0, 0, 0, 0, 31), (.invokevirtual 59, 2, 1, 4, 720, 32), (.iastore, 0, 0, 0, 0, 35), (.aload 0, 0, 0, 0, 0, 36), (.dup, 0, 0, 0, 0, 37), (.getfield 0, 4, 2, 0, 273, 38), (.iconst 1, 0, 0, 0, 0, 41), (.iadd, 0, 0, 0, 0, 42), (.putfield 0, 4, 2, 0, 273, 43), (.iinc 2 1, 0, 0, 0, 0, 46), (.goto 0, 1, 1, 0, 0, 49), (.return_, 0, 0, 0, 0, 52)], [([true, true, true], 0), ([true, true, true], 3)])
def T_X4_read : jT := ([(.aload 1, 0, 0, 0, 0, 0), (.invokevirtual 139, 1, 1, 10, 698, 1), (.istore 3, 0, 0, 0, 0, 4), (.iconst 0, 0, 0, 0, 0, 5), (.istore 4, 0, 0, 0, 0, 6), (.nop, 1, 0, 0, 0, 8), (.iload 4, 0, 0, 0, 0, 8), (.iload 3, 0, 0, 0, 0, 10), (.if_icmp .ge 0, 0, 22, 0, 0, 11), (.aload 1, 0, 0, 0, 0, 14), (.iload 4, 0, 0, 0, 0, 15), (.iconst 10, 0, 0, 0, 0, 17), (.invokevirtual 143, 3, 1, 10, 699, 19), (.istore 5, 0, 0, 0, 0, 22), (.iload 5, 0, 0, 0, 0, 24), (.iconst 63, 0, 0, 0, 0, 26), (.if_icmp .eq 0, 0, 12, 0, 0, 28), (.iload 5, 0, 0, 0, 0, 31), (.iconst 65, 0, 0, 0, 0, 33), (.if_icmp .lt 0, 0, 5, 0, 0, 35), (.iload 5, 0, 0, 0, 0, 38), (.iconst 65, 0, 0, 0, 0, 40), (.iload 2, 0, 0, 0, 0, 42), (.iadd, 0, 0, 0, 0, 43), (.if_icmp .lt 0, 0, 4, 0, 0, 44), (.iconst (-1), 0, 0, 0, 0, 47), (.iload 4, 0, 0, 0, 0, 48), (.isub, 0, 0, 0, 0, 50), (.ireturn, 0, 0, 0, 0, 51), (.iinc 4 1, 0, 0, 0, 0, 52), (.goto 0, 1, 1, 0, 0, 55), (.aload 0, 0, 0, 0, 0, 58), (.iconst 0, 0, 0, 0, 0, 59), (.putfield 0, 4, 2, 0, 273, 60), (.iconst 0, 0, 0, 0, 0, 63), (.istore 4, 0, 0, 0, 0, 64), (.nop, 2, 0, 0, 0, 66), (.iload 4, 0, 0, 0, 0, 66), (.iload 3, 0, 0, 0, 0, 68), (.if_icmp .ge 0, 0, 30, 0, 0, 69), (.iload 4, 0, 0, 0, 0, 72), (.aload 0, 0, 0, 0, 0, 74), (.getfield 0, 4, 0, 0, 271, 75), (.arraylength, 0, 0, 0, 0, 78), (.if_icmp .ge 0, 0, 25, 0, 0, 79), (.aload 1, 0, 0, 0, 0, 82), (.iload 4, 0, 0, 0, 0, 83), (.iconst 10, 0, 0, 0, 0, 85), (.invokevirtual 143, 3, 1, 10, 699, 87), (.istore 5, 0, 0, 0, 0, 90), (.aload 0, 0, 0, 0, 0, 92), (.getfield 0, 4, 0, 0, 271, 93), (.iload 4, 0, 0, 0, 0, 96), (.iload 5, 0, 0, 0, 0, 98), (.iconst 63, 0, 0, 0, 0, 100), (.if_icmp .ne 0, 0, 2, 0, 0, 102), (.iconst (-1), 0, 0, 0, 0, 105), (.goto 0, 0, 3, 0, 0, 106), (.iload 5, 0, 0, 0, 0, 109), (.iconst 65, 0, 0, 0, 0, 111), (.isub, 0, 0, 0, 0, 113), (.iastore, 0, 0, 0, 0, 114), (.aload 0, 0, 0, 0, 0, 115), (.dup, 0, 0, 0, 0, 116), (.getfield 0, 4, 2, 0, 273, 117), (.iconst 1, 0, 0, 0, 0, 120), (.iadd, 0, 0, 0, 0, 121), (.putfield 0, 4, 2, 0, 273, 122), (.iinc 4 1, 0, 0, 0, 0, 125), (.goto 0, 1, 2, 0, 0, 128), (.aload 0, 0, 0, 0, 0, 131), (.getfield 0, 4, 2, 0, 273, 132), (.ireturn, 0, 0, 0, 0, 135)], [([true, true, true, true, true, true], 0), ([true, true, true, true, true, false], 6), ([true, true, false, true, true, false], 37)])
def T_X4_exchange : jT := ([(.iload 1, 0, 0, 0, 0, 0), (.ifCond .lt 0, 0, 13, 0, 0, 1), (.iload 1, 0, 0, 0, 0, 4), (.aload 0, 0, 0, 0, 0, 5), (.getfield 0, 4, 2, 0, 273, 6), (.if_icmp .ge 0, 0, 9, 0, 0, 9), (.iload 2, 0, 0, 0, 0, 12), (.ifCond .lt 0, 0, 7, 0, 0, 13), (.iload 2, 0, 0, 0, 0, 16), (.aload 0, 0, 0, 0, 0, 17), (.getfield 0, 4, 2, 0, 273, 18), (.if_icmp .ge 0, 0, 3, 0, 0, 21), (.iload 1, 0, 0, 0, 0, 24), (.iload 2, 0, 0, 0, 0, 25), (.if_icmp .ne 0, 0, 2, 0, 0, 26), (.iconst 0, 0, 0, 0, 0, 29), (.ireturn, 1, 0, 0, 0, 30), (.aload 0, 0, 0, 0, 0, 31), (.iload 1, 0, 0, 0, 0, 32), (.invokevirtual 59, 2, 1, 4, 720, 33), (.istore 3, 0, 0, 0, 0, 36), (.aload 0, 0, 0, 0, 0, 37), (.iload 1, 0, 0, 0, 0, 38), (.aload 0, 0, 0, 0, 0, 39), (.iload 2, 0, 0, 0, 0, 40), (.invokevirtual 59, 2, 1, 4, 720, 41), (.invokevirtual 66, 3, 0, 4, 771, 44), (.aload 0, 0, 0, 0, 0, 47), (.iload 2, 0, 0, 0, 0, 48), (.iload 3, 0, 0, 0, 0, 49), (.invokevirtual 66, 3, 0, 4, 771, 50), (.iconst 1, 0, 0, 0, 0, 53), (.ireturn, 1, 0, 0, 0, 54)], [([true, true, true, true], 0)])
def T_X4_reverse : jT := ([(.iconst 0, 0, 0, 0, 0, 0), (.istore 1, 0, 0, 0, 0, 1), (.nop, 1, 0, 0, 0, 2), (.iload 1, 0, 0, 0, 0, 2), (.aload 0, 0, 0, 0, 0, 3), (.getfield 0, 4, 2, 0, 273, 4), (.iconst 2, 0, 0, 0, 0, 7), (.idiv, 0, 0, 0, 0, 8), (.if_icmp .ge 0, 0, 12, 0, 0, 9), (.aload 0, 0, 0, 0, 0, 12), (.iload 1, 0, 0, 0, 0, 13), (.aload 0, 0, 0, 0, 0, 14), (.getfield 0, 4, 2, 0, 273, 15), (.iconst 1, 0, 0, 0, 0, 18), (.isub, 0, 0, 0, 0, 19), (.iload 1, 0, 0, 0, 0, 20), (.isub, 0, 0, 0, 0, 21), (.invokevirtual 64, 3, 1, 4, 783, 22), (.pop, 0, 0, 0, 0, 25), (.iinc 1 1, 0, 0, 0, 0, 26), (.goto 0, 1, 1, 0, 0, 29), (.return_, 0, 0, 0, 0, 32)], [([true, true], 0), ([true, true], 3)])
def T_X4_put : jT := ([(.iload 1, 0, 0, 0, 0, 0), (.ifCond .lt 0, 0, 10, 0, 0, 1), (.iload 1, 0, 0, 0, 0, 4), (.aload 0, 0, 0, 0, 0, 5), (.getfield 0, 4, 0, 0, 271, 6), (.arraylength, 0, 0, 0, 0, 9), (.if_icmp .ge 0, 0, 5, 0, 0, 10), (.aload 0, 0, 0, 0, 0, 13), (.getfield 0, 4, 0, 0, 271, 14), (.iload 1, 0, 0, 0, 0, 17), (.iload 2, 0, 0, 0, 0, 18), (.iastore, 0, 0, 0, 0, 19), (.return_, 0, 0, 0, 0, 20)], [([true, true, true], 0)])
def T_X4_fault : jT := ([(.iconst 0, 0, 0, 0, 0, 0), (.istore 3, 0, 0, 0, 0, 1), (.nop, 1, 0, 0, 0, 2), (.iload 3, 0, 0, 0, 0, 2), (.aload 0, 0, 0, 0, 0, 3), (.getfield 0, 4, 2, 0, 273, 4), (.if_icmp .ge 0, 0, 10, 0, 0, 7), (.aload 0, 0, 0, 0, 0, 10), (.iload 3, 0, 0, 0, 0, 11), (.aload 1, 0, 0, 0, 0, 12), (.aload 2, 0, 0, 0, 0, 13), (.invokevirtual 68, 4, 1, 4, 716, 14), (.ifCond .eq 0, 0, 2, 0, 0, 17), (.iload 3, 0, 0, 0, 0, 20), (.ireturn, 0, 0, 0, 0, 21), (.iinc 3 1, 0, 0, 0, 0, 22), (.goto 0, 1, 1, 0, 0, 25), (.iconst (-1), 0, 0, 0, 0, 28), (.ireturn, 0, 0, 0, 0, 29)], [([true, true, true, true], 0), ([true, true, true, true], 3)])
def T_X4_whyAt : jT := ([(.iload 1, 0, 0, 0, 0, 0), (.ifCond .lt 0, 0, 4, 0, 0, 1), (.iload 1, 0, 0, 0, 0, 4), (.aload 0, 0, 0, 0, 0, 5), (.getfield 0, 4, 2, 0, 273, 6), (.if_icmp .lt 0, 0, 2, 0, 0, 9), (.iconst 0, 0, 0, 0, 0, 12), (.ireturn, 0, 0, 0, 0, 13), (.aload 0, 0, 0, 0, 0, 14), (.iload 1, 0, 0, 0, 0, 15), (.invokevirtual 59, 2, 1, 4, 720, 16), (.istore 4, 0, 0, 0, 0, 19), (.iload 4, 0, 0, 0, 0, 21), (.iconst (-1), 0, 0, 0, 0, 23), (.if_icmp .ne 0, 0, 2, 0, 0, 24), (.iconst (-1), 0, 0, 0, 0, 27), (.goto 0, 0, 12, 0, 0, 28), (.aload 3, 0, 0, 0, 0, 31), (.aload 2, 0, 0, 0, 0, 32), (.aload 0, 0, 0, 0, 0, 33), (.iload 1, 0, 0, 0, 0, 34), (.invokevirtual 69, 2, 1, 4, 724, 35), (.aload 0, 0, 0, 0, 0, 38), (.iload 1, 0, 0, 0, 0, 39), (.iconst 1, 0, 0, 0, 0, 40), (.isub, 0, 0, 0, 0, 41), (.invokevirtual 59, 2, 1, 4, 720, 42), (.iload 4, 0, 0, 0, 0, 45), (.invokevirtual 42, 5, 1, 2, 728, 47), (.ireturn, 0, 0, 0, 0, 50)], [([true, true, true, true, true], 0)])
def T_X4_setTill : jT := ([(.iconst 0, 0, 0, 0, 0, 0), (.istore 2, 0, 0, 0, 0, 1), (.iconst 0, 0, 0, 0, 0, 2), (.istore 3, 0, 0, 0, 0, 3), (.nop, 1, 0, 0, 0, 4), (.iload 3, 0, 0, 0, 0, 4), (.iload 1, 0, 0, 0, 0, 5), (.if_icmp .ge 0, 0, 17, 0, 0, 6), (.iload 2, 0, 0, 0, 0, 9), (.aload 0, 0, 0, 0, 0, 10), (.iload 3, 0, 0, 0, 0, 11), (.invokevirtual 59, 2, 1, 4, 720, 12), (.iconst (-1), 0, 0, 0, 0, 15), (.if_icmp .ne 0, 0, 2, 0, 0, 16), (.iconst 0, 0, 0, 0, 0, 19), (.goto 0, 0, 5, 0, 0, 20), (.iconst 1, 0, 0, 0, 0, 23), (.aload 0, 0, 0, 0, 0, 24), (.iload 3, 0, 0, 0, 0, 25), (.invokevirtual 59, 2, 1, 4, 720, 26), (.ishl, 0, 0, 0, 0, 29), (.ior, 0, 0, 0, 0, 30), (.istore 2, 0, 0, 0, 0, 31), (.iinc 3 1, 0, 0, 0, 0, 32), (.goto 0, 1, 1, 0, 0, 35), (.iload 2, 0, 0, 0, 0, 38), (.ireturn, 0, 0, 0, 0, 39)], [([true, true, true, true], 0), ([true, true, true, true], 5)])
def T_X4_costTill : jT := ([(.iconst 0, 0, 0, 0, 0, 0), (.istore 3, 0, 0, 0, 0, 1), (.iconst 0, 0, 0, 0, 0, 2), (.istore 4, 0, 0, 0, 0, 3), (.nop, 1, 0, 0, 0, 5), (.iload 4, 0, 0, 0, 0, 5), (.iload 1, 0, 0, 0, 0, 7), (.if_icmp .ge 0, 0, 10, 0, 0, 8), (.iload 3, 0, 0, 0, 0, 11), (.aload 2, 0, 0, 0, 0, 12), (.aload 0, 0, 0, 0, 0, 13), (.iload 4, 0, 0, 0, 0, 14), (.invokevirtual 59, 2, 1, 4, 720, 16), (.invokevirtual 15, 2, 1, 1, 742, 19), (.iadd, 0, 0, 0, 0, 22), (.istore 3, 0, 0, 0, 0, 23), (.iinc 4 1, 0, 0, 0, 0, 24), (.goto 0, 1, 1, 0, 0, 27), (.iload 3, 0, 0, 0, 0, 30), (.ireturn, 0, 0, 0, 0, 31)], [([true, true, true, true, true], 0), ([true, true, true, true, true], 5)])
def T_X4_hungryTill : jT := ([(.iconst 0, 0, 0, 0, 0, 0), (.istore 3, 0, 0, 0, 0, 1), (.iconst 0, 0, 0, 0, 0, 2), (.istore 4, 0, 0, 0, 0, 3), (.nop, 1, 0, 0, 0, 5), (.iload 4, 0, 0, 0, 0, 5), (.iload 1, 0, 0, 0, 0, 7), (.if_icmp .ge 0, 0, 10, 0, 0, 8), (.iload 3, 0, 0, 0, 0, 11), (.aload 2, 0, 0, 0, 0, 12), (.aload 0, 0, 0, 0, 0, 13), (.iload 4, 0, 0, 0, 0, 14), (.invokevirtual 59, 2, 1, 4, 720, 16), (.invokevirtual 27, 2, 1, 1, 747, 19), (.ior, 0, 0, 0, 0, 22), (.istore 3, 0, 0, 0, 0, 23), (.iinc 4 1, 0, 0, 0, 0, 24), (.goto 0, 1, 1, 0, 0, 27), (.iload 3, 0, 0, 0, 0, 30), (.ireturn, 0, 0, 0, 0, 31)], [([true, true, true, true, true], 0), ([true, true, true, true, true], 5)])
def T_X4_mostAtOnce : jT := ([(.iconst 0, 0, 0, 0, 0, 0), (.istore 2, 0, 0, 0, 0, 1), (.iconst 0, 0, 0, 0, 0, 2), (.istore 3, 0, 0, 0, 0, 3), (.nop, 1, 0, 0, 0, 4), (.iload 3, 0, 0, 0, 0, 4), (.iconst 20, 0, 0, 0, 0, 5), (.if_icmp .ge 0, 0, 39, 0, 0, 7), (.iconst 0, 0, 0, 0, 0, 10), (.istore 4, 0, 0, 0, 0, 11), (.iconst 0, 0, 0, 0, 0, 13), (.istore 5, 0, 0, 0, 0, 14), (.nop, 2, 0, 0, 0, 16), (.iload 5, 0, 0, 0, 0, 16), (.aload 0, 0, 0, 0, 0, 18), (.getfield 0, 4, 2, 0, 273, 19), (.if_icmp .ge 0, 0, 24, 0, 0, 22), (.iconst 10, 0, 0, 0, 0, 25), (.iload 5, 0, 0, 0, 0, 27), (.iadd, 0, 0, 0, 0, 29), (.istore 6, 0, 0, 0, 0, 30), (.iload 4, 0, 0, 0, 0, 32), (.iload 6, 0, 0, 0, 0, 34), (.aload 1, 0, 0, 0, 0, 36), (.aload 0, 0, 0, 0, 0, 37), (.iload 5, 0, 0, 0, 0, 38), (.invokevirtual 59, 2, 1, 4, 720, 40), (.invokevirtual 17, 2, 1, 1, 1228, 43), (.isub, 0, 0, 0, 0, 46), (.iload 3, 0, 0, 0, 0, 47), (.if_icmp .gt 0, 0, 5, 0, 0, 48), (.iload 3, 0, 0, 0, 0, 51), (.iload 6, 0, 0, 0, 0, 52), (.if_icmp .ge 0, 0, 2, 0, 0, 54), (.iconst 1, 0, 0, 0, 0, 57), (.goto 0, 0, 1, 0, 0, 58), (.iconst 0, 0, 0, 0, 0, 61), (.iadd, 0, 0, 0, 0, 62), (.istore 4, 0, 0, 0, 0, 63), (.iinc 5 1, 0, 0, 0, 0, 65), (.goto 0, 1, 2, 0, 0, 68), (.iload 2, 0, 0, 0, 0, 71), (.iload 4, 0, 0, 0, 0, 72), (.lmul, 0, 0, 0, 1229, 74), (.istore 2, 0, 0, 0, 0, 77), (.iinc 3 1, 0, 0, 0, 0, 78), (.goto 0, 1, 1, 0, 0, 81), (.iload 2, 0, 0, 0, 0, 84), (.ireturn, 0, 0, 0, 0, 85)], [([true, true, true, true, true, true, true], 0), ([true, true, true, true, false, false, false], 5), ([true, true, true, true, true, true, false], 13)])
def T_X4_cook : jT := ([(.aload 0, 0, 0, 0, 0, 0), (.getfield 0, 4, 1, 0, 272, 1), (.iconst 0, 0, 0, 0, 0, 4), (.invokestatic 1, 2, 0, 0, 1238, 5), (.iconst 0, 0, 0, 0, 0, 8), (.istore 4, 0, 0, 0, 0, 9), (.iconst 0, 0, 0, 0, 0, 11), (.istore 5, 0, 0, 0, 0, 12), (.nop, 1, 0, 0, 0, 14), (.iload 5, 0, 0, 0, 0, 14), (.aload 0, 0, 0, 0, 0, 16), (.getfield 0, 4, 2, 0, 273, 17), (.if_icmp .ge 0, 0, 59, 0, 0, 20), (.iconst 0, 0, 0, 0, 0, 23), (.istore 6, 0, 0, 0, 0, 24), (.iconst 1, 0, 0, 0, 0, 26), (.istore 7, 0, 0, 0, 0, 27), (.nop, 2, 0, 0, 0, 29), (.iload 7, 0, 0, 0, 0, 29), (.iload 2, 0, 0, 0, 0, 31), (.if_icmp .ge 0, 0, 20, 0, 0, 32), (.iload 7, 0, 0, 0, 0, 35), (.aload 0, 0, 0, 0, 0, 37), (.getfield 0, 4, 1, 0, 272, 38), (.arraylength, 0, 0, 0, 0, 41), (.if_icmp .ge 0, 0, 15, 0, 0, 42), (.aload 0, 0, 0, 0, 0, 45), (.getfield 0, 4, 1, 0, 272, 46), (.iload 7, 0, 0, 0, 0, 49), (.iaload, 0, 0, 0, 0, 51), (.aload 0, 0, 0, 0, 0, 52), (.getfield 0, 4, 1, 0, 272, 53), (.iload 6, 0, 0, 0, 0, 56), (.iaload, 0, 0, 0, 0, 58), (.if_icmp .ge 0, 0, 2, 0, 0, 59), (.iload 7, 0, 0, 0, 0, 62), (.goto 0, 0, 1, 0, 0, 64), (.iload 6, 0, 0, 0, 0, 67), (.istore 6, 0, 0, 0, 0, 69), (.iinc 7 1, 0, 0, 0, 0, 71), (.goto 0, 1, 2, 0, 0, 74), (.aload 0, 0, 0, 0, 0, 77), (.getfield 0, 4, 1, 0, 272, 78), (.iload 6, 0, 0, 0, 0, 81), (.dup2, 0, 0, 0, 0, 83), (.iaload, 0, 0, 0, 0, 84), (.aload 1, 0, 0, 0, 0, 85), (.aload 0, 0, 0, 0, 0, 86), (.iload 5, 0, 0, 0, 0, 87), (.invokevirtual 59, 2, 1, 4, 720, 89), (.invokevirtual 17, 2, 1, 1, 1228, 92), (.iadd, 0, 0, 0, 0, 95), (.iastore, 0, 0, 0, 0, 96), (.aload 3, 0, 0, 0, 0, 97), (.aload 0, 0, 0, 0, 0, 98), (.getfield 0, 4, 1, 0, 272, 99), (.iload 6, 0, 0, 0, 0, 102), (.iaload, 0, 0, 0, 0, 104), (.invokevirtual 105, 2, 0, 7, 1239, 105), (.iload 4, 0, 0, 0, 0, 108), (.aload 0, 0, 0, 0, 0, 110), (.getfield 0, 4, 1, 0, 272, 111), (.iload 6, 0, 0, 0, 0, 114), (.iaload, 0, 0, 0, 0, 116), (.iconst 10, 0, 0, 0, 0, 117), (.isub, 0, 0, 0, 0, 119), (.iload 5, 0, 0, 0, 0, 120), (.isub, 0, 0, 0, 0, 122), (.lmul, 0, 0, 0, 1229, 123), (.istore 4, 0, 0, 0, 0, 126), (.iinc 5 1, 0, 0, 0, 0, 128), (.goto 0, 1, 1, 0, 0, 131), (.iload 4, 0, 0, 0, 0, 134), (.ireturn, 0, 0, 0, 0, 136)], [([true, true, true, true, true, true, true, true], 0), ([true, true, true, true, true, true, false, false], 9), ([true, true, true, true, true, true, true, true], 18)])
def T_X4_placesEaten : jT := ([(.iconst 0, 0, 0, 0, 0, 0), (.istore 3, 0, 0, 0, 0, 1), (.iconst 0, 0, 0, 0, 0, 2), (.istore 4, 0, 0, 0, 0, 3), (.nop, 1, 0, 0, 0, 5), (.iload 4, 0, 0, 0, 0, 5), (.aload 0, 0, 0, 0, 0, 7), (.getfield 0, 4, 2, 0, 273, 8), (.if_icmp .ge 0, 0, 17, 0, 0, 11), (.iload 3, 0, 0, 0, 0, 14), (.aload 1, 0, 0, 0, 0, 15), (.iload 2, 0, 0, 0, 0, 16), (.aload 0, 0, 0, 0, 0, 17), (.iload 4, 0, 0, 0, 0, 18), (.invokevirtual 59, 2, 1, 4, 720, 20), (.invokevirtual 26, 3, 1, 1, 1248, 23), (.ifCond .eq 0, 0, 2, 0, 0, 26), (.iconst 0, 0, 0, 0, 0, 29), (.goto 0, 0, 3, 0, 0, 30), (.iconst 1, 0, 0, 0, 0, 33), (.iload 4, 0, 0, 0, 0, 34), (.ishl, 0, 0, 0, 0, 36), (.ior, 0, 0, 0, 0, 37), (.istore 3, 0, 0, 0, 0, 38), (.iinc 4 1, 0, 0, 0, 0, 39), (.goto 0, 1, 1, 0, 0, 42), (.iload 3, 0, 0, 0, 0, 45), (.ireturn, 0, 0, 0, 0, 46)], [([true, true, true, true, true], 0), ([true, true, true, true, true], 5)])
def T_X4_stuffsEaten : jT := ([(.iconst 0, 0, 0, 0, 0, 0), (.istore 3, 0, 0, 0, 0, 1), (.iconst 0, 0, 0, 0, 0, 2), (.istore 4, 0, 0, 0, 0, 3), (.nop, 1, 0, 0, 0, 5), (.iload 4, 0, 0, 0, 0, 5), (.aload 0, 0, 0, 0, 0, 7), (.getfield 0, 4, 2, 0, 273, 8), (.if_icmp .ge 0, 0, 19, 0, 0, 11), (.iload 3, 0, 0, 0, 0, 14), (.aload 1, 0, 0, 0, 0, 15), (.iload 2, 0, 0, 0, 0, 16), (.aload 0, 0, 0, 0, 0, 17), (.iload 4, 0, 0, 0, 0, 18), (.invokevirtual 59, 2, 1, 4, 720, 20), (.invokevirtual 26, 3, 1, 1, 1248, 23), (.ifCond .eq 0, 0, 2, 0, 0, 26), (.iconst 0, 0, 0, 0, 0, 29), (.goto 0, 0, 5, 0, 0, 30), (.aload 1, 0, 0, 0, 0, 33), (.aload 0, 0, 0, 0, 0, 34), (.iload 4, 0, 0, 0, 0, 35), (.invokevirtual 59, 2, 1, 4, 720, 37), (.invokevirtual 14, 2, 1, 1, 1249, 40), (.ior, 0, 0, 0, 0, 43), (.istore 3, 0, 0, 0, 0, 44), (.iinc 4 1, 0, 0, 0, 0, 45), (.goto 0, 1, 1, 0, 0, 48), (.iload 3, 0, 0, 0, 0, 51), (.ireturn, 0, 0, 0, 0, 52)], [([true, true, true, true, true], 0), ([true, true, true, true, true], 5)])
def T_X5_begin : jT := ([(.aload 0, 0, 0, 0, 0, 0), (.iconst 0, 0, 0, 0, 0, 1), (.putfield 0, 5, 4, 0, 336, 2), (.aload 0, 0, 0, 0, 0, 5), (.iconst 2047, 0, 0, 0, 0, 6), (.putfield 0, 5, 5, 0, 337, 9), (.aload 0, 0, 0, 0, 0, 12), (.iconst 999, 0, 0, 0, 0, 13), (.putfield 0, 5, 6, 0, 338, 16), (.aload 0, 0, 0, 0, 0, 19), (.getfield 0, 5, 2, 0, 334, 20), (.iconst 0, 0, 0, 0, 0, 23), (.invokestatic 1, 2, 0, 0, 876, 24), (.return_, 0, 0, 0, 0, 27)], [([true], 0)])
def T_X5_addLine : jT := ([(.aload 0, 0, 0, 0, 0, 0), (.dup, 0, 0, 0, 0, 1), (.getfield 0, 5, 4, 0, 336, 2), (.aload 0, 0, 0, 0, 0, 5), (.getfield 0, 5, 4, 0, 336, 6), (.iconst 6, 0, 0, 0, 0, 9), (.if_icmp .ge 0, 0, 2, 0, 0, 11), (.iconst 1, 0, 0, 0, 0, 14), (.goto 0, 0, 1, 0, 0, 15), (.iconst 0, 0, 0, 0, 0, 18), (.iadd, 0, 0, 0, 0, 19), (.putfield 0, 5, 4, 0, 336, 20), (.return_, 0, 0, 0, 0, 23)], [([true], 0)])
def T_X5_weigh : jT := ([(.aload 0, 0, 0, 0, 0, 0), (.getfield 0, 5, 4, 0, 336, 1), (.ifCond .le 0, 0, 15, 0, 0, 4), (.iload 1, 0, 0, 0, 0, 7), (.ifCond .lt 0, 0, 13, 0, 0, 8), (.iload 1, 0, 0, 0, 0, 11), (.iconst 10, 0, 0, 0, 0, 12), (.if_icmp .ge 0, 0, 10, 0, 0, 14), (.aload 0, 0, 0, 0, 0, 17), (.getfield 0, 5, 0, 0, 332, 18), (.aload 0, 0, 0, 0, 0, 21), (.getfield 0, 5, 4, 0, 336, 22), (.iconst 1, 0, 0, 0, 0, 25), (.isub, 0, 0, 0, 0, 26), (.aaload, 27, 0, 0, 0, 27), (.iload 1, 0, 0, 0, 0, 28), (.iload 2, 0, 0, 0, 0, 29), (.iastore, 0, 0, 0, 0, 30), (.return_, 0, 0, 0, 0, 31)], [([true, true, true], 0)])
def T_X5_weighAll : jT := ([(.aload 0, 0, 0, 0, 0, 0), (.invokevirtual 77, 1, 0, 5, 881, 1), (.iconst 0, 0, 0, 0, 0, 4), (.istore 3, 0, 0, 0, 0, 5), (.nop, 1, 0, 0, 0, 6), (.iload 3, 0, 0, 0, 0, 6), (.aload 1, 0, 0, 0, 0, 7), (.invokevirtual 9, 1, 1, 1, 885, 8), (.if_icmp .ge 0, 0, 6, 0, 0, 11), (.aload 0, 0, 0, 0, 0, 14), (.iload 3, 0, 0, 0, 0, 15), (.iload 2, 0, 0, 0, 0, 16), (.invokevirtual 78, 3, 0, 5, 886, 17), (.iinc 3 1, 0, 0, 0, 0, 20), (.goto 0, 1, 1, 0, 0, 23), (.return_, 0, 0, 0, 0, 26)], [([true, true, true, true], 0), ([true, true, true, true], 5)])
def T_X5_endWith : jT := ([(.aload 0, 0, 0, 0, 0, 0), (.iload 1, 0, 0, 0, 0, 1), (.putfield 0, 5, 5, 0, 337, 2), (.return_, 0, 0, 0, 0, 5)], [([true, true], 0)])
def T_X5_limit : jT := ([(.aload 0, 0, 0, 0, 0, 0), (.iload 2, 0, 0, 0, 0, 1), (.putfield 0, 5, 6, 0, 338, 2), (.iconst 0, 0, 0, 0, 0, 5), (.istore 3, 0, 0, 0, 0, 6), (.nop, 1, 0, 0, 0, 7), (.iload 3, 0, 0, 0, 0, 7), (.iconst 10, 0, 0, 0, 0, 8), (.if_icmp .ge 0, 0, 9, 0, 0, 10), (.aload 0, 0, 0, 0, 0, 13), (.getfield 0, 5, 2, 0, 334, 14), (.iload 3, 0, 0, 0, 0, 17), (.aload 1, 0, 0, 0, 0, 18), (.iload 3, 0, 0, 0, 0, 19), (.invokevirtual 15, 2, 1, 1, 1117, 20), (.iastore, 0, 0, 0, 0, 23), (.iinc 3 1, 0, 0, 0, 0, 24), (.goto 0, 1, 1, 0, 0, 27), (.return_, 0, 0, 0, 0, 30)], [([true, true, true, true], 0), ([true, true, false, true], 6)])
def T_X5_greatest : jT := ([(.iconst (-1000000), 0, 0, 0, 898, 0), (.istore 4, 0, 0, 0, 0, 2), (.aload 1, 0, 0, 0, 0, 4), (.invokevirtual 112, 1, 1, 8, 899, 5), (.istore 5, 0, 0, 0, 0, 8), (.nop, 1, 0, 0, 0, 10), (.iload 5, 0, 0, 0, 0, 10), (.aload 1, 0, 0, 0, 0, 12), (.invokevirtual 111, 1, 1, 8, 903, 13), (.if_icmp .ge 0, 0, 16, 0, 0, 16), (.aload 0, 0, 0, 0, 0, 19), (.aload 1, 0, 0, 0, 0, 20), (.iload 5, 0, 0, 0, 0, 21), (.iload 2, 0, 0, 0, 0, 23), (.iload 3, 0, 0, 0, 0, 24), (.invokevirtual 84, 5, 1, 5, 904, 25), (.ifCond .eq 0, 0, 7, 0, 0, 28), (.iload 4, 0, 0, 0, 0, 31), (.aload 0, 0, 0, 0, 0, 33), (.aload 1, 0, 0, 0, 0, 34), (.iload 5, 0, 0, 0, 0, 35), (.invokevirtual 85, 3, 1, 5, 916, 37), (.lmul, 0, 0, 0, 922, 40), (.istore 4, 0, 0, 0, 0, 43), (.iinc 5 1, 0, 0, 0, 0, 45), (.goto 0, 1, 1, 0, 0, 48), (.iload 4, 0, 0, 0, 0, 51), (.ireturn, 0, 0, 0, 0, 53)], [([true, true, true, true, true, true], 0), ([true, true, true, true, true, true], 6)])
def T_X5_seek : jT := ([(.aload 0, 0, 0, 0, 0, 0), (.aload 1, 0, 0, 0, 0, 1), (.iload 2, 0, 0, 0, 0, 2), (.iload 3, 0, 0, 0, 0, 3), (.invokevirtual 82, 4, 1, 5, 894, 4), (.istore 4, 0, 0, 0, 0, 7), (.aload 0, 0, 0, 0, 0, 9), (.getfield 0, 5, 1, 0, 333, 10), (.iconst 0, 0, 0, 0, 0, 13), (.invokestatic 1, 2, 0, 0, 876, 14), (.aload 0, 0, 0, 0, 0, 17), (.iconst 0, 0, 0, 0, 0, 18), (.putfield 0, 5, 7, 0, 339, 19), (.iload 4, 0, 0, 0, 0, 22), (.iconst (-1000000), 0, 0, 0, 898, 24), (.if_icmp .ne 0, 0, 2, 0, 0, 26), (.iload 4, 0, 0, 0, 0, 29), (.ireturn, 0, 0, 0, 0, 31), (.aload 1, 0, 0, 0, 0, 32), (.invokevirtual 112, 1, 1, 8, 899, 33), (.istore 5, 0, 0, 0, 0, 36), (.nop, 1, 0, 0, 0, 38), (.iload 5, 0, 0, 0, 0, 38), (.aload 1, 0, 0, 0, 0, 40), (.invokevirtual 111, 1, 1, 8, 903, 41), (.if_icmp .ge 0, 0, 35, 0, 0, 44), (.iload 5, 0, 0, 0, 0, 47), (.iconst 1024, 0, 0, 0, 0, 49), (.if_icmp .ge 0, 0, 32, 0, 0, 52), (.iload 5, 0, 0, 0, 0, 55), (.ifCond .lt 0, 0, 28, 0, 0, 57), (.aload 0, 0, 0, 0, 0, 60), (.aload 1, 0, 0, 0, 0, 61), (.iload 5, 0, 0, 0, 0, 62), (.iload 2, 0, 0, 0, 0, 64), (.iload 3, 0, 0, 0, 0, 65), (.invokevirtual 84, 5, 1, 5, 904, 66), (.ifCond .eq 0, 0, 21, 0, 0, 69), (.aload 0, 0, 0, 0, 0, 72), (.aload 1, 0, 0, 0, 0, 73), (.iload 5, 0, 0, 0, 0, 74), (.invokevirtual 85, 3, 1, 5, 916, 76), (.iload 4, 0, 0, 0, 0, 79), (.if_icmp .ne 0, 0, 15, 0, 0, 81), (.aload 0, 0, 0, 0, 0, 84), (.getfield 0, 5, 1, 0, 333, 85), (.iload 5, 0, 0, 0, 0, 88), (.aload 1, 0, 0, 0, 0, 90), (.iload 5, 0, 0, 0, 0, 91), (.invokevirtual 118, 2, 1, 8, 908, 93), (.aload 0, 0, 0, 0, 0, 96), (.getfield 0, 5, 5, 0, 337, 97), (.iand, 0, 0, 0, 0, 100), (.iastore, 0, 0, 0, 0, 101), (.aload 0, 0, 0, 0, 0, 102), (.aload 1, 0, 0, 0, 0, 103), (.iload 5, 0, 0, 0, 0, 104), (.invokevirtual 119, 2, 1, 8, 912, 106), (.putfield 0, 5, 7, 0, 339, 109), (.iinc 5 1, 0, 0, 0, 0, 112), (.goto 0, 1, 1, 0, 0, 115), (.aload 0, 0, 0, 0, 0, 118), (.aload 1, 0, 0, 0, 0, 119), (.invokevirtual 87, 2, 0, 5, 923, 120), (.iload 4, 0, 0, 0, 0, 123), (.ireturn, 0, 0, 0, 0, 125)], [([true, true, true, true, true, true], 0), ([true, true, true, true, true, true], 22)])
def T_X5_isGoal : jT := ([(.aload 1, 0, 0, 0, 0, 0), (.iload 2, 0, 0, 0, 0, 1), (.invokevirtual 118, 2, 1, 8, 908, 2), (.aload 0, 0, 0, 0, 0, 5), (.getfield 0, 5, 5, 0, 337, 6), (.iand, 0, 0, 0, 0, 9), (.ifCond .eq 0, 0, 28, 0, 0, 10), (.aload 1, 0, 0, 0, 0, 13), (.iload 2, 0, 0, 0, 0, 14), (.invokevirtual 119, 2, 1, 8, 912, 15), (.iload 3, 0, 0, 0, 0, 18), (.if_icmp .lt 0, 0, 23, 0, 0, 19), (.aload 1, 0, 0, 0, 0, 22), (.iload 2, 0, 0, 0, 0, 23), (.invokevirtual 119, 2, 1, 8, 912, 24), (.iload 4, 0, 0, 0, 0, 27), (.if_icmp .gt 0, 0, 18, 0, 0, 29), (.aload 0, 0, 0, 0, 0, 32), (.getfield 0, 5, 6, 0, 338, 33), (.iconst 999, 0, 0, 0, 0, 36), (.if_icmp .eq 0, 0, 12, 0, 0, 39), (.aload 0, 0, 0, 0, 0, 42), (.getfield 0, 5, 2, 0, 334, 43), (.iload 2, 0, 0, 0, 0, 46), (.aload 1, 0, 0, 0, 0, 47), (.invokevirtual 112, 1, 1, 8, 899, 48), (.iconst (-1), 0, 0, 0, 0, 51), (.ixor, 0, 0, 0, 0, 52), (.iand, 0, 0, 0, 0, 53), (.invokestatic 86, 2, 1, 5, 913, 54), (.aload 0, 0, 0, 0, 0, 57), (.getfield 0, 5, 6, 0, 338, 58), (.if_icmp .gt 0, 0, 2, 0, 0, 61), (.iconst 1, 0, 0, 0, 0, 64), (.goto 0, 0, 1, 0, 0, 65), (.iconst 0, 0, 0, 0, 0, 68), (.ireturn, 1, 0, 0, 0, 69)], [([true, true, true, true, true], 0)])
def T_X5_worth : jT := ([(.iconst 1000000, 0, 0, 0, 920, 0), (.istore 3, 0, 0, 0, 0, 2), (.iconst 0, 0, 0, 0, 0, 3), (.istore 4, 0, 0, 0, 0, 4), (.nop, 1, 0, 0, 0, 6), (.iload 4, 0, 0, 0, 0, 6), (.aload 0, 0, 0, 0, 0, 8), (.getfield 0, 5, 4, 0, 336, 9), (.if_icmp .ge 0, 0, 19, 0, 0, 12), (.iload 4, 0, 0, 0, 0, 15), (.iconst 6, 0, 0, 0, 0, 17), (.if_icmp .ge 0, 0, 16, 0, 0, 19), (.iload 3, 0, 0, 0, 0, 22), (.aload 0, 0, 0, 0, 0, 23), (.getfield 0, 5, 0, 0, 332, 24), (.iload 4, 0, 0, 0, 0, 27), (.aaload, 27, 0, 0, 0, 29), (.iload 2, 0, 0, 0, 0, 30), (.aload 1, 0, 0, 0, 0, 31), (.invokevirtual 112, 1, 1, 8, 899, 32), (.iconst (-1), 0, 0, 0, 0, 35), (.ixor, 0, 0, 0, 0, 36), (.iand, 0, 0, 0, 0, 37), (.invokestatic 86, 2, 1, 5, 913, 38), (.lsub, 0, 0, 0, 921, 41), (.istore 3, 0, 0, 0, 0, 44), (.iinc 4 1, 0, 0, 0, 0, 45), (.goto 0, 1, 1, 0, 0, 48), (.iload 3, 0, 0, 0, 0, 51), (.ireturn, 0, 0, 0, 0, 52)], [([true, true, true, true, true], 0), ([true, true, true, true, true], 5)])
def T_X5_sum : jT := ([(.iconst 0, 0, 0, 0, 0, 0), (.istore 2, 0, 0, 0, 0, 1), (.iconst 0, 0, 0, 0, 0, 2), (.istore 3, 0, 0, 0, 0, 3), (.nop, 1, 0, 0, 0, 4), (.iload 3, 0, 0, 0, 0, 4), (.aload 0, 0, 0, 0, 0, 5), (.arraylength, 0, 0, 0, 0, 6), (.if_icmp .ge 0, 0, 14, 0, 0, 7), (.iload 2, 0, 0, 0, 0, 10), (.iload 1, 0, 0, 0, 0, 11), (.iload 3, 0, 0, 0, 0, 12), (.ishr, 0, 0, 0, 0, 13), (.iconst 1, 0, 0, 0, 0, 14), (.iand, 0, 0, 0, 0, 15), (.aload 0, 0, 0, 0, 0, 16), (.iload 3, 0, 0, 0, 0, 17), (.iaload, 0, 0, 0, 0, 18), (.imul, 0, 0, 0, 0, 19), (.iadd, 0, 0, 0, 0, 20), (.istore 2, 0, 0, 0, 0, 21), (.iinc 3 1, 0, 0, 0, 0, 22), (.goto 0, 1, 1, 0, 0, 25), (.iload 2, 0, 0, 0, 0, 28), (.ireturn, 0, 0, 0, 0, 29)], [([true, true, true, true], 0), ([true, true, true, true], 5)])
def T_X5_lead : jT := ([(.aload 1, 0, 0, 0, 0, 0), (.invokevirtual 111, 1, 1, 8, 903, 1), (.iconst 1024, 0, 0, 0, 0, 4), (.lsub, 0, 0, 0, 921, 7), (.iconst 1, 0, 0, 0, 0, 10), (.isub, 0, 0, 0, 0, 11), (.istore 2, 0, 0, 0, 0, 12), (.nop, 1, 0, 0, 0, 13), (.iload 2, 0, 0, 0, 0, 13), (.ifCond .lt 0, 0, 55, 0, 0, 14), (.iload 2, 0, 0, 0, 0, 17), (.aload 1, 0, 0, 0, 0, 18), (.invokevirtual 112, 1, 1, 8, 899, 19), (.if_icmp .lt 0, 0, 51, 0, 0, 22), (.aload 1, 0, 0, 0, 0, 25), (.iload 2, 0, 0, 0, 0, 26), (.invokevirtual 118, 2, 1, 8, 908, 27), (.ifCond .ne 0, 0, 2, 0, 0, 30), (.iconst 0, 0, 0, 0, 0, 33), (.goto 0, 0, 3, 0, 0, 34), (.aload 1, 0, 0, 0, 0, 37), (.iload 2, 0, 0, 0, 0, 38), (.invokevirtual 120, 2, 1, 8, 927, 39), (.istore 3, 0, 0, 0, 0, 42), (.iconst 0, 0, 0, 0, 0, 43), (.istore 4, 0, 0, 0, 0, 44), (.nop, 2, 0, 0, 0, 46), (.iload 4, 0, 0, 0, 0, 46), (.aload 1, 0, 0, 0, 0, 48), (.invokevirtual 110, 1, 1, 8, 928, 49), (.if_icmp .ge 0, 0, 32, 0, 0, 52), (.iload 3, 0, 0, 0, 0, 55), (.iload 4, 0, 0, 0, 0, 56), (.ishr, 0, 0, 0, 0, 58), (.iconst 1, 0, 0, 0, 0, 59), (.iand, 0, 0, 0, 0, 60), (.iconst 1, 0, 0, 0, 0, 61), (.if_icmp .ne 0, 0, 23, 0, 0, 62), (.aload 0, 0, 0, 0, 0, 65), (.iload 2, 0, 0, 0, 0, 66), (.iconst 1, 0, 0, 0, 0, 67), (.iload 4, 0, 0, 0, 0, 68), (.ishl, 0, 0, 0, 0, 70), (.ior, 0, 0, 0, 0, 71), (.iload 4, 0, 0, 0, 0, 72), (.invokevirtual 88, 3, 1, 5, 932, 74), (.ifCond .eq 0, 0, 14, 0, 0, 77), (.aload 0, 0, 0, 0, 0, 80), (.getfield 0, 5, 1, 0, 333, 81), (.iload 2, 0, 0, 0, 0, 84), (.dup2, 0, 0, 0, 0, 85), (.iaload, 0, 0, 0, 0, 86), (.aload 1, 0, 0, 0, 0, 87), (.iload 2, 0, 0, 0, 0, 88), (.invokevirtual 118, 2, 1, 8, 908, 89), (.aload 1, 0, 0, 0, 0, 92), (.iload 4, 0, 0, 0, 0, 93), (.invokevirtual 116, 2, 1, 8, 936, 95), (.iand, 0, 0, 0, 0, 98), (.ior, 0, 0, 0, 0, 99), (.iastore, 0, 0, 0, 0, 100), (.iinc 4 1, 0, 0, 0, 0, 101), (.goto 0, 1, 2, 0, 0, 104), (.iinc 2 (-1), 0, 0, 0, 0, 107), (.goto 0, 1, 1, 0, 0, 110), (.return_, 0, 0, 0, 0, 113)], [([true, true, true, true, true], 0), ([true, true, true, false, false], 8), ([true, true, true, true, true], 27)])
def T_X5_isMarked : jT := ([(.iload 1, 0, 0, 0, 0, 0), (.ifCond .lt 0, 0, 15, 0, 0, 1), (.iload 1, 0, 0, 0, 0, 4), (.iconst 1024, 0, 0, 0, 0, 5), (.if_icmp .ge 0, 0, 12, 0, 0, 8), (.aload 0, 0, 0, 0, 0, 11), (.getfield 0, 5, 1, 0, 333, 12), (.iload 1, 0, 0, 0, 0, 15), (.iaload, 0, 0, 0, 0, 16), (.iload 2, 0, 0, 0, 0, 17), (.ishr, 0, 0, 0, 0, 18), (.iconst 1, 0, 0, 0, 0, 19), (.iand, 0, 0, 0, 0, 20), (.iconst 1, 0, 0, 0, 0, 21), (.if_icmp .ne 0, 0, 2, 0, 0, 22), (.iconst 1, 0, 0, 0, 0, 25), (.goto 0, 0, 1, 0, 0, 26), (.iconst 0, 0, 0, 0, 0, 29), (.ireturn, 1, 0, 0, 0, 30)], [([true, true, true], 0)])
def T_X5_tell : jT := ([(.aload 1, 0, 0, 0, 0, 0), (.invokevirtual 112, 1, 1, 8, 899, 1), (.istore 3, 0, 0, 0, 0, 4), (.aload 1, 0, 0, 0, 0, 5), (.invokevirtual 113, 1, 1, 8, 944, 6), (.istore 4, 0, 0, 0, 0, 9), (.iconst 0, 0, 0, 0, 0, 11), (.istore 5, 0, 0, 0, 0, 12), (.nop, 1, 0, 0, 0, 14), (.iload 5, 0, 0, 0, 0, 14), (.aload 0, 0, 0, 0, 0, 16), (.getfield 0, 5, 7, 0, 339, 17), (.if_icmp .ge 0, 0, 44, 0, 0, 20), (.aload 1, 0, 0, 0, 0, 23), (.iload 3, 0, 0, 0, 0, 24), (.invokevirtual 120, 2, 1, 8, 927, 25), (.aload 1, 0, 0, 0, 0, 28), (.iload 4, 0, 0, 0, 0, 29), (.invokevirtual 116, 2, 1, 8, 936, 31), (.iand, 0, 0, 0, 0, 34), (.istore 6, 0, 0, 0, 0, 35), (.iconst 0, 0, 0, 0, 0, 37), (.istore 7, 0, 0, 0, 0, 38), (.nop, 2, 0, 0, 0, 40), (.iload 7, 0, 0, 0, 0, 40), (.iconst 10, 0, 0, 0, 0, 42), (.if_icmp .ge 0, 0, 17, 0, 0, 44), (.iload 6, 0, 0, 0, 0, 47), (.iload 7, 0, 0, 0, 0, 49), (.ishr, 0, 0, 0, 0, 51), (.iconst 1, 0, 0, 0, 0, 52), (.iand, 0, 0, 0, 0, 53), (.ifCond .eq 0, 0, 9, 0, 0, 54), (.aload 0, 0, 0, 0, 0, 57), (.iload 3, 0, 0, 0, 0, 58), (.iconst 1, 0, 0, 0, 0, 59), (.iload 7, 0, 0, 0, 0, 60), (.ishl, 0, 0, 0, 0, 62), (.ior, 0, 0, 0, 0, 63), (.iload 7, 0, 0, 0, 0, 64), (.invokevirtual 88, 3, 1, 5, 932, 66), (.ifCond .ne 0, 0, 2, 0, 0, 69), (.iinc 7 1, 0, 0, 0, 0, 72), (.goto 0, 1, 2, 0, 0, 75), (.aload 2, 0, 0, 0, 0, 78), (.iload 7, 0, 0, 0, 0, 79), (.invokevirtual 105, 2, 0, 7, 948, 81), (.iload 3, 0, 0, 0, 0, 84), (.iconst 1, 0, 0, 0, 0, 85), (.iload 7, 0, 0, 0, 0, 86), (.ishl, 0, 0, 0, 0, 88), (.ior, 0, 0, 0, 0, 89), (.istore 3, 0, 0, 0, 0, 90), (.iload 7, 0, 0, 0, 0, 91), (.istore 4, 0, 0, 0, 0, 93), (.iinc 5 1, 0, 0, 0, 0, 95), (.goto 0, 1, 1, 0, 0, 98), (.return_, 0, 0, 0, 0, 101)], [([true, true, true, true, true, true, true, true], 0), ([true, true, true, true, true, true, false, false], 9), ([true, true, true, true, false, true, true, true], 24)])
def T_X5_possibleAt : jT := ([(.iconst 0, 0, 0, 0, 0, 0), (.istore 3, 0, 0, 0, 0, 1), (.iconst 0, 0, 0, 0, 0, 2), (.istore 4, 0, 0, 0, 0, 3), (.nop, 1, 0, 0, 0, 5), (.iload 4, 0, 0, 0, 0, 5), (.aload 1, 0, 0, 0, 0, 7), (.invokevirtual 111, 1, 1, 8, 903, 8), (.if_icmp .ge 0, 0, 21, 0, 0, 11), (.iload 4, 0, 0, 0, 0, 14), (.iconst 1024, 0, 0, 0, 0, 16), (.if_icmp .ge 0, 0, 18, 0, 0, 19), (.iload 3, 0, 0, 0, 0, 22), (.aload 1, 0, 0, 0, 0, 23), (.iload 4, 0, 0, 0, 0, 24), (.invokevirtual 119, 2, 1, 8, 912, 26), (.iload 2, 0, 0, 0, 0, 29), (.iconst 1, 0, 0, 0, 0, 30), (.iadd, 0, 0, 0, 0, 31), (.if_icmp .ne 0, 0, 5, 0, 0, 32), (.aload 0, 0, 0, 0, 0, 35), (.getfield 0, 5, 1, 0, 333, 36), (.iload 4, 0, 0, 0, 0, 39), (.iaload, 0, 0, 0, 0, 41), (.goto 0, 0, 1, 0, 0, 42), (.iconst 0, 0, 0, 0, 0, 45), (.ior, 0, 0, 0, 0, 46), (.istore 3, 0, 0, 0, 0, 47), (.iinc 4 1, 0, 0, 0, 0, 48), (.goto 0, 1, 1, 0, 0, 51), (.iload 3, 0, 0, 0, 0, 54), (.ireturn, 0, 0, 0, 0, 55)], [([true, true, true, true, true], 0), ([true, true, true, true, true], 5)])
def T_X5_joiningStuffs : jT := ([(.aload 2, 0, 0, 0, 0, 0), (.invokevirtual 13, 1, 1, 1, 1266, 1), (.istore 4, 0, 0, 0, 0, 4), (.aload 1, 0, 0, 0, 0, 6), (.iload 4, 0, 0, 0, 0, 7), (.invokevirtual 118, 2, 1, 8, 908, 9), (.ifCond .eq 0, 0, 2, 0, 0, 12), (.iconst 0, 0, 0, 0, 0, 15), (.ireturn, 0, 0, 0, 0, 16), (.aload 1, 0, 0, 0, 0, 17), (.iload 4, 0, 0, 0, 0, 18), (.invokevirtual 117, 2, 1, 8, 1267, 20), (.ifCond .ne 0, 0, 2, 0, 0, 23), (.iconst (-1), 0, 0, 0, 0, 26), (.ireturn, 0, 0, 0, 0, 27), (.aload 0, 0, 0, 0, 0, 28), (.aload 1, 0, 0, 0, 0, 29), (.invokevirtual 92, 2, 0, 5, 1271, 30), (.aload 0, 0, 0, 0, 0, 33), (.aload 1, 0, 0, 0, 0, 34), (.iload 4, 0, 0, 0, 0, 35), (.invokevirtual 94, 3, 0, 5, 1286, 37), (.iconst 1, 0, 0, 0, 0, 40), (.istore 5, 0, 0, 0, 0, 41), (.nop, 1, 0, 0, 0, 43), (.iload 5, 0, 0, 0, 0, 43), (.iconst 8, 0, 0, 0, 0, 45), (.if_icmp .gt 0, 0, 22, 0, 0, 47), (.iconst 1, 0, 0, 0, 0, 50), (.istore 6, 0, 0, 0, 0, 51), (.nop, 2, 0, 0, 0, 53), (.iload 6, 0, 0, 0, 0, 53), (.iconst 255, 0, 0, 0, 0, 55), (.if_icmp .gt 0, 0, 14, 0, 0, 58), (.iload 6, 0, 0, 0, 0, 61), (.invokestatic 0, 1, 1, 0, 1290, 63), (.iload 5, 0, 0, 0, 0, 66), (.if_icmp .ne 0, 0, 8, 0, 0, 68), (.aload 0, 0, 0, 0, 0, 71), (.iload 6, 0, 0, 0, 0, 72), (.aload 2, 0, 0, 0, 0, 74), (.aload 3, 0, 0, 0, 0, 75), (.invokevirtual 95, 4, 1, 5, 1291, 76), (.ifCond .eq 0, 0, 2, 0, 0, 79), (.iload 6, 0, 0, 0, 0, 82), (.ireturn, 0, 0, 0, 0, 84), (.iinc 6 1, 0, 0, 0, 0, 85), (.goto 0, 1, 2, 0, 0, 88), (.iinc 5 1, 0, 0, 0, 0, 91), (.goto 0, 1, 1, 0, 0, 94), (.iconst (-1), 0, 0, 0, 0, 97), (.ireturn, 0, 0, 0, 0, 98)], [([true, true, true, true, true, true, true], 0), ([true, false, true, true, false, true, false], 25), ([true, false, true, true, false, true, true], 31)])
def T_X5_findBeginnings : jT := ([(.aload 0, 0, 0, 0, 0, 0), (.getfield 0, 5, 1, 0, 333, 1), (.iconst 0, 0, 0, 0, 0, 4), (.invokestatic 1, 2, 0, 0, 876, 5), (.aload 0, 0, 0, 0, 0, 8), (.getfield 0, 5, 1, 0, 333, 9), (.iconst 0, 0, 0, 0, 0, 12), (.iconst 1024, 0, 0, 0, 0, 13), (.iastore, 0, 0, 0, 0, 16), (.iconst 1, 0, 0, 0, 0, 17), (.istore 2, 0, 0, 0, 0, 18), (.nop, 1, 0, 0, 0, 19), (.iload 2, 0, 0, 0, 0, 19), (.aload 1, 0, 0, 0, 0, 20), (.invokevirtual 111, 1, 1, 8, 903, 21), (.if_icmp .ge 0, 0, 55, 0, 0, 24), (.iload 2, 0, 0, 0, 0, 27), (.iconst 1024, 0, 0, 0, 0, 28), (.if_icmp .ge 0, 0, 52, 0, 0, 31), (.iconst 0, 0, 0, 0, 0, 34), (.istore 3, 0, 0, 0, 0, 35), (.nop, 2, 0, 0, 0, 36), (.iload 3, 0, 0, 0, 0, 36), (.aload 1, 0, 0, 0, 0, 37), (.invokevirtual 110, 1, 1, 8, 928, 38), (.if_icmp .ge 0, 0, 43, 0, 0, 41), (.iload 2, 0, 0, 0, 0, 44), (.iconst 1, 0, 0, 0, 0, 45), (.iload 3, 0, 0, 0, 0, 46), (.ishl, 0, 0, 0, 0, 47), (.iconst (-1), 0, 0, 0, 0, 48), (.ixor, 0, 0, 0, 0, 49), (.iand, 0, 0, 0, 0, 50), (.istore 4, 0, 0, 0, 0, 51), (.iload 4, 0, 0, 0, 0, 53), (.iload 2, 0, 0, 0, 0, 55), (.if_icmp .eq 0, 0, 11, 0, 0, 56), (.aload 0, 0, 0, 0, 0, 59), (.getfield 0, 5, 1, 0, 333, 60), (.iload 4, 0, 0, 0, 0, 63), (.iaload, 0, 0, 0, 0, 65), (.aload 1, 0, 0, 0, 0, 66), (.iload 3, 0, 0, 0, 0, 67), (.invokevirtual 116, 2, 1, 8, 936, 68), (.iand, 0, 0, 0, 0, 71), (.ifCond .eq 0, 0, 2, 0, 0, 72), (.iconst 1, 0, 0, 0, 0, 75), (.goto 0, 0, 1, 0, 0, 76), (.iconst 0, 0, 0, 0, 0, 79), (.istore 5, 0, 0, 0, 0, 80), (.iload 5, 0, 0, 0, 0, 82), (.ifCond .eq 0, 0, 15, 0, 0, 84), (.aload 1, 0, 0, 0, 0, 87), (.iload 3, 0, 0, 0, 0, 88), (.iload 4, 0, 0, 0, 0, 89), (.invokestatic 93, 3, 1, 5, 1275, 91), (.ifCond .ne 0, 0, 10, 0, 0, 94), (.aload 0, 0, 0, 0, 0, 97), (.getfield 0, 5, 1, 0, 333, 98), (.iload 2, 0, 0, 0, 0, 101), (.dup2, 0, 0, 0, 0, 102), (.iaload, 0, 0, 0, 0, 103), (.iconst 1, 0, 0, 0, 0, 104), (.iload 3, 0, 0, 0, 0, 105), (.ishl, 0, 0, 0, 0, 106), (.ior, 0, 0, 0, 0, 107), (.iastore, 0, 0, 0, 0, 108), (.iinc 3 1, 0, 0, 0, 0, 109), (.goto 0, 1, 2, 0, 0, 112), (.iinc 2 1, 0, 0, 0, 0, 115), (.goto 0, 1, 1, 0, 0, 118), (.return_, 0, 0, 0, 0, 121)], [([true, true, true, true, true, true], 0), ([true, true, true, false, false, false], 12), ([true, true, true, true, false, false], 22)])
def T_X5_isHeatLost : jT := ([(.aload 0, 0, 0, 0, 0, 0), (.invokevirtual 115, 1, 1, 8, 1278, 1), (.ifCond .eq 0, 0, 17, 0, 0, 4), (.aload 0, 0, 0, 0, 0, 7), (.invokevirtual 114, 1, 1, 8, 1282, 8), (.iload 1, 0, 0, 0, 0, 11), (.ishr, 0, 0, 0, 0, 12), (.iconst 1, 0, 0, 0, 0, 13), (.iand, 0, 0, 0, 0, 14), (.iconst 1, 0, 0, 0, 0, 15), (.if_icmp .ne 0, 0, 9, 0, 0, 16), (.iload 2, 0, 0, 0, 0, 19), (.aload 0, 0, 0, 0, 0, 20), (.invokevirtual 114, 1, 1, 8, 1282, 21), (.iconst (-1), 0, 0, 0, 0, 24), (.ixor, 0, 0, 0, 0, 25), (.iand, 0, 0, 0, 0, 26), (.ifCond .eq 0, 0, 2, 0, 0, 27), (.iconst 1, 0, 0, 0, 0, 30), (.goto 0, 0, 1, 0, 0, 31), (.iconst 0, 0, 0, 0, 0, 34), (.ireturn, 1, 0, 0, 0, 35)], [([true, true, true], 0)])
def T_X5_findGaps : jT := ([(.aload 0, 0, 0, 0, 0, 0), (.getfield 0, 5, 3, 0, 335, 1), (.iconst 0, 0, 0, 0, 0, 4), (.invokestatic 1, 2, 0, 0, 876, 5), (.iconst 0, 0, 0, 0, 0, 8), (.istore 3, 0, 0, 0, 0, 9), (.nop, 1, 0, 0, 0, 10), (.iload 3, 0, 0, 0, 0, 10), (.iload 2, 0, 0, 0, 0, 11), (.if_icmp .gt 0, 0, 51, 0, 0, 12), (.iload 3, 0, 0, 0, 0, 15), (.iconst 1024, 0, 0, 0, 0, 16), (.if_icmp .ge 0, 0, 48, 0, 0, 19), (.aload 1, 0, 0, 0, 0, 22), (.invokevirtual 115, 1, 1, 8, 1278, 23), (.ifCond .eq 0, 0, 7, 0, 0, 26), (.iload 3, 0, 0, 0, 0, 29), (.aload 1, 0, 0, 0, 0, 30), (.invokevirtual 114, 1, 1, 8, 1282, 31), (.iand, 0, 0, 0, 0, 34), (.ifCond .eq 0, 0, 2, 0, 0, 35), (.iconst 1, 0, 0, 0, 0, 38), (.goto 0, 0, 1, 0, 0, 39), (.iconst 0, 0, 0, 0, 0, 42), (.istore 4, 0, 0, 0, 0, 43), (.iconst 0, 0, 0, 0, 0, 45), (.istore 5, 0, 0, 0, 0, 46), (.nop, 2, 0, 0, 0, 48), (.iload 5, 0, 0, 0, 0, 48), (.iconst 10, 0, 0, 0, 0, 50), (.if_icmp .ge 0, 0, 28, 0, 0, 52), (.iload 4, 0, 0, 0, 0, 55), (.ifCond .ne 0, 0, 26, 0, 0, 57), (.aload 1, 0, 0, 0, 0, 60), (.iload 3, 0, 0, 0, 0, 61), (.invokevirtual 118, 2, 1, 8, 908, 62), (.iload 5, 0, 0, 0, 0, 65), (.ishr, 0, 0, 0, 0, 67), (.iconst 1, 0, 0, 0, 0, 68), (.iand, 0, 0, 0, 0, 69), (.iconst 1, 0, 0, 0, 0, 70), (.if_icmp .ne 0, 0, 15, 0, 0, 71), (.aload 0, 0, 0, 0, 0, 74), (.getfield 0, 5, 3, 0, 335, 75), (.iload 5, 0, 0, 0, 0, 78), (.dup2, 0, 0, 0, 0, 80), (.iaload, 0, 0, 0, 0, 81), (.aload 0, 0, 0, 0, 0, 82), (.getfield 0, 5, 1, 0, 333, 83), (.iload 2, 0, 0, 0, 0, 86), (.iload 3, 0, 0, 0, 0, 87), (.iconst (-1), 0, 0, 0, 0, 88), (.ixor, 0, 0, 0, 0, 89), (.iand, 0, 0, 0, 0, 90), (.iaload, 0, 0, 0, 0, 91), (.ior, 0, 0, 0, 0, 92), (.iastore, 0, 0, 0, 0, 93), (.iinc 5 1, 0, 0, 0, 0, 94), (.goto 0, 1, 2, 0, 0, 97), (.iinc 3 1, 0, 0, 0, 0, 100), (.goto 0, 1, 1, 0, 0, 103), (.return_, 0, 0, 0, 0, 106)], [([true, true, true, true, true, true], 0), ([true, true, true, true, false, false], 7), ([true, true, true, true, true, true], 28)])
def T_X5_joins : jT := ([(.iconst 0, 0, 0, 0, 0, 0), (.istore 4, 0, 0, 0, 0, 1), (.nop, 1, 0, 0, 0, 3), (.iload 4, 0, 0, 0, 0, 3), (.iconst 8, 0, 0, 0, 0, 5), (.if_icmp .ge 0, 0, 20, 0, 0, 7), (.aload 2, 0, 0, 0, 0, 10), (.iload 4, 0, 0, 0, 0, 11), (.invokevirtual 20, 2, 1, 1, 1295, 13), (.invokestatic 0, 1, 1, 0, 1290, 16), (.iload 1, 0, 0, 0, 0, 19), (.iload 4, 0, 0, 0, 0, 20), (.ishr, 0, 0, 0, 0, 22), (.iconst 1, 0, 0, 0, 0, 23), (.iand, 0, 0, 0, 0, 24), (.iadd, 0, 0, 0, 0, 25), (.istore 5, 0, 0, 0, 0, 26), (.iload 5, 0, 0, 0, 0, 28), (.aload 3, 0, 0, 0, 0, 30), (.iload 4, 0, 0, 0, 0, 31), (.invokevirtual 37, 2, 1, 2, 1296, 33), (.if_icmp .le 0, 0, 2, 0, 0, 36), (.iconst 0, 0, 0, 0, 0, 39), (.ireturn, 1, 0, 0, 0, 40), (.iinc 4 1, 0, 0, 0, 0, 41), (.goto 0, 1, 1, 0, 0, 44), (.aload 2, 0, 0, 0, 0, 47), (.iload 1, 0, 0, 0, 0, 48), (.aload 3, 0, 0, 0, 0, 49), (.invokevirtual 35, 1, 1, 2, 1297, 50), (.invokevirtual 31, 3, 1, 1, 1298, 53), (.istore 4, 0, 0, 0, 0, 56), (.iload 4, 0, 0, 0, 0, 58), (.aload 3, 0, 0, 0, 0, 60), (.invokevirtual 36, 1, 1, 2, 1299, 61), (.iconst 2, 0, 0, 0, 0, 64), (.if_icmp .ne 0, 0, 3, 0, 0, 65), (.aload 2, 0, 0, 0, 0, 68), (.invokevirtual 30, 1, 1, 1, 1300, 69), (.goto 0, 0, 1, 0, 0, 72), (.iconst 1023, 0, 0, 0, 0, 75), (.iand, 0, 0, 0, 0, 78), (.istore 4, 0, 0, 0, 0, 79), (.iconst 0, 0, 0, 0, 0, 81), (.istore 5, 0, 0, 0, 0, 82), (.nop, 2, 0, 0, 0, 84), (.iload 5, 0, 0, 0, 0, 84), (.iconst 10, 0, 0, 0, 0, 86), (.if_icmp .ge 0, 0, 18, 0, 0, 88), (.iload 4, 0, 0, 0, 0, 91), (.iload 5, 0, 0, 0, 0, 93), (.ishr, 0, 0, 0, 0, 95), (.iconst 1, 0, 0, 0, 0, 96), (.iand, 0, 0, 0, 0, 97), (.iconst 1, 0, 0, 0, 0, 98), (.if_icmp .ne 0, 0, 9, 0, 0, 99), (.aload 0, 0, 0, 0, 0, 102), (.getfield 0, 5, 3, 0, 335, 103), (.iload 5, 0, 0, 0, 0, 106), (.iaload, 0, 0, 0, 0, 108), (.iload 4, 0, 0, 0, 0, 109), (.iand, 0, 0, 0, 0, 111), (.ifCond .eq 0, 0, 2, 0, 0, 112), (.iconst 1, 0, 0, 0, 0, 115), (.ireturn, 1, 0, 0, 0, 116), (.iinc 5 1, 0, 0, 0, 0, 117), (.goto 0, 1, 2, 0, 0, 120), (.iconst 0, 0, 0, 0, 0, 123), (.ireturn, 1, 0, 0, 0, 124)], [([true, true, true, true, true, true], 0), ([true, true, true, true, true, false], 3), ([true, false, false, false, true, true], 46)])
def T_X6_read : jT := ([(.aload 0, 0, 0, 0, 0, 0), (.iconst 0, 0, 0, 0, 0, 1), (.putfield 0, 6, 0, 0, 188, 2), (.aload 0, 0, 0, 0, 0, 5), (.aload 2, 0, 0, 0, 0, 6), (.invokevirtual 9, 1, 1, 1, 460, 7), (.putfield 0, 6, 1, 0, 189, 10), (.aload 0, 0, 0, 0, 0, 13), (.aload 2, 0, 0, 0, 0, 14), (.invokevirtual 10, 1, 1, 1, 464, 15), (.putfield 0, 6, 2, 0, 190, 18), (.aload 1, 0, 0, 0, 0, 21), (.invokevirtual 139, 1, 1, 10, 468, 22), (.ifCond .ne 0, 0, 2, 0, 0, 25), (.iconst 0, 0, 0, 0, 0, 28), (.ireturn, 0, 0, 0, 0, 29), (.iconst 0, 0, 0, 0, 0, 30), (.istore 3, 0, 0, 0, 0, 31), (.iconst 1, 0, 0, 0, 0, 32), (.istore 4, 0, 0, 0, 0, 33), (.nop, 1, 0, 0, 0, 35), (.iload 4, 0, 0, 0, 0, 35), (.ifCond .eq 0, 0, 36, 0, 0, 37), (.iload 3, 0, 0, 0, 0, 40), (.iconst 76, 0, 0, 0, 0, 41), (.if_icmp .ge 0, 0, 33, 0, 0, 43), (.aload 0, 0, 0, 0, 0, 46), (.aload 1, 0, 0, 0, 0, 47), (.aload 2, 0, 0, 0, 0, 48), (.invokevirtual 97, 3, 1, 6, 469, 49), (.ifCond .ne 0, 0, 5, 0, 0, 52), (.iconst (-1), 0, 0, 0, 0, 55), (.aload 0, 0, 0, 0, 0, 56), (.getfield 0, 6, 0, 0, 188, 57), (.isub, 0, 0, 0, 0, 60), (.ireturn, 0, 0, 0, 0, 61), (.iinc 3 1, 0, 0, 0, 0, 62), (.aload 1, 0, 0, 0, 0, 65), (.aload 0, 0, 0, 0, 0, 66), (.getfield 0, 6, 0, 0, 188, 67), (.iconst 76, 0, 0, 0, 0, 70), (.invokevirtual 143, 3, 1, 10, 473, 72), (.iconst 59, 0, 0, 0, 0, 75), (.if_icmp .ne 0, 0, 2, 0, 0, 77), (.iconst 1, 0, 0, 0, 0, 80), (.goto 0, 0, 1, 0, 0, 81), (.iconst 0, 0, 0, 0, 0, 84), (.istore 4, 0, 0, 0, 0, 85), (.aload 0, 0, 0, 0, 0, 87), (.dup, 0, 0, 0, 0, 88), (.getfield 0, 6, 0, 0, 188, 89), (.iload 4, 0, 0, 0, 0, 92), (.ifCond .eq 0, 0, 2, 0, 0, 94), (.iconst 1, 0, 0, 0, 0, 97), (.goto 0, 0, 1, 0, 0, 98), (.iconst 0, 0, 0, 0, 0, 101), (.iadd, 0, 0, 0, 0, 102), (.putfield 0, 6, 0, 0, 188, 103), (.goto 0, 1, 1, 0, 0, 106), (.aload 0, 0, 0, 0, 0, 109), (.getfield 0, 6, 0, 0, 188, 110), (.aload 1, 0, 0, 0, 0, 113), (.invokevirtual 139, 1, 1, 10, 468, 114), (.if_icmp .ge 0, 0, 5, 0, 0, 117), (.iconst (-1), 0, 0, 0, 0, 120), (.aload 0, 0, 0, 0, 0, 121), (.getfield 0, 6, 0, 0, 188, 122), (.isub, 0, 0, 0, 0, 125), (.ireturn, 0, 0, 0, 0, 126), (.aload 2, 0, 0, 0, 0, 127), (.aload 0, 0, 0, 0, 0, 128), (.getfield 0, 6, 1, 0, 189, 129), (.aload 0, 0, 0, 0, 0, 132), (.getfield 0, 6, 2, 0, 190, 133), (.invokevirtual 23, 3, 0, 1, 506, 136), (.iload 3, 0, 0, 0, 0, 139), (.ireturn, 0, 0, 0, 0, 140)], [([true, true, true, true, true], 0), ([true, true, true, true, true], 21)])
def T_X6_readLine : jT := ([(.aload 1, 0, 0, 0, 0, 0), (.aload 0, 0, 0, 0, 0, 1), (.getfield 0, 6, 0, 0, 188, 2), (.iconst 76, 0, 0, 0, 0, 5), (.invokevirtual 143, 3, 1, 10, 473, 7), (.istore 3, 0, 0, 0, 0, 10), (.iload 3, 0, 0, 0, 0, 11), (.iconst 71, 0, 0, 0, 0, 12), (.if_icmp .ne 0, 0, 13, 0, 0, 14), (.aload 0, 0, 0, 0, 0, 17), (.getfield 0, 6, 2, 0, 190, 18), (.iconst 6, 0, 0, 0, 0, 21), (.if_icmp .ge 0, 0, 7, 0, 0, 23), (.aload 0, 0, 0, 0, 0, 26), (.aload 1, 0, 0, 0, 0, 27), (.aload 2, 0, 0, 0, 0, 28), (.invokevirtual 98, 3, 1, 6, 477, 29), (.ifCond .eq 0, 0, 2, 0, 0, 32), (.iconst 1, 0, 0, 0, 0, 35), (.goto 0, 0, 1, 0, 0, 36), (.iconst 0, 0, 0, 0, 0, 39), (.ireturn, 1, 0, 0, 0, 40), (.iload 3, 0, 0, 0, 0, 41), (.iconst 97, 0, 0, 0, 0, 42), (.if_icmp .lt 0, 0, 14, 0, 0, 44), (.iload 3, 0, 0, 0, 0, 47), (.iconst 105, 0, 0, 0, 0, 48), (.if_icmp .ge 0, 0, 11, 0, 0, 50), (.aload 0, 0, 0, 0, 0, 53), (.getfield 0, 6, 1, 0, 189, 54), (.iconst 10, 0, 0, 0, 0, 57), (.if_icmp .ge 0, 0, 7, 0, 0, 59), (.aload 0, 0, 0, 0, 0, 62), (.aload 1, 0, 0, 0, 0, 63), (.aload 2, 0, 0, 0, 0, 64), (.invokevirtual 99, 3, 1, 6, 489, 65), (.ifCond .eq 0, 0, 2, 0, 0, 68), (.iconst 1, 0, 0, 0, 0, 71), (.goto 0, 0, 1, 0, 0, 72), (.iconst 0, 0, 0, 0, 0, 75), (.ireturn, 1, 0, 0, 0, 76)], [([true, true, true, true], 0)])
def T_X6_readGuest : jT := ([(.aload 0, 0, 0, 0, 0, 0), (.dup, 0, 0, 0, 0, 1), (.getfield 0, 6, 0, 0, 188, 2), (.iconst 1, 0, 0, 0, 0, 5), (.iadd, 0, 0, 0, 0, 6), (.putfield 0, 6, 0, 0, 188, 7), (.aload 0, 0, 0, 0, 0, 10), (.aload 1, 0, 0, 0, 0, 11), (.invokevirtual 101, 2, 1, 6, 481, 12), (.istore 3, 0, 0, 0, 0, 15), (.aload 1, 0, 0, 0, 0, 16), (.aload 0, 0, 0, 0, 0, 17), (.getfield 0, 6, 0, 0, 188, 18), (.iconst 76, 0, 0, 0, 0, 21), (.invokevirtual 143, 3, 1, 10, 473, 23), (.iconst 45, 0, 0, 0, 0, 26), (.if_icmp .eq 0, 0, 2, 0, 0, 28), (.iconst 0, 0, 0, 0, 0, 31), (.ireturn, 1, 0, 0, 0, 32), (.aload 0, 0, 0, 0, 0, 33), (.dup, 0, 0, 0, 0, 34), (.getfield 0, 6, 0, 0, 188, 35), (.iconst 1, 0, 0, 0, 0, 38), (.iadd, 0, 0, 0, 0, 39), (.putfield 0, 6, 0, 0, 188, 40), (.aload 2, 0, 0, 0, 0, 43), (.aload 0, 0, 0, 0, 0, 44), (.getfield 0, 6, 2, 0, 190, 45), (.iload 3, 0, 0, 0, 0, 48), (.aload 0, 0, 0, 0, 0, 49), (.aload 1, 0, 0, 0, 0, 50), (.invokevirtual 101, 2, 1, 6, 481, 51), (.invokevirtual 22, 4, 0, 1, 485, 54), (.aload 0, 0, 0, 0, 0, 57), (.dup, 0, 0, 0, 0, 58), (.getfield 0, 6, 2, 0, 190, 59), (.iconst 1, 0, 0, 0, 0, 62), (.iadd, 0, 0, 0, 0, 63), (.putfield 0, 6, 2, 0, 190, 64), (.iconst 1, 0, 0, 0, 0, 67), (.ireturn, 1, 0, 0, 0, 68)], [([true, true, true, true], 0)])
def T_X6_readDish : jT := ([(.aload 0, 0, 0, 0, 0, 0), (.aload 1, 0, 0, 0, 0, 1), (.invokevirtual 101, 2, 1, 6, 481, 2), (.istore 3, 0, 0, 0, 0, 5), (.aload 1, 0, 0, 0, 0, 6), (.aload 0, 0, 0, 0, 0, 7), (.getfield 0, 6, 0, 0, 188, 8), (.iconst 76, 0, 0, 0, 0, 11), (.invokevirtual 144, 3, 1, 10, 493, 13), (.ifCond .ne 0, 0, 2, 0, 0, 16), (.iconst 0, 0, 0, 0, 0, 19), (.ireturn, 1, 0, 0, 0, 20), (.aload 0, 0, 0, 0, 0, 21), (.aload 1, 0, 0, 0, 0, 22), (.invokevirtual 100, 2, 1, 6, 498, 23), (.istore 4, 0, 0, 0, 0, 26), (.aload 1, 0, 0, 0, 0, 28), (.aload 0, 0, 0, 0, 0, 29), (.getfield 0, 6, 0, 0, 188, 30), (.iconst 76, 0, 0, 0, 0, 33), (.invokevirtual 144, 3, 1, 10, 493, 35), (.ifCond .eq 0, 1, 1, 0, 0, 38), (.iconst 10, 0, 0, 0, 0, 41), (.iload 4, 0, 0, 0, 0, 43), (.imul, 0, 0, 0, 0, 45), (.aload 0, 0, 0, 0, 0, 46), (.aload 1, 0, 0, 0, 0, 47), (.invokevirtual 100, 2, 1, 6, 498, 48), (.iadd, 0, 0, 0, 0, 51), (.istore 4, 0, 0, 0, 0, 52), (.nop, 1, 0, 0, 0, 54), (.aload 1, 0, 0, 0, 0, 54), (.aload 0, 0, 0, 0, 0, 55), (.getfield 0, 6, 0, 0, 188, 56), (.iconst 76, 0, 0, 0, 0, 59), (.invokevirtual 143, 3, 1, 10, 473, 61), (.iconst 72, 0, 0, 0, 0, 64), (.if_icmp .ne 0, 0, 2, 0, 0, 66), (.iconst 1, 0, 0, 0, 0, 69), (.goto 0, 0, 1, 0, 0, 70), (.iconst 0, 0, 0, 0, 0, 73), (.istore 5, 0, 0, 0, 0, 74), (.aload 0, 0, 0, 0, 0, 76), (.dup, 0, 0, 0, 0, 77), (.getfield 0, 6, 0, 0, 188, 78), (.iload 5, 0, 0, 0, 0, 81), (.iadd, 0, 0, 0, 0, 83), (.putfield 0, 6, 0, 0, 188, 84), (.iconst 0, 0, 0, 0, 0, 87), (.istore 6, 0, 0, 0, 0, 88), (.aload 1, 0, 0, 0, 0, 90), (.aload 0, 0, 0, 0, 0, 91), (.getfield 0, 6, 0, 0, 188, 92), (.iconst 76, 0, 0, 0, 0, 95), (.invokevirtual 143, 3, 1, 10, 473, 97), (.iconst 43, 0, 0, 0, 0, 100), (.if_icmp .ne 0, 1, 2, 0, 0, 102), (.aload 0, 0, 0, 0, 0, 105), (.dup, 0, 0, 0, 0, 106), (.getfield 0, 6, 0, 0, 188, 107), (.iconst 1, 0, 0, 0, 0, 110), (.iadd, 0, 0, 0, 0, 111), (.putfield 0, 6, 0, 0, 188, 112), (.aload 1, 0, 0, 0, 0, 115), (.aload 0, 0, 0, 0, 0, 116), (.getfield 0, 6, 0, 0, 188, 117), (.iconst 76, 0, 0, 0, 0, 120), (.invokevirtual 144, 3, 1, 10, 493, 122), (.ifCond .ne 0, 0, 2, 0, 0, 125), (.iconst 0, 0, 0, 0, 0, 128), (.ireturn, 1, 0, 0, 0, 129), (.aload 0, 0, 0, 0, 0, 130), (.aload 1, 0, 0, 0, 0, 131), (.invokevirtual 100, 2, 1, 6, 498, 132), (.istore 6, 0, 0, 0, 0, 135), (.nop, 2, 0, 0, 0, 137), (.aload 2, 0, 0, 0, 0, 137), (.aload 0, 0, 0, 0, 0, 138), (.getfield 0, 6, 1, 0, 189, 139), (.iload 3, 0, 0, 0, 0, 142), (.iload 4, 0, 0, 0, 0, 143), (.iload 5, 0, 0, 0, 0, 145), (.iload 6, 0, 0, 0, 0, 147), (.invokevirtual 21, 6, 0, 1, 502, 149), (.aload 0, 0, 0, 0, 0, 152), (.dup, 0, 0, 0, 0, 153), (.getfield 0, 6, 1, 0, 189, 154), (.iconst 1, 0, 0, 0, 0, 157), (.iadd, 0, 0, 0, 0, 158), (.putfield 0, 6, 1, 0, 189, 159), (.iconst 1, 0, 0, 0, 0, 162), (.ireturn, 1, 0, 0, 0, 163)], [([true, true, true, true, true, true, true], 0), ([true, true, true, true, true, false, false], 31), ([true, false, true, true, true, true, true], 76)])
def T_X6_readDigit : jT := ([(.aload 1, 0, 0, 0, 0, 0), (.aload 0, 0, 0, 0, 0, 1), (.getfield 0, 6, 0, 0, 188, 2), (.iconst 76, 0, 0, 0, 0, 5), (.invokevirtual 143, 3, 1, 10, 473, 7), (.iconst 48, 0, 0, 0, 0, 10), (.isub, 0, 0, 0, 0, 12), (.istore 2, 0, 0, 0, 0, 13), (.aload 0, 0, 0, 0, 0, 14), (.dup, 0, 0, 0, 0, 15), (.getfield 0, 6, 0, 0, 188, 16), (.iconst 1, 0, 0, 0, 0, 19), (.iadd, 0, 0, 0, 0, 20), (.putfield 0, 6, 0, 0, 188, 21), (.iload 2, 0, 0, 0, 0, 24), (.ireturn, 0, 0, 0, 0, 25)], [([true, true, true], 0)])
def T_X6_readStuffs : jT := ([(.iconst 0, 0, 0, 0, 0, 0), (.istore 2, 0, 0, 0, 0, 1), (.iconst 0, 0, 0, 0, 0, 2), (.istore 3, 0, 0, 0, 0, 3), (.nop, 1, 0, 0, 0, 4), (.iload 3, 0, 0, 0, 0, 4), (.iconst 8, 0, 0, 0, 0, 5), (.if_icmp .ge 0, 0, 33, 0, 0, 7), (.aload 1, 0, 0, 0, 0, 10), (.aload 0, 0, 0, 0, 0, 11), (.getfield 0, 6, 0, 0, 188, 12), (.iconst 76, 0, 0, 0, 0, 15), (.invokevirtual 143, 3, 1, 10, 473, 17), (.iconst 97, 0, 0, 0, 0, 20), (.isub, 0, 0, 0, 0, 22), (.istore 4, 0, 0, 0, 0, 23), (.iload 4, 0, 0, 0, 0, 25), (.ifCond .lt 0, 0, 7, 0, 0, 27), (.iload 4, 0, 0, 0, 0, 30), (.iconst 8, 0, 0, 0, 0, 32), (.if_icmp .ge 0, 0, 4, 0, 0, 34), (.iload 2, 0, 0, 0, 0, 37), (.iload 4, 0, 0, 0, 0, 38), (.ishr, 0, 0, 0, 0, 40), (.ifCond .eq 0, 0, 2, 0, 0, 41), (.iload 2, 0, 0, 0, 0, 44), (.ireturn, 0, 0, 0, 0, 45), (.iload 2, 0, 0, 0, 0, 46), (.iconst 1, 0, 0, 0, 0, 47), (.iload 4, 0, 0, 0, 0, 48), (.ishl, 0, 0, 0, 0, 50), (.ior, 0, 0, 0, 0, 51), (.istore 2, 0, 0, 0, 0, 52), (.aload 0, 0, 0, 0, 0, 53), (.dup, 0, 0, 0, 0, 54), (.getfield 0, 6, 0, 0, 188, 55), (.iconst 1, 0, 0, 0, 0, 58), (.iadd, 0, 0, 0, 0, 59), (.putfield 0, 6, 0, 0, 188, 60), (.iinc 3 1, 0, 0, 0, 0, 63), (.goto 0, 1, 1, 0, 0, 66), (.iload 2, 0, 0, 0, 0, 69), (.ireturn, 0, 0, 0, 0, 70)], [([true, true, true, true, true], 0), ([true, true, true, true, false], 5)])
def T_X7_size : jT := ([(.aload 0, 0, 0, 0, 0, 0), (.getfield 0, 7, 1, 0, 377, 1), (.ireturn, 0, 0, 0, 0, 4)], [([true], 0)])
def T_X7_at : jT := ([(.iload 1, 0, 0, 0, 0, 0), (.ifCond .lt 0, 0, 9, 0, 0, 1), (.iload 1, 0, 0, 0, 0, 4), (.aload 0, 0, 0, 0, 0, 5), (.getfield 0, 7, 1, 0, 377, 6), (.if_icmp .ge 0, 0, 5, 0, 0, 9), (.aload 0, 0, 0, 0, 0, 12), (.getfield 0, 7, 0, 0, 376, 13), (.iload 1, 0, 0, 0, 0, 16), (.iaload, 0, 0, 0, 0, 17), (.goto 0, 0, 1, 0, 0, 18), (.iconst (-1), 0, 0, 0, 0, 21), (.ireturn, 0, 0, 0, 0, 22)], [([true, true], 0)])
def T_X7_clear : jT := ([(.aload 0, 0, 0, 0, 0, 0), (.iconst 0, 0, 0, 0, 0, 1), (.putfield 0, 7, 1, 0, 377, 2), (.return_, 0, 0, 0, 0, 5)], [([true], 0)])
def T_X7_add : jT := ([(.aload 0, 0, 0, 0, 0, 0), (.getfield 0, 7, 1, 0, 377, 1), (.aload 0, 0, 0, 0, 0, 4), (.getfield 0, 7, 0, 0, 376, 5), (.arraylength, 0, 0, 0, 0, 8), (.if_icmp .ge 0, 0, 12, 0, 0, 9), (.aload 0, 0, 0, 0, 0, 12), (.getfield 0, 7, 0, 0, 376, 13), (.aload 0, 0, 0, 0, 0, 16), (.getfield 0, 7, 1, 0, 377, 17), (.iload 1, 0, 0, 0, 0, 20), (.iastore, 0, 0, 0, 0, 21), (.aload 0, 0, 0, 0, 0, 22), (.dup, 0, 0, 0, 0, 23), (.getfield 0, 7, 1, 0, 377, 24), (.iconst 1, 0, 0, 0, 0, 27), (.iadd, 0, 0, 0, 0, 28), (.putfield 0, 7, 1, 0, 377, 29), (.return_, 0, 0, 0, 0, 32)], [([true, true], 0)])
def T_X8_learn : jT := ([(.aload 0, 0, 0, 0, 0, 0), (.aload 1, 0, 0, 0, 0, 1), (.invokevirtual 9, 1, 1, 1, 825, 2), (.putfield 0, 8, 6, 0, 295, 5), (.aload 0, 0, 0, 0, 0, 8), (.aload 1, 0, 0, 0, 0, 9), (.invokevirtual 30, 1, 1, 1, 826, 10), (.putfield 0, 8, 7, 0, 296, 13), (.aload 0, 0, 0, 0, 0, 16), (.aload 2, 0, 0, 0, 0, 17), (.invokevirtual 36, 1, 1, 2, 827, 18), (.iconst 1, 0, 0, 0, 0, 21), (.if_icmp .ne 0, 0, 2, 0, 0, 22), (.iconst 1, 0, 0, 0, 0, 25), (.goto 0, 0, 1, 0, 0, 26), (.iconst 0, 0, 0, 0, 0, 29), (.putfield 0, 8, 8, 0, 297, 30), (.iconst 0, 0, 0, 0, 0, 33), (.istore 3, 0, 0, 0, 0, 34), (.nop, 1, 0, 0, 0, 35), (.iload 3, 0, 0, 0, 0, 35), (.aload 0, 0, 0, 0, 0, 36), (.getfield 0, 8, 6, 0, 295, 37), (.if_icmp .ge 0, 0, 41, 0, 0, 40), (.aload 0, 0, 0, 0, 0, 43), (.getfield 0, 8, 2, 0, 291, 44), (.iload 3, 0, 0, 0, 0, 47), (.aload 1, 0, 0, 0, 0, 48), (.iload 3, 0, 0, 0, 0, 49), (.aload 2, 0, 0, 0, 0, 50), (.invokevirtual 35, 1, 1, 2, 831, 51), (.invokevirtual 32, 3, 1, 1, 835, 54), (.iconst 1024, 0, 0, 0, 0, 57), (.ior, 0, 0, 0, 0, 60), (.iastore, 0, 0, 0, 0, 61), (.aload 2, 0, 0, 0, 0, 62), (.invokevirtual 36, 1, 1, 2, 827, 63), (.iconst 2, 0, 0, 0, 0, 66), (.if_icmp .ne 0, 0, 24, 0, 0, 67), (.aload 0, 0, 0, 0, 0, 70), (.getfield 0, 8, 2, 0, 291, 71), (.iload 3, 0, 0, 0, 0, 74), (.dup2, 0, 0, 0, 0, 75), (.iaload, 0, 0, 0, 0, 76), (.aload 0, 0, 0, 0, 0, 77), (.getfield 0, 8, 7, 0, 296, 78), (.iload 3, 0, 0, 0, 0, 81), (.ishr, 0, 0, 0, 0, 82), (.iconst 1, 0, 0, 0, 0, 83), (.iand, 0, 0, 0, 0, 84), (.iconst 1, 0, 0, 0, 0, 85), (.if_icmp .ne 0, 0, 5, 0, 0, 86), (.aload 0, 0, 0, 0, 0, 89), (.getfield 0, 8, 7, 0, 296, 90), (.iconst (-1), 0, 0, 0, 0, 93), (.ixor, 0, 0, 0, 0, 94), (.goto 0, 0, 4, 0, 0, 95), (.aload 0, 0, 0, 0, 0, 98), (.getfield 0, 8, 7, 0, 296, 99), (.iconst 1024, 0, 0, 0, 0, 102), (.ior, 0, 0, 0, 0, 105), (.iand, 0, 0, 0, 0, 106), (.iastore, 0, 0, 0, 0, 107), (.iinc 3 1, 0, 0, 0, 0, 108), (.goto 0, 1, 1, 0, 0, 111), (.aload 0, 0, 0, 0, 0, 114), (.getfield 0, 8, 2, 0, 291, 115), (.iconst 10, 0, 0, 0, 0, 118), (.iconst 2047, 0, 0, 0, 0, 120), (.iastore, 0, 0, 0, 0, 123), (.iconst 0, 0, 0, 0, 0, 124), (.istore 3, 0, 0, 0, 0, 125), (.nop, 2, 0, 0, 0, 126), (.iload 3, 0, 0, 0, 0, 126), (.iconst 8, 0, 0, 0, 0, 127), (.if_icmp .ge 0, 0, 16, 0, 0, 129), (.aload 0, 0, 0, 0, 0, 132), (.getfield 0, 8, 4, 0, 293, 133), (.iload 3, 0, 0, 0, 0, 136), (.aload 1, 0, 0, 0, 0, 137), (.iload 3, 0, 0, 0, 0, 138), (.invokevirtual 20, 2, 1, 1, 836, 139), (.iastore, 0, 0, 0, 0, 142), (.aload 0, 0, 0, 0, 0, 143), (.getfield 0, 8, 5, 0, 294, 144), (.iload 3, 0, 0, 0, 0, 147), (.aload 2, 0, 0, 0, 0, 148), (.iload 3, 0, 0, 0, 0, 149), (.invokevirtual 37, 2, 1, 2, 837, 150), (.iastore, 0, 0, 0, 0, 153), (.iinc 3 1, 0, 0, 0, 0, 154), (.goto 0, 1, 2, 0, 0, 157), (.aload 0, 0, 0, 0, 0, 160), (.getfield 0, 8, 0, 0, 289, 161), (.iconst 0, 0, 0, 0, 0, 164), (.iconst 1, 0, 0, 0, 0, 165), (.bastore, 22, 0, 0, 0, 166), (.iconst 1, 0, 0, 0, 0, 167), (.istore 3, 0, 0, 0, 0, 168), (.nop, 3, 0, 0, 0, 169), (.iload 3, 0, 0, 0, 0, 169), (.aload 0, 0, 0, 0, 0, 170), (.invokevirtual 111, 1, 1, 8, 842, 171), (.if_icmp .ge 0, 0, 22, 0, 0, 174), (.aload 0, 0, 0, 0, 0, 177), (.getfield 0, 8, 0, 0, 289, 178), (.iload 3, 0, 0, 0, 0, 181), (.aload 0, 0, 0, 0, 0, 182), (.getfield 0, 8, 0, 0, 289, 183), (.iload 3, 0, 0, 0, 0, 186), (.iload 3, 0, 0, 0, 0, 187), (.iconst 1, 0, 0, 0, 0, 188), (.isub, 0, 0, 0, 0, 189), (.iand, 0, 0, 0, 0, 190), (.baload, 22, 0, 0, 0, 191), (.ifCond .eq 0, 0, 6, 0, 0, 192), (.aload 0, 0, 0, 0, 0, 195), (.iload 3, 0, 0, 0, 0, 196), (.invokevirtual 107, 2, 1, 8, 846, 197), (.ifCond .eq 0, 0, 2, 0, 0, 200), (.iconst 1, 0, 0, 0, 0, 203), (.goto 0, 0, 1, 0, 0, 204), (.iconst 0, 0, 0, 0, 0, 207), (.bastore, 22, 0, 0, 0, 208), (.iinc 3 1, 0, 0, 0, 0, 209), (.goto 0, 1, 3, 0, 0, 212), (.return_, 0, 0, 0, 0, 215)], [([true, true, true, true], 0), ([true, true, true, true], 20), ([true, true, true, true], 73), ([true, false, false, true], 100)])
def T_X8_isStocked : jT := ([(.iconst 0, 0, 0, 0, 0, 0), (.istore 2, 0, 0, 0, 0, 1), (.nop, 1, 0, 0, 0, 2), (.iload 2, 0, 0, 0, 0, 2), (.iconst 8, 0, 0, 0, 0, 3), (.if_icmp .ge 0, 0, 16, 0, 0, 5), (.aload 0, 0, 0, 0, 0, 8), (.getfield 0, 8, 4, 0, 293, 9), (.iload 2, 0, 0, 0, 0, 12), (.iaload, 0, 0, 0, 0, 13), (.iload 1, 0, 0, 0, 0, 14), (.iand, 0, 0, 0, 0, 15), (.invokestatic 0, 1, 1, 0, 850, 16), (.aload 0, 0, 0, 0, 0, 19), (.getfield 0, 8, 5, 0, 294, 20), (.iload 2, 0, 0, 0, 0, 23), (.iaload, 0, 0, 0, 0, 24), (.if_icmp .le 0, 0, 2, 0, 0, 25), (.iconst 0, 0, 0, 0, 0, 28), (.ireturn, 1, 0, 0, 0, 29), (.iinc 2 1, 0, 0, 0, 0, 30), (.goto 0, 1, 1, 0, 0, 33), (.iconst 1, 0, 0, 0, 0, 36), (.ireturn, 1, 0, 0, 0, 37)], [([true, true, true], 0), ([true, true, true], 3)])
def T_X8_begin : jT := ([(.aload 0, 0, 0, 0, 0, 0), (.iload 1, 0, 0, 0, 0, 1), (.putfield 0, 8, 9, 0, 298, 2), (.aload 0, 0, 0, 0, 0, 5), (.iload 2, 0, 0, 0, 0, 6), (.iconst (-1), 0, 0, 0, 0, 7), (.if_icmp .ne 0, 0, 2, 0, 0, 8), (.iconst 10, 0, 0, 0, 0, 11), (.goto 0, 0, 1, 0, 0, 13), (.iload 2, 0, 0, 0, 0, 16), (.putfield 0, 8, 10, 0, 299, 17), (.aload 0, 0, 0, 0, 0, 20), (.getfield 0, 8, 3, 0, 292, 21), (.iload 3, 0, 0, 0, 0, 24), (.invokestatic 1, 2, 0, 0, 855, 25), (.return_, 0, 0, 0, 0, 28)], [([true, true, true, true], 0)])
def T_X8_allow : jT := ([(.iload 1, 0, 0, 0, 0, 0), (.ifCond .lt 0, 0, 10, 0, 0, 1), (.iload 1, 0, 0, 0, 0, 4), (.aload 0, 0, 0, 0, 0, 5), (.getfield 0, 8, 3, 0, 292, 6), (.arraylength, 0, 0, 0, 0, 9), (.if_icmp .ge 0, 0, 5, 0, 0, 10), (.aload 0, 0, 0, 0, 0, 13), (.getfield 0, 8, 3, 0, 292, 14), (.iload 1, 0, 0, 0, 0, 17), (.iload 2, 0, 0, 0, 0, 18), (.iastore, 0, 0, 0, 0, 19), (.return_, 0, 0, 0, 0, 20)], [([true, true, true], 0)])
def T_X8_dishes : jT := ([(.aload 0, 0, 0, 0, 0, 0), (.getfield 0, 8, 6, 0, 295, 1), (.ireturn, 0, 0, 0, 0, 4)], [([true], 0)])
def T_X8_sets : jT := ([(.iconst 1, 0, 0, 0, 0, 0), (.aload 0, 0, 0, 0, 0, 1), (.getfield 0, 8, 6, 0, 295, 2), (.ishl, 0, 0, 0, 0, 5), (.ireturn, 0, 0, 0, 0, 6)], [([true], 0)])
def T_X8_from : jT := ([(.aload 0, 0, 0, 0, 0, 0), (.getfield 0, 8, 9, 0, 298, 1), (.ireturn, 0, 0, 0, 0, 4)], [([true], 0)])
def T_X8_start : jT := ([(.aload 0, 0, 0, 0, 0, 0), (.getfield 0, 8, 10, 0, 299, 1), (.ireturn, 0, 0, 0, 0, 4)], [([true], 0)])
def T_X8_hot : jT := ([(.aload 0, 0, 0, 0, 0, 0), (.getfield 0, 8, 7, 0, 296, 1), (.ireturn, 0, 0, 0, 0, 4)], [([true], 0)])
def T_X8_isHotToStay : jT := ([(.aload 0, 0, 0, 0, 0, 0), (.getfield 0, 8, 8, 0, 297, 1), (.ireturn, 1, 0, 0, 0, 4)], [([true], 0)])
def T_X8_near : jT := ([(.iload 1, 0, 0, 0, 0, 0), (.ifCond .lt 0, 0, 10, 0, 0, 1), (.iload 1, 0, 0, 0, 0, 4), (.aload 0, 0, 0, 0, 0, 5), (.getfield 0, 8, 2, 0, 291, 6), (.arraylength, 0, 0, 0, 0, 9), (.if_icmp .ge 0, 0, 5, 0, 0, 10), (.aload 0, 0, 0, 0, 0, 13), (.getfield 0, 8, 2, 0, 291, 14), (.iload 1, 0, 0, 0, 0, 17), (.iaload, 0, 0, 0, 0, 18), (.goto 0, 0, 1, 0, 0, 19), (.iconst 0, 0, 0, 0, 0, 22), (.ireturn, 0, 0, 0, 0, 23)], [([true, true], 0)])
def T_X8_fits : jT := ([(.iload 1, 0, 0, 0, 0, 0), (.ifCond .lt 0, 0, 10, 0, 0, 1), (.iload 1, 0, 0, 0, 0, 4), (.iconst 1024, 0, 0, 0, 0, 5), (.if_icmp .ge 0, 0, 7, 0, 0, 8), (.aload 0, 0, 0, 0, 0, 11), (.getfield 0, 8, 0, 0, 289, 12), (.iload 1, 0, 0, 0, 0, 15), (.baload, 22, 0, 0, 0, 16), (.ifCond .eq 0, 0, 2, 0, 0, 17), (.iconst 1, 0, 0, 0, 0, 20), (.goto 0, 0, 1, 0, 0, 21), (.iconst 0, 0, 0, 0, 0, 24), (.ireturn, 1, 0, 0, 0, 25)], [([true, true], 0)])
def T_X8_ends : jT := ([(.iload 1, 0, 0, 0, 0, 0), (.ifCond .lt 0, 0, 8, 0, 0, 1), (.iload 1, 0, 0, 0, 0, 4), (.iconst 1024, 0, 0, 0, 0, 5), (.if_icmp .ge 0, 0, 5, 0, 0, 8), (.aload 0, 0, 0, 0, 0, 11), (.getfield 0, 8, 1, 0, 290, 12), (.iload 1, 0, 0, 0, 0, 15), (.iaload, 0, 0, 0, 0, 16), (.goto 0, 0, 1, 0, 0, 17), (.iconst 0, 0, 0, 0, 0, 20), (.ireturn, 0, 0, 0, 0, 21)], [([true, true], 0)])
def T_X8_more : jT := ([(.iload 1, 0, 0, 0, 0, 0), (.invokestatic 0, 1, 1, 0, 850, 1), (.aload 0, 0, 0, 0, 0, 4), (.getfield 0, 8, 9, 0, 298, 5), (.invokestatic 0, 1, 1, 0, 850, 8), (.isub, 0, 0, 0, 0, 11), (.ireturn, 0, 0, 0, 0, 12)], [([true, true], 0)])
def T_X8_open : jT := ([(.aload 0, 0, 0, 0, 0, 0), (.iload 1, 0, 0, 0, 0, 1), (.invokevirtual 119, 2, 1, 8, 864, 2), (.istore 2, 0, 0, 0, 0, 5), (.iload 2, 0, 0, 0, 0, 6), (.ifCond .lt 0, 0, 5, 0, 0, 7), (.iload 2, 0, 0, 0, 0, 10), (.aload 0, 0, 0, 0, 0, 11), (.getfield 0, 8, 3, 0, 292, 12), (.arraylength, 0, 0, 0, 0, 15), (.if_icmp .lt 0, 0, 2, 0, 0, 16), (.iconst 0, 0, 0, 0, 0, 19), (.ireturn, 0, 0, 0, 0, 20), (.aload 0, 0, 0, 0, 0, 21), (.getfield 0, 8, 3, 0, 292, 22), (.iload 2, 0, 0, 0, 0, 25), (.iaload, 0, 0, 0, 0, 26), (.iload 1, 0, 0, 0, 0, 27), (.iconst (-1), 0, 0, 0, 0, 28), (.ixor, 0, 0, 0, 0, 29), (.iand, 0, 0, 0, 0, 30), (.istore 3, 0, 0, 0, 0, 31), (.aload 0, 0, 0, 0, 0, 32), (.getfield 0, 8, 8, 0, 297, 33), (.ifCond .eq 0, 0, 10, 0, 0, 36), (.iload 1, 0, 0, 0, 0, 39), (.aload 0, 0, 0, 0, 0, 40), (.getfield 0, 8, 7, 0, 296, 41), (.iand, 0, 0, 0, 0, 44), (.ifCond .eq 0, 0, 5, 0, 0, 45), (.iload 3, 0, 0, 0, 0, 48), (.aload 0, 0, 0, 0, 0, 49), (.getfield 0, 8, 7, 0, 296, 50), (.iand, 0, 0, 0, 0, 53), (.istore 3, 0, 0, 0, 0, 54), (.iconst 0, 0, 0, 0, 0, 55), (.istore 4, 0, 0, 0, 0, 56), (.iconst 0, 0, 0, 0, 0, 58), (.istore 5, 0, 0, 0, 0, 59), (.nop, 1, 0, 0, 0, 61), (.iload 5, 0, 0, 0, 0, 61), (.aload 0, 0, 0, 0, 0, 63), (.getfield 0, 8, 6, 0, 295, 64), (.if_icmp .ge 0, 0, 26, 0, 0, 67), (.iload 3, 0, 0, 0, 0, 70), (.iload 5, 0, 0, 0, 0, 71), (.ishr, 0, 0, 0, 0, 73), (.iconst 1, 0, 0, 0, 0, 74), (.iand, 0, 0, 0, 0, 75), (.iconst 1, 0, 0, 0, 0, 76), (.if_icmp .ne 0, 0, 17, 0, 0, 77), (.aload 0, 0, 0, 0, 0, 80), (.getfield 0, 8, 0, 0, 289, 81), (.iload 1, 0, 0, 0, 0, 84), (.iconst 1023, 0, 0, 0, 0, 85), (.iand, 0, 0, 0, 0, 88), (.iconst 1, 0, 0, 0, 0, 89), (.iload 5, 0, 0, 0, 0, 90), (.ishl, 0, 0, 0, 0, 92), (.ior, 0, 0, 0, 0, 93), (.baload, 22, 0, 0, 0, 94), (.ifCond .eq 0, 0, 6, 0, 0, 95), (.iload 4, 0, 0, 0, 0, 98), (.iconst 1, 0, 0, 0, 0, 100), (.iload 5, 0, 0, 0, 0, 101), (.ishl, 0, 0, 0, 0, 103), (.ior, 0, 0, 0, 0, 104), (.istore 4, 0, 0, 0, 0, 105), (.iinc 5 1, 0, 0, 0, 0, 107), (.goto 0, 1, 1, 0, 0, 110), (.iload 4, 0, 0, 0, 0, 113), (.ireturn, 0, 0, 0, 0, 115)], [([true, true, true, true, true, true], 0), ([true, true, false, true, true, true], 40)])
def T_X8_reach : jT := ([(.aload 0, 0, 0, 0, 0, 0), (.getfield 0, 8, 1, 0, 290, 1), (.iconst 0, 0, 0, 0, 0, 4), (.invokestatic 1, 2, 0, 0, 855, 5), (.aload 0, 0, 0, 0, 0, 8), (.getfield 0, 8, 9, 0, 298, 9), (.ifCond .lt 0, 0, 5, 0, 0, 12), (.aload 0, 0, 0, 0, 0, 15), (.getfield 0, 8, 9, 0, 298, 16), (.aload 0, 0, 0, 0, 0, 19), (.invokevirtual 111, 1, 1, 8, 842, 20), (.if_icmp .lt 0, 0, 1, 0, 0, 23), (.return_, 0, 0, 0, 0, 26), (.aload 0, 0, 0, 0, 0, 27), (.getfield 0, 8, 1, 0, 290, 28), (.aload 0, 0, 0, 0, 0, 31), (.getfield 0, 8, 9, 0, 298, 32), (.iconst 1, 0, 0, 0, 0, 35), (.aload 0, 0, 0, 0, 0, 36), (.getfield 0, 8, 10, 0, 299, 37), (.ishl, 0, 0, 0, 0, 40), (.iastore, 0, 0, 0, 0, 41), (.aload 0, 0, 0, 0, 0, 42), (.getfield 0, 8, 9, 0, 298, 43), (.istore 1, 0, 0, 0, 0, 46), (.nop, 1, 0, 0, 0, 47), (.iload 1, 0, 0, 0, 0, 47), (.aload 0, 0, 0, 0, 0, 48), (.invokevirtual 111, 1, 1, 8, 842, 49), (.if_icmp .ge 0, 0, 53, 0, 0, 52), (.aload 0, 0, 0, 0, 0, 55), (.getfield 0, 8, 1, 0, 290, 56), (.iload 1, 0, 0, 0, 0, 59), (.iaload, 0, 0, 0, 0, 60), (.ifCond .ne 0, 0, 2, 0, 0, 61), (.iconst 0, 0, 0, 0, 0, 64), (.goto 0, 0, 3, 0, 0, 65), (.aload 0, 0, 0, 0, 0, 68), (.iload 1, 0, 0, 0, 0, 69), (.invokevirtual 120, 2, 1, 8, 860, 70), (.istore 2, 0, 0, 0, 0, 73), (.iconst 0, 0, 0, 0, 0, 74), (.istore 3, 0, 0, 0, 0, 75), (.nop, 2, 0, 0, 0, 76), (.iload 3, 0, 0, 0, 0, 76), (.aload 0, 0, 0, 0, 0, 77), (.getfield 0, 8, 6, 0, 295, 78), (.if_icmp .ge 0, 0, 33, 0, 0, 81), (.iload 2, 0, 0, 0, 0, 84), (.iload 3, 0, 0, 0, 0, 85), (.ishr, 0, 0, 0, 0, 86), (.iconst 1, 0, 0, 0, 0, 87), (.iand, 0, 0, 0, 0, 88), (.iconst 1, 0, 0, 0, 0, 89), (.if_icmp .ne 0, 0, 24, 0, 0, 90), (.aload 0, 0, 0, 0, 0, 93), (.getfield 0, 8, 1, 0, 290, 94), (.iload 1, 0, 0, 0, 0, 97), (.iaload, 0, 0, 0, 0, 98), (.aload 0, 0, 0, 0, 0, 99), (.getfield 0, 8, 2, 0, 291, 100), (.iload 3, 0, 0, 0, 0, 103), (.iaload, 0, 0, 0, 0, 104), (.iand, 0, 0, 0, 0, 105), (.ifCond .eq 0, 0, 14, 0, 0, 106), (.aload 0, 0, 0, 0, 0, 109), (.getfield 0, 8, 1, 0, 290, 110), (.iload 1, 0, 0, 0, 0, 113), (.iconst 1, 0, 0, 0, 0, 114), (.iload 3, 0, 0, 0, 0, 115), (.ishl, 0, 0, 0, 0, 116), (.ior, 0, 0, 0, 0, 117), (.dup2, 0, 0, 0, 0, 118), (.iaload, 0, 0, 0, 0, 119), (.iconst 1, 0, 0, 0, 0, 120), (.iload 3, 0, 0, 0, 0, 121), (.ishl, 0, 0, 0, 0, 122), (.ior, 0, 0, 0, 0, 123), (.iastore, 0, 0, 0, 0, 124), (.iinc 3 1, 0, 0, 0, 0, 125), (.goto 0, 1, 2, 0, 0, 128), (.iinc 1 1, 0, 0, 0, 0, 131), (.goto 0, 1, 1, 0, 0, 134), (.return_, 0, 0, 0, 0, 137)], [([true, true, true, true], 0), ([true, true, false, false], 26), ([true, true, true, true], 44)])
def T_X8_inSetsAbove : jT := ([(.iconst 0, 0, 0, 0, 0, 0), (.istore 2, 0, 0, 0, 0, 1), (.iconst 0, 0, 0, 0, 0, 2), (.istore 3, 0, 0, 0, 0, 3), (.nop, 1, 0, 0, 0, 4), (.iload 3, 0, 0, 0, 0, 4), (.aload 0, 0, 0, 0, 0, 5), (.invokevirtual 111, 1, 1, 8, 842, 6), (.if_icmp .ge 0, 0, 17, 0, 0, 9), (.iload 2, 0, 0, 0, 0, 12), (.aload 0, 0, 0, 0, 0, 13), (.getfield 0, 8, 1, 0, 290, 14), (.iload 3, 0, 0, 0, 0, 17), (.iaload, 0, 0, 0, 0, 18), (.ifCond .eq 0, 0, 6, 0, 0, 19), (.iload 3, 0, 0, 0, 0, 22), (.invokestatic 0, 1, 1, 0, 850, 23), (.iload 1, 0, 0, 0, 0, 26), (.if_icmp .le 0, 0, 2, 0, 0, 27), (.iload 3, 0, 0, 0, 0, 30), (.goto 0, 0, 1, 0, 0, 31), (.iconst 0, 0, 0, 0, 0, 34), (.ior, 0, 0, 0, 0, 35), (.istore 2, 0, 0, 0, 0, 36), (.iinc 3 1, 0, 0, 0, 0, 37), (.goto 0, 1, 1, 0, 0, 40), (.iload 2, 0, 0, 0, 0, 43), (.ireturn, 0, 0, 0, 0, 44)], [([true, true, true, true], 0), ([true, true, true, true], 5)])
def T_X9_read : jT := ([(.aload 0, 0, 0, 0, 0, 0), (.iconst 0, 0, 0, 0, 0, 1), (.putfield 0, 9, 6, 0, 210, 2), (.aload 0, 0, 0, 0, 0, 5), (.iconst 0, 0, 0, 0, 0, 6), (.putfield 0, 9, 4, 0, 208, 7), (.aload 1, 0, 0, 0, 0, 10), (.invokevirtual 139, 1, 1, 10, 522, 11), (.ifCond .le 0, 0, 15, 0, 0, 14), (.aload 0, 0, 0, 0, 0, 17), (.aload 1, 0, 0, 0, 0, 18), (.iconst 0, 0, 0, 0, 0, 19), (.invokevirtual 124, 3, 1, 9, 523, 20), (.ifCond .eq 0, 0, 5, 0, 0, 23), (.aload 0, 0, 0, 0, 0, 26), (.getfield 0, 9, 6, 0, 210, 27), (.aload 1, 0, 0, 0, 0, 30), (.invokevirtual 139, 1, 1, 10, 522, 31), (.if_icmp .ge 0, 0, 5, 0, 0, 34), (.iconst (-1), 0, 0, 0, 0, 37), (.aload 0, 0, 0, 0, 0, 38), (.getfield 0, 9, 6, 0, 210, 39), (.isub, 0, 0, 0, 0, 42), (.ireturn, 0, 0, 0, 0, 43), (.aload 0, 0, 0, 0, 0, 44), (.getfield 0, 9, 1, 0, 205, 45), (.iconst 0, 0, 0, 0, 0, 48), (.aload 0, 0, 0, 0, 0, 49), (.getfield 0, 9, 0, 0, 204, 50), (.iconst 0, 0, 0, 0, 0, 53), (.iconst 40, 0, 0, 0, 0, 54), (.invokedynamic 0, 0, 0, 0, 560, 56), (.aload 0, 0, 0, 0, 0, 59), (.aload 0, 0, 0, 0, 0, 60), (.getfield 0, 9, 4, 0, 208, 61), (.putfield 0, 9, 3, 0, 207, 64), (.iconst 0, 0, 0, 0, 0, 67), (.ireturn, 0, 0, 0, 0, 68)], [([true, true], 0)])
def T_X9_readExpression : jT := ([(.aload 0, 0, 0, 0, 0, 0), (.aload 1, 0, 0, 0, 0, 1), (.iload 2, 0, 0, 0, 0, 2), (.invokevirtual 125, 3, 1, 9, 527, 3), (.ifCond .ne 0, 0, 2, 0, 0, 6), (.iconst 0, 0, 0, 0, 0, 9), (.ireturn, 1, 0, 0, 0, 10), (.aload 1, 0, 0, 0, 0, 11), (.aload 0, 0, 0, 0, 0, 12), (.getfield 0, 9, 6, 0, 210, 13), (.iconst 40, 0, 0, 0, 0, 16), (.invokevirtual 143, 3, 1, 10, 539, 18), (.istore 3, 0, 0, 0, 0, 21), (.iload 3, 0, 0, 0, 0, 22), (.iconst 60, 0, 0, 0, 0, 23), (.if_icmp .eq 0, 0, 8, 0, 0, 25), (.iload 3, 0, 0, 0, 0, 28), (.iconst 62, 0, 0, 0, 0, 29), (.if_icmp .eq 0, 0, 5, 0, 0, 31), (.iload 3, 0, 0, 0, 0, 34), (.iconst 61, 0, 0, 0, 0, 35), (.if_icmp .eq 0, 0, 2, 0, 0, 37), (.iconst 1, 0, 0, 0, 0, 40), (.ireturn, 1, 0, 0, 0, 41), (.aload 0, 0, 0, 0, 0, 42), (.dup, 0, 0, 0, 0, 43), (.getfield 0, 9, 6, 0, 210, 44), (.iconst 1, 0, 0, 0, 0, 47), (.iadd, 0, 0, 0, 0, 48), (.putfield 0, 9, 6, 0, 210, 49), (.aload 0, 0, 0, 0, 0, 52), (.aload 1, 0, 0, 0, 0, 53), (.iload 2, 0, 0, 0, 0, 54), (.invokevirtual 125, 3, 1, 9, 527, 55), (.ifCond .ne 0, 0, 2, 0, 0, 58), (.iconst 0, 0, 0, 0, 0, 61), (.ireturn, 1, 0, 0, 0, 62), (.aload 0, 0, 0, 0, 0, 63), (.iconst 1000, 0, 0, 0, 0, 64), (.iload 3, 0, 0, 0, 0, 67), (.iadd, 0, 0, 0, 0, 68), (.invokevirtual 132, 2, 0, 9, 553, 69), (.iconst 1, 0, 0, 0, 0, 72), (.ireturn, 1, 0, 0, 0, 73)], [([true, true, true, true], 0)])
def T_X9_readSum : jT := ([(.aload 0, 0, 0, 0, 0, 0), (.aload 1, 0, 0, 0, 0, 1), (.iload 2, 0, 0, 0, 0, 2), (.invokevirtual 126, 3, 1, 9, 531, 3), (.istore 3, 0, 0, 0, 0, 6), (.aload 1, 0, 0, 0, 0, 7), (.aload 0, 0, 0, 0, 0, 8), (.getfield 0, 9, 6, 0, 210, 9), (.iconst 40, 0, 0, 0, 0, 12), (.invokevirtual 143, 3, 1, 10, 539, 14), (.istore 4, 0, 0, 0, 0, 17), (.iconst 0, 0, 0, 0, 0, 19), (.istore 5, 0, 0, 0, 0, 20), (.nop, 1, 0, 0, 0, 22), (.iload 5, 0, 0, 0, 0, 22), (.iconst 40, 0, 0, 0, 0, 24), (.if_icmp .ge 0, 0, 32, 0, 0, 26), (.iload 3, 0, 0, 0, 0, 29), (.ifCond .eq 0, 0, 30, 0, 0, 30), (.iload 4, 0, 0, 0, 0, 33), (.iconst 43, 0, 0, 0, 0, 35), (.if_icmp .eq 0, 0, 3, 0, 0, 37), (.iload 4, 0, 0, 0, 0, 40), (.iconst 45, 0, 0, 0, 0, 42), (.if_icmp .ne 0, 0, 24, 0, 0, 44), (.aload 0, 0, 0, 0, 0, 47), (.dup, 0, 0, 0, 0, 48), (.getfield 0, 9, 6, 0, 210, 49), (.iconst 1, 0, 0, 0, 0, 52), (.iadd, 0, 0, 0, 0, 53), (.putfield 0, 9, 6, 0, 210, 54), (.aload 0, 0, 0, 0, 0, 57), (.aload 1, 0, 0, 0, 0, 58), (.iload 2, 0, 0, 0, 0, 59), (.invokevirtual 126, 3, 1, 9, 531, 60), (.istore 3, 0, 0, 0, 0, 63), (.aload 0, 0, 0, 0, 0, 64), (.iconst 1000, 0, 0, 0, 0, 65), (.iload 4, 0, 0, 0, 0, 68), (.iadd, 0, 0, 0, 0, 70), (.invokevirtual 132, 2, 0, 9, 553, 71), (.aload 1, 0, 0, 0, 0, 74), (.aload 0, 0, 0, 0, 0, 75), (.getfield 0, 9, 6, 0, 210, 76), (.iconst 40, 0, 0, 0, 0, 79), (.invokevirtual 143, 3, 1, 10, 539, 81), (.istore 4, 0, 0, 0, 0, 84), (.iinc 5 1, 0, 0, 0, 0, 86), (.goto 0, 1, 1, 0, 0, 89), (.iload 3, 0, 0, 0, 0, 92), (.ireturn, 1, 0, 0, 0, 93)], [([true, true, true, true, true, true], 0), ([true, true, true, true, true, true], 14)])
def T_X9_readProduct : jT := ([(.aload 0, 0, 0, 0, 0, 0), (.aload 1, 0, 0, 0, 0, 1), (.iload 2, 0, 0, 0, 0, 2), (.invokevirtual 127, 3, 1, 9, 535, 3), (.istore 3, 0, 0, 0, 0, 6), (.aload 1, 0, 0, 0, 0, 7), (.aload 0, 0, 0, 0, 0, 8), (.getfield 0, 9, 6, 0, 210, 9), (.iconst 40, 0, 0, 0, 0, 12), (.invokevirtual 143, 3, 1, 10, 539, 14), (.istore 4, 0, 0, 0, 0, 17), (.iconst 0, 0, 0, 0, 0, 19), (.istore 5, 0, 0, 0, 0, 20), (.nop, 1, 0, 0, 0, 22), (.iload 5, 0, 0, 0, 0, 22), (.iconst 40, 0, 0, 0, 0, 24), (.if_icmp .ge 0, 0, 32, 0, 0, 26), (.iload 3, 0, 0, 0, 0, 29), (.ifCond .eq 0, 0, 30, 0, 0, 30), (.iload 4, 0, 0, 0, 0, 33), (.iconst 42, 0, 0, 0, 0, 35), (.if_icmp .eq 0, 0, 3, 0, 0, 37), (.iload 4, 0, 0, 0, 0, 40), (.iconst 47, 0, 0, 0, 0, 42), (.if_icmp .ne 0, 0, 24, 0, 0, 44), (.aload 0, 0, 0, 0, 0, 47), (.dup, 0, 0, 0, 0, 48), (.getfield 0, 9, 6, 0, 210, 49), (.iconst 1, 0, 0, 0, 0, 52), (.iadd, 0, 0, 0, 0, 53), (.putfield 0, 9, 6, 0, 210, 54), (.aload 0, 0, 0, 0, 0, 57), (.aload 1, 0, 0, 0, 0, 58), (.iload 2, 0, 0, 0, 0, 59), (.invokevirtual 127, 3, 1, 9, 535, 60), (.istore 3, 0, 0, 0, 0, 63), (.aload 0, 0, 0, 0, 0, 64), (.iconst 1000, 0, 0, 0, 0, 65), (.iload 4, 0, 0, 0, 0, 68), (.iadd, 0, 0, 0, 0, 70), (.invokevirtual 132, 2, 0, 9, 553, 71), (.aload 1, 0, 0, 0, 0, 74), (.aload 0, 0, 0, 0, 0, 75), (.getfield 0, 9, 6, 0, 210, 76), (.iconst 40, 0, 0, 0, 0, 79), (.invokevirtual 143, 3, 1, 10, 539, 81), (.istore 4, 0, 0, 0, 0, 84), (.iinc 5 1, 0, 0, 0, 0, 86), (.goto 0, 1, 1, 0, 0, 89), (.iload 3, 0, 0, 0, 0, 92), (.ireturn, 1, 0, 0, 0, 93)], [([true, true, true, true, true, true], 0), ([true, true, true, true, true, true], 14)])
def T_X9_readFactor : jT := ([(.iconst 0, 0, 0, 0, 0, 0), (.istore 3, 0, 0, 0, 0, 1), (.iconst 0, 0, 0, 0, 0, 2), (.istore 4, 0, 0, 0, 0, 3), (.nop, 1, 0, 0, 0, 5), (.iload 4, 0, 0, 0, 0, 5), (.iconst 40, 0, 0, 0, 0, 7), (.if_icmp .ge 0, 0, 21, 0, 0, 9), (.aload 1, 0, 0, 0, 0, 12), (.aload 0, 0, 0, 0, 0, 13), (.getfield 0, 9, 6, 0, 210, 14), (.iconst 40, 0, 0, 0, 0, 17), (.invokevirtual 143, 3, 1, 10, 539, 19), (.iconst 45, 0, 0, 0, 0, 22), (.if_icmp .ne 0, 0, 14, 0, 0, 24), (.iload 3, 0, 0, 0, 0, 27), (.ifCond .ne 0, 0, 2, 0, 0, 28), (.iconst 1, 0, 0, 0, 0, 31), (.goto 0, 0, 1, 0, 0, 32), (.iconst 0, 0, 0, 0, 0, 35), (.istore 3, 0, 0, 0, 0, 36), (.aload 0, 0, 0, 0, 0, 37), (.dup, 0, 0, 0, 0, 38), (.getfield 0, 9, 6, 0, 210, 39), (.iconst 1, 0, 0, 0, 0, 42), (.iadd, 0, 0, 0, 0, 43), (.putfield 0, 9, 6, 0, 210, 44), (.iinc 4 1, 0, 0, 0, 0, 47), (.goto 0, 1, 1, 0, 0, 50), (.aload 0, 0, 0, 0, 0, 53), (.aload 1, 0, 0, 0, 0, 54), (.iload 2, 0, 0, 0, 0, 55), (.invokevirtual 128, 3, 1, 9, 540, 56), (.ifCond .ne 0, 0, 2, 0, 0, 59), (.iconst 0, 0, 0, 0, 0, 62), (.ireturn, 1, 0, 0, 0, 63), (.iload 3, 0, 0, 0, 0, 64), (.ifCond .eq 0, 0, 3, 0, 0, 65), (.aload 0, 0, 0, 0, 0, 68), (.iconst 1126, 0, 0, 0, 0, 69), (.invokevirtual 132, 2, 0, 9, 553, 72), (.iconst 1, 0, 0, 0, 0, 75), (.ireturn, 1, 0, 0, 0, 76)], [([true, true, true, true, true], 0), ([true, true, true, true, true], 5)])
def T_X9_readThing : jT := ([(.aload 1, 0, 0, 0, 0, 0), (.aload 0, 0, 0, 0, 0, 1), (.getfield 0, 9, 6, 0, 210, 2), (.iconst 40, 0, 0, 0, 0, 5), (.invokevirtual 143, 3, 1, 10, 539, 7), (.istore 3, 0, 0, 0, 0, 10), (.iload 3, 0, 0, 0, 0, 11), (.iconst 40, 0, 0, 0, 0, 12), (.if_icmp .ne 0, 0, 12, 0, 0, 14), (.iload 2, 0, 0, 0, 0, 17), (.iconst 4, 0, 0, 0, 0, 18), (.if_icmp .ge 0, 0, 7, 0, 0, 19), (.aload 0, 0, 0, 0, 0, 22), (.aload 1, 0, 0, 0, 0, 23), (.iload 2, 0, 0, 0, 0, 24), (.invokevirtual 129, 3, 1, 9, 544, 25), (.ifCond .eq 0, 0, 2, 0, 0, 28), (.iconst 1, 0, 0, 0, 0, 31), (.goto 0, 0, 1, 0, 0, 32), (.iconst 0, 0, 0, 0, 0, 35), (.ireturn, 1, 0, 0, 0, 36), (.aload 1, 0, 0, 0, 0, 37), (.aload 0, 0, 0, 0, 0, 38), (.getfield 0, 9, 6, 0, 210, 39), (.iconst 40, 0, 0, 0, 0, 42), (.invokevirtual 144, 3, 1, 10, 548, 44), (.ifCond .eq 0, 0, 5, 0, 0, 47), (.aload 0, 0, 0, 0, 0, 50), (.aload 1, 0, 0, 0, 0, 51), (.invokevirtual 130, 2, 0, 9, 549, 52), (.iconst 1, 0, 0, 0, 0, 55), (.ireturn, 1, 0, 0, 0, 56), (.iload 3, 0, 0, 0, 0, 57), (.invokestatic 131, 1, 1, 9, 557, 58), (.ifCond .ne 0, 0, 2, 0, 0, 61), (.iconst 0, 0, 0, 0, 0, 64), (.ireturn, 1, 0, 0, 0, 65), (.aload 0, 0, 0, 0, 0, 66), (.iconst 1000, 0, 0, 0, 0, 67), (.iload 3, 0, 0, 0, 0, 70), (.iadd, 0, 0, 0, 0, 71), (.invokevirtual 132, 2, 0, 9, 553, 72), (.aload 0, 0, 0, 0, 0, 75), (.dup, 0, 0, 0, 0, 76), (.getfield 0, 9, 6, 0, 210, 77), (.iconst 1, 0, 0, 0, 0, 80), (.iadd, 0, 0, 0, 0, 81), (.putfield 0, 9, 6, 0, 210, 82), (.iconst 1, 0, 0, 0, 0, 85), (.ireturn, 1, 0, 0, 0, 86)], [([true, true, true, true], 0)])
def T_X9_readBracket : jT := ([(.aload 0, 0, 0, 0, 0, 0), (.dup, 0, 0, 0, 0, 1), (.getfield 0, 9, 6, 0, 210, 2), (.iconst 1, 0, 0, 0, 0, 5), (.iadd, 0, 0, 0, 0, 6), (.putfield 0, 9, 6, 0, 210, 7), (.aload 0, 0, 0, 0, 0, 10), (.aload 1, 0, 0, 0, 0, 11), (.iload 2, 0, 0, 0, 0, 12), (.iconst 1, 0, 0, 0, 0, 13), (.iadd, 0, 0, 0, 0, 14), (.invokevirtual 124, 3, 1, 9, 523, 15), (.ifCond .eq 0, 0, 7, 0, 0, 18), (.aload 1, 0, 0, 0, 0, 21), (.aload 0, 0, 0, 0, 0, 22), (.getfield 0, 9, 6, 0, 210, 23), (.iconst 40, 0, 0, 0, 0, 26), (.invokevirtual 143, 3, 1, 10, 539, 28), (.iconst 41, 0, 0, 0, 0, 31), (.if_icmp .eq 0, 0, 2, 0, 0, 33), (.iconst 0, 0, 0, 0, 0, 36), (.ireturn, 1, 0, 0, 0, 37), (.aload 0, 0, 0, 0, 0, 38), (.dup, 0, 0, 0, 0, 39), (.getfield 0, 9, 6, 0, 210, 40), (.iconst 1, 0, 0, 0, 0, 43), (.iadd, 0, 0, 0, 0, 44), (.putfield 0, 9, 6, 0, 210, 45), (.iconst 1, 0, 0, 0, 0, 48), (.ireturn, 1, 0, 0, 0, 49)], [([true, true, true], 0)])
def T_X9_readNumber : jT := ([(.iconst 0, 0, 0, 0, 0, 0), (.istore 2, 0, 0, 0, 0, 1), (.iconst 0, 0, 0, 0, 0, 2), (.istore 3, 0, 0, 0, 0, 3), (.nop, 1, 0, 0, 0, 4), (.iload 3, 0, 0, 0, 0, 4), (.iconst 3, 0, 0, 0, 0, 5), (.if_icmp .ge 0, 0, 26, 0, 0, 6), (.aload 1, 0, 0, 0, 0, 9), (.aload 0, 0, 0, 0, 0, 10), (.getfield 0, 9, 6, 0, 210, 11), (.iconst 40, 0, 0, 0, 0, 14), (.invokevirtual 144, 3, 1, 10, 548, 16), (.ifCond .eq 0, 0, 20, 0, 0, 19), (.iconst 10, 0, 0, 0, 0, 22), (.iload 2, 0, 0, 0, 0, 24), (.imul, 0, 0, 0, 0, 25), (.aload 1, 0, 0, 0, 0, 26), (.aload 0, 0, 0, 0, 0, 27), (.getfield 0, 9, 6, 0, 210, 28), (.iconst 40, 0, 0, 0, 0, 31), (.invokevirtual 143, 3, 1, 10, 539, 33), (.iadd, 0, 0, 0, 0, 36), (.iconst 48, 0, 0, 0, 0, 37), (.isub, 0, 0, 0, 0, 39), (.istore 2, 0, 0, 0, 0, 40), (.aload 0, 0, 0, 0, 0, 41), (.dup, 0, 0, 0, 0, 42), (.getfield 0, 9, 6, 0, 210, 43), (.iconst 1, 0, 0, 0, 0, 46), (.iadd, 0, 0, 0, 0, 47), (.putfield 0, 9, 6, 0, 210, 48), (.iinc 3 1, 0, 0, 0, 0, 51), (.goto 0, 1, 1, 0, 0, 54), (.aload 0, 0, 0, 0, 0, 57), (.iload 2, 0, 0, 0, 0, 58), (.invokevirtual 132, 2, 0, 9, 553, 59), (.return_, 0, 0, 0, 0, 62)], [([true, true, true, true], 0), ([true, true, true, true], 5)])
def T_X9_isQuality : jT := ([(.iload 0, 0, 0, 0, 0, 0), (.lookupswitch 2 #[(98, 0), (99, 0), (100, 0), (101, 2), (102, 2), (103, 0), (104, 0), (105, 2), (106, 2), (107, 2), (108, 0), (109, 2), (110, 0), (111, 0)], 0, 0, 0, 0, 1), (.iconst 1, 0, 0, 0, 0, 72), (.ireturn, 1, 0, 0, 0, 73), (.iconst 0, 0, 0, 0, 0, 74), (.ireturn, 1, 0, 0, 0, 75)], [([true], 0)])
def T_X9_emit : jT := ([(.aload 0, 0, 0, 0, 0, 0), (.getfield 0, 9, 4, 0, 208, 1), (.iconst 40, 0, 0, 0, 0, 4), (.if_icmp .ge 0, 0, 12, 0, 0, 6), (.aload 0, 0, 0, 0, 0, 9), (.getfield 0, 9, 1, 0, 205, 10), (.aload 0, 0, 0, 0, 0, 13), (.getfield 0, 9, 4, 0, 208, 14), (.iload 1, 0, 0, 0, 0, 17), (.iastore, 0, 0, 0, 0, 18), (.aload 0, 0, 0, 0, 0, 19), (.dup, 0, 0, 0, 0, 20), (.getfield 0, 9, 4, 0, 208, 21), (.iconst 1, 0, 0, 0, 0, 24), (.iadd, 0, 0, 0, 0, 25), (.putfield 0, 9, 4, 0, 208, 26), (.return_, 0, 0, 0, 0, 29)], [([true, true], 0)])
def T_X9_of : jT := ([(.aload 0, 0, 0, 0, 0, 0), (.getfield 0, 9, 3, 0, 207, 1), (.ifCond .ne 0, 0, 9, 0, 0, 4), (.aload 1, 0, 0, 0, 0, 7), (.iload 2, 0, 0, 0, 0, 8), (.invokevirtual 18, 2, 1, 1, 1076, 9), (.aload 1, 0, 0, 0, 0, 12), (.iload 3, 0, 0, 0, 0, 13), (.invokevirtual 14, 2, 1, 1, 1080, 14), (.iand, 0, 0, 0, 0, 17), (.invokestatic 0, 1, 1, 0, 1081, 18), (.ireturn, 0, 0, 0, 0, 21), (.aload 0, 0, 0, 0, 0, 22), (.iconst 0, 0, 0, 0, 0, 23), (.putfield 0, 9, 5, 0, 209, 24), (.iconst 0, 0, 0, 0, 0, 27), (.istore 4, 0, 0, 0, 0, 28), (.nop, 1, 0, 0, 0, 30), (.iload 4, 0, 0, 0, 0, 30), (.aload 0, 0, 0, 0, 0, 32), (.getfield 0, 9, 3, 0, 207, 33), (.if_icmp .ge 0, 0, 53, 0, 0, 36), (.iload 4, 0, 0, 0, 0, 39), (.iconst 40, 0, 0, 0, 0, 41), (.if_icmp .ge 0, 0, 50, 0, 0, 43), (.aload 0, 0, 0, 0, 0, 46), (.getfield 0, 9, 0, 0, 204, 47), (.iload 4, 0, 0, 0, 0, 50), (.iaload, 0, 0, 0, 0, 52), (.istore 5, 0, 0, 0, 0, 53), (.iload 5, 0, 0, 0, 0, 55), (.iconst 1000, 0, 0, 0, 0, 57), (.if_icmp .ge 0, 0, 4, 0, 0, 60), (.aload 0, 0, 0, 0, 0, 63), (.iload 5, 0, 0, 0, 0, 64), (.invokevirtual 135, 2, 0, 9, 1082, 66), (.goto 0, 0, 36, 0, 0, 69), (.iload 5, 0, 0, 0, 0, 72), (.iconst 1000, 0, 0, 0, 0, 74), (.isub, 0, 0, 0, 0, 77), (.invokestatic 131, 1, 1, 9, 557, 78), (.ifCond .eq 0, 0, 10, 0, 0, 81), (.aload 0, 0, 0, 0, 0, 84), (.iload 5, 0, 0, 0, 0, 85), (.iconst 1000, 0, 0, 0, 0, 87), (.isub, 0, 0, 0, 0, 90), (.aload 1, 0, 0, 0, 0, 91), (.iload 2, 0, 0, 0, 0, 92), (.iload 3, 0, 0, 0, 0, 93), (.invokestatic 137, 4, 1, 9, 1086, 94), (.invokevirtual 135, 2, 0, 9, 1082, 97), (.goto 0, 0, 21, 0, 0, 100), (.iload 5, 0, 0, 0, 0, 103), (.iconst 1126, 0, 0, 0, 0, 105), (.if_icmp .ne 0, 0, 6, 0, 0, 108), (.aload 0, 0, 0, 0, 0, 111), (.aload 0, 0, 0, 0, 0, 112), (.invokevirtual 136, 1, 1, 9, 1099, 113), (.ineg, 0, 0, 0, 0, 116), (.invokevirtual 135, 2, 0, 9, 1082, 117), (.goto 0, 0, 12, 0, 0, 120), (.aload 0, 0, 0, 0, 0, 123), (.invokevirtual 136, 1, 1, 9, 1099, 124), (.istore 6, 0, 0, 0, 0, 127), (.aload 0, 0, 0, 0, 0, 129), (.iload 5, 0, 0, 0, 0, 130), (.iconst 1000, 0, 0, 0, 0, 132), (.isub, 0, 0, 0, 0, 135), (.aload 0, 0, 0, 0, 0, 136), (.invokevirtual 136, 1, 1, 9, 1099, 137), (.iload 6, 0, 0, 0, 0, 140), (.invokestatic 138, 3, 1, 9, 1103, 142), (.invokevirtual 135, 2, 0, 9, 1082, 145), (.iinc 4 1, 0, 0, 0, 0, 148), (.goto 0, 1, 1, 0, 0, 151), (.iconst (-999), 0, 0, 0, 0, 154), (.iconst 999, 0, 0, 0, 0, 157), (.aload 0, 0, 0, 0, 0, 160), (.invokevirtual 136, 1, 1, 9, 1099, 161), (.lsub, 0, 0, 0, 1106, 164), (.lmul, 0, 0, 0, 1107, 167), (.ireturn, 0, 0, 0, 0, 170)], [([true, true, true, true, true, true, true], 0), ([true, true, true, true, true, false, false], 18)])
def T_X9_ofAll : jT := ([(.iconst 0, 0, 0, 0, 0, 0), (.istore 3, 0, 0, 0, 0, 1), (.iconst 0, 0, 0, 0, 0, 2), (.istore 4, 0, 0, 0, 0, 3), (.nop, 1, 0, 0, 0, 5), (.iload 4, 0, 0, 0, 0, 5), (.aload 1, 0, 0, 0, 0, 7), (.invokevirtual 10, 1, 1, 1, 1071, 8), (.if_icmp .ge 0, 0, 10, 0, 0, 11), (.iload 3, 0, 0, 0, 0, 14), (.aload 0, 0, 0, 0, 0, 15), (.aload 1, 0, 0, 0, 0, 16), (.iload 4, 0, 0, 0, 0, 17), (.iload 2, 0, 0, 0, 0, 19), (.invokevirtual 133, 4, 1, 9, 1072, 20), (.iadd, 0, 0, 0, 0, 23), (.istore 3, 0, 0, 0, 0, 24), (.iinc 4 1, 0, 0, 0, 0, 25), (.goto 0, 1, 1, 0, 0, 28), (.iload 3, 0, 0, 0, 0, 31), (.ireturn, 0, 0, 0, 0, 32)], [([true, true, true, true, true], 0), ([true, true, true, true, true], 5)])
def T_X9_push : jT := ([(.aload 0, 0, 0, 0, 0, 0), (.getfield 0, 9, 5, 0, 209, 1), (.ifCond .lt 0, 0, 18, 0, 0, 4), (.aload 0, 0, 0, 0, 0, 7), (.getfield 0, 9, 5, 0, 209, 8), (.aload 0, 0, 0, 0, 0, 11), (.getfield 0, 9, 2, 0, 206, 12), (.arraylength, 0, 0, 0, 0, 15), (.if_icmp .ge 0, 0, 12, 0, 0, 16), (.aload 0, 0, 0, 0, 0, 19), (.getfield 0, 9, 2, 0, 206, 20), (.aload 0, 0, 0, 0, 0, 23), (.getfield 0, 9, 5, 0, 209, 24), (.iload 1, 0, 0, 0, 0, 27), (.iastore, 0, 0, 0, 0, 28), (.aload 0, 0, 0, 0, 0, 29), (.dup, 0, 0, 0, 0, 30), (.getfield 0, 9, 5, 0, 209, 31), (.iconst 1, 0, 0, 0, 0, 34), (.iadd, 0, 0, 0, 0, 35), (.putfield 0, 9, 5, 0, 209, 36), (.return_, 0, 0, 0, 0, 39)], [([true, true], 0)])
def T_X9_pop : jT := ([(.aload 0, 0, 0, 0, 0, 0), (.getfield 0, 9, 5, 0, 209, 1), (.iconst 1, 0, 0, 0, 0, 4), (.if_icmp .lt 0, 0, 6, 0, 0, 5), (.aload 0, 0, 0, 0, 0, 8), (.getfield 0, 9, 5, 0, 209, 9), (.aload 0, 0, 0, 0, 0, 12), (.getfield 0, 9, 2, 0, 206, 13), (.arraylength, 0, 0, 0, 0, 16), (.if_icmp .le 0, 0, 2, 0, 0, 17), (.iconst 0, 0, 0, 0, 0, 20), (.ireturn, 0, 0, 0, 0, 21), (.aload 0, 0, 0, 0, 0, 22), (.dup, 0, 0, 0, 0, 23), (.getfield 0, 9, 5, 0, 209, 24), (.iconst 1, 0, 0, 0, 0, 27), (.isub, 0, 0, 0, 0, 28), (.putfield 0, 9, 5, 0, 209, 29), (.aload 0, 0, 0, 0, 0, 32), (.getfield 0, 9, 2, 0, 206, 33), (.aload 0, 0, 0, 0, 0, 36), (.getfield 0, 9, 5, 0, 209, 37), (.iaload, 0, 0, 0, 0, 40), (.ireturn, 0, 0, 0, 0, 41)], [([true], 0)])
def T_X9_quality : jT := ([(.aload 1, 0, 0, 0, 0, 0), (.iload 3, 0, 0, 0, 0, 1), (.invokevirtual 14, 2, 1, 1, 1080, 2), (.istore 4, 0, 0, 0, 0, 5), (.iload 0, 0, 0, 0, 0, 7), (.lookupswitch 31 #[(98, 7), (99, 17), (100, 31), (101, 31), (102, 31), (103, 29), (104, 21), (105, 31), (106, 31), (107, 31), (108, 0), (109, 31), (110, 14), (111, 25)], 0, 0, 0, 0, 8), (.iload 4, 0, 0, 0, 0, 80), (.aload 1, 0, 0, 0, 0, 82), (.iload 2, 0, 0, 0, 0, 83), (.invokevirtual 18, 2, 1, 1, 1076, 84), (.iand, 0, 0, 0, 0, 87), (.invokestatic 0, 1, 1, 0, 1081, 88), (.ireturn, 0, 0, 0, 0, 91), (.iload 4, 0, 0, 0, 0, 92), (.aload 1, 0, 0, 0, 0, 94), (.iload 2, 0, 0, 0, 0, 95), (.invokevirtual 19, 2, 1, 1, 1089, 96), (.iand, 0, 0, 0, 0, 99), (.invokestatic 0, 1, 1, 0, 1081, 100), (.ireturn, 0, 0, 0, 0, 103), (.iload 4, 0, 0, 0, 0, 104), (.invokestatic 0, 1, 1, 0, 1081, 106), (.ireturn, 0, 0, 0, 0, 109), (.aload 1, 0, 0, 0, 0, 110), (.iload 3, 0, 0, 0, 0, 111), (.invokevirtual 15, 2, 1, 1, 1090, 112), (.ireturn, 0, 0, 0, 0, 115), (.aload 1, 0, 0, 0, 0, 116), (.iload 3, 0, 0, 0, 0, 117), (.invokevirtual 16, 2, 1, 1, 1091, 118), (.ireturn, 0, 0, 0, 0, 121), (.aload 1, 0, 0, 0, 0, 122), (.iload 3, 0, 0, 0, 0, 123), (.invokevirtual 17, 2, 1, 1, 1095, 124), (.ireturn, 0, 0, 0, 0, 127), (.iload 2, 0, 0, 0, 0, 128), (.ireturn, 0, 0, 0, 0, 129), (.iload 3, 0, 0, 0, 0, 130), (.ireturn, 0, 0, 0, 0, 131)], [([true, true, true, true, true], 0)])
def T_X9_result : jT := ([(.iload 0, 0, 0, 0, 0, 0), (.lookupswitch 33 #[(42, 29), (43, 21), (45, 25), (60, 0), (61, 14), (62, 7)], 0, 0, 0, 0, 1), (.iload 1, 0, 0, 0, 0, 60), (.iload 2, 0, 0, 0, 0, 61), (.if_icmp .ge 0, 0, 2, 0, 0, 62), (.iconst 1, 0, 0, 0, 0, 65), (.goto 0, 0, 1, 0, 0, 66), (.iconst 0, 0, 0, 0, 0, 69), (.ireturn, 0, 0, 0, 0, 70), (.iload 1, 0, 0, 0, 0, 71), (.iload 2, 0, 0, 0, 0, 72), (.if_icmp .le 0, 0, 2, 0, 0, 73), (.iconst 1, 0, 0, 0, 0, 76), (.goto 0, 0, 1, 0, 0, 77), (.iconst 0, 0, 0, 0, 0, 80), (.ireturn, 0, 0, 0, 0, 81), (.iload 1, 0, 0, 0, 0, 82), (.iload 2, 0, 0, 0, 0, 83), (.if_icmp .ne 0, 0, 2, 0, 0, 84), (.iconst 1, 0, 0, 0, 0, 87), (.goto 0, 0, 1, 0, 0, 88), (.iconst 0, 0, 0, 0, 0, 91), (.ireturn, 0, 0, 0, 0, 92), (.iload 1, 0, 0, 0, 0, 93), (.iload 2, 0, 0, 0, 0, 94), (.iadd, 0, 0, 0, 0, 95), (.ireturn, 0, 0, 0, 0, 96), (.iload 1, 0, 0, 0, 0, 97), (.iload 2, 0, 0, 0, 0, 98), (.isub, 0, 0, 0, 0, 99), (.ireturn, 0, 0, 0, 0, 100), (.iload 1, 0, 0, 0, 0, 101), (.iload 2, 0, 0, 0, 0, 102), (.imul, 0, 0, 0, 0, 103), (.ireturn, 0, 0, 0, 0, 104), (.iload 2, 0, 0, 0, 0, 105), (.ifCond .ne 0, 0, 2, 0, 0, 106), (.iconst 0, 0, 0, 0, 0, 109), (.goto 0, 0, 3, 0, 0, 110), (.iload 1, 0, 0, 0, 0, 113), (.iload 2, 0, 0, 0, 0, 114), (.idiv, 0, 0, 0, 0, 115), (.ireturn, 0, 0, 0, 0, 116)], [([true, true, true], 0)])
def T_X10_length : jT := ([(.aload 0, 0, 0, 0, 0, 0), (.getfield 0, 10, 1, 0, 141, 1), (.ireturn, 0, 0, 0, 0, 4)], [([true], 0)])
def T_X10_append : jT := ([(.aload 0, 0, 0, 0, 0, 0), (.getfield 0, 10, 1, 0, 141, 1), (.iconst 4, 0, 0, 0, 0, 4), (.iadd, 0, 0, 0, 0, 5), (.aload 0, 0, 0, 0, 0, 6), (.getfield 0, 10, 0, 0, 140, 7), (.arraylength, 0, 0, 0, 0, 10), (.if_icmp .le 0, 0, 2, 0, 0, 11), (.iconst 0, 0, 0, 0, 0, 14), (.ireturn, 1, 0, 0, 0, 15), (.iconst 0, 0, 0, 0, 0, 16), (.istore 2, 0, 0, 0, 0, 17), (.nop, 1, 0, 0, 0, 18), (.iload 2, 0, 0, 0, 0, 18), (.iconst 4, 0, 0, 0, 0, 19), (.if_icmp .ge 0, 0, 18, 0, 0, 20), (.aload 0, 0, 0, 0, 0, 23), (.getfield 0, 10, 0, 0, 140, 24), (.aload 0, 0, 0, 0, 0, 27), (.getfield 0, 10, 1, 0, 141, 28), (.iload 2, 0, 0, 0, 0, 31), (.iadd, 0, 0, 0, 0, 32), (.iload 1, 0, 0, 0, 0, 33), (.iconst 24, 0, 0, 0, 0, 34), (.iconst 8, 0, 0, 0, 0, 36), (.iload 2, 0, 0, 0, 0, 38), (.imul, 0, 0, 0, 0, 39), (.isub, 0, 0, 0, 0, 40), (.iushr, 0, 0, 0, 0, 41), (.iconst 255, 0, 0, 0, 0, 42), (.iand, 0, 0, 0, 0, 45), (.iastore, 0, 0, 0, 0, 46), (.iinc 2 1, 0, 0, 0, 0, 47), (.goto 0, 1, 1, 0, 0, 50), (.aload 0, 0, 0, 0, 0, 53), (.dup, 0, 0, 0, 0, 54), (.getfield 0, 10, 1, 0, 141, 55), (.iconst 4, 0, 0, 0, 0, 58), (.iadd, 0, 0, 0, 0, 59), (.putfield 0, 10, 1, 0, 141, 60), (.iconst 1, 0, 0, 0, 0, 63), (.ireturn, 1, 0, 0, 0, 64)], [([true, true, true], 0), ([true, true, true], 13)])
def T_X10_cutTo : jT := ([(.iload 1, 0, 0, 0, 0, 0), (.ifCond .lt 0, 0, 4, 0, 0, 1), (.iload 1, 0, 0, 0, 0, 4), (.aload 0, 0, 0, 0, 0, 5), (.getfield 0, 10, 1, 0, 141, 6), (.if_icmp .le 0, 0, 2, 0, 0, 9), (.iconst 0, 0, 0, 0, 0, 12), (.ireturn, 1, 0, 0, 0, 13), (.aload 0, 0, 0, 0, 0, 14), (.iload 1, 0, 0, 0, 0, 15), (.putfield 0, 10, 1, 0, 141, 16), (.iconst 1, 0, 0, 0, 0, 19), (.ireturn, 1, 0, 0, 0, 20)], [([true, true], 0)])
def T_X10_clear : jT := ([(.aload 0, 0, 0, 0, 0, 0), (.iconst 0, 0, 0, 0, 0, 1), (.putfield 0, 10, 1, 0, 141, 2), (.return_, 0, 0, 0, 0, 5)], [([true], 0)])
def T_X10_at : jT := ([(.iload 1, 0, 0, 0, 0, 0), (.ifCond .lt 0, 0, 12, 0, 0, 1), (.iload 1, 0, 0, 0, 0, 4), (.aload 0, 0, 0, 0, 0, 5), (.getfield 0, 10, 1, 0, 141, 6), (.if_icmp .ge 0, 0, 8, 0, 0, 9), (.iload 1, 0, 0, 0, 0, 12), (.iload 2, 0, 0, 0, 0, 13), (.if_icmp .ge 0, 0, 5, 0, 0, 14), (.aload 0, 0, 0, 0, 0, 17), (.getfield 0, 10, 0, 0, 140, 18), (.iload 1, 0, 0, 0, 0, 21), (.iaload, 0, 0, 0, 0, 22), (.goto 0, 0, 1, 0, 0, 23), (.iconst (-1), 0, 0, 0, 0, 26), (.ireturn, 0, 0, 0, 0, 27)], [([true, true, true], 0)])
def T_X10_hasDigit : jT := ([(.aload 0, 0, 0, 0, 0, 0), (.iload 1, 0, 0, 0, 0, 1), (.iload 2, 0, 0, 0, 0, 2), (.invokevirtual 143, 3, 1, 10, 497, 3), (.istore 3, 0, 0, 0, 0, 6), (.iload 3, 0, 0, 0, 0, 7), (.iconst 48, 0, 0, 0, 0, 8), (.if_icmp .lt 0, 0, 5, 0, 0, 10), (.iload 3, 0, 0, 0, 0, 13), (.iconst 57, 0, 0, 0, 0, 14), (.if_icmp .gt 0, 0, 2, 0, 0, 16), (.iconst 1, 0, 0, 0, 0, 19), (.goto 0, 0, 1, 0, 0, 20), (.iconst 0, 0, 0, 0, 0, 23), (.ireturn, 1, 0, 0, 0, 24)], [([true, true, true, true], 0)])
def T_X11_sign : jT := ([(.aload 0, 0, 0, 0, 0, 0), (.getfield 0, 11, 0, 0, 383, 1), (.iload 1, 0, 0, 0, 0, 4), (.invokevirtual 140, 2, 1, 10, 436, 5), (.ifCond .eq 0, 0, 4, 0, 0, 8), (.aload 0, 0, 0, 0, 0, 11), (.getfield 0, 11, 0, 0, 383, 12), (.invokevirtual 139, 1, 1, 10, 440, 15), (.goto 0, 0, 1, 0, 0, 18), (.iconst (-1), 0, 0, 0, 0, 21), (.ireturn, 0, 0, 0, 0, 22)], [([true, true], 0)])
def T_X11_end : jT := ([(.aload 0, 0, 0, 0, 0, 0), (.getfield 0, 11, 0, 0, 383, 1), (.iload 1, 0, 0, 0, 0, 4), (.invokevirtual 141, 2, 1, 10, 448, 5), (.ireturn, 1, 0, 0, 0, 8)], [([true, true], 0)])
def T_X11_kitchen : jT := ([(.aload 0, 0, 0, 0, 0, 0), (.getfield 0, 11, 2, 0, 385, 1), (.aload 0, 0, 0, 0, 0, 4), (.getfield 0, 11, 0, 0, 383, 5), (.aload 0, 0, 0, 0, 0, 8), (.getfield 0, 11, 1, 0, 384, 9), (.invokevirtual 96, 3, 1, 6, 456, 12), (.istore 1, 0, 0, 0, 0, 15), (.aload 0, 0, 0, 0, 0, 16), (.getfield 0, 11, 0, 0, 383, 17), (.invokevirtual 142, 1, 0, 10, 510, 20), (.iload 1, 0, 0, 0, 0, 23), (.ireturn, 0, 0, 0, 0, 24)], [([true, true], 0)])
def T_X11_rule : jT := ([(.aload 0, 0, 0, 0, 0, 0), (.getfield 0, 11, 3, 0, 386, 1), (.aload 0, 0, 0, 0, 0, 4), (.getfield 0, 11, 0, 0, 383, 5), (.invokevirtual 123, 2, 1, 9, 518, 8), (.istore 1, 0, 0, 0, 0, 11), (.aload 0, 0, 0, 0, 0, 12), (.getfield 0, 11, 0, 0, 383, 13), (.invokevirtual 142, 1, 0, 10, 510, 16), (.iload 1, 0, 0, 0, 0, 19), (.ireturn, 0, 0, 0, 0, 20)], [([true, true], 0)])
def T_X11_dish : jT := ([(.aload 0, 0, 0, 0, 0, 0), (.getfield 0, 11, 1, 0, 384, 1), (.iload 1, 0, 0, 0, 0, 4), (.invokevirtual 11, 2, 1, 1, 612, 5), (.ifCond .eq 0, 0, 5, 0, 0, 8), (.iload 2, 0, 0, 0, 0, 11), (.ifCond .lt 0, 0, 3, 0, 0, 12), (.iload 2, 0, 0, 0, 0, 15), (.iconst 5, 0, 0, 0, 0, 16), (.if_icmp .le 0, 0, 1, 0, 0, 17), (.athrow, 0, 0, 0, 0, 20), (.iload 2, 0, 0, 0, 0, 28), (.lookupswitch 27 #[(0, 0), (1, 5), (2, 10), (3, 15), (4, 20)], 0, 0, 0, 0, 29), (.aload 0, 0, 0, 0, 0, 64), (.getfield 0, 11, 1, 0, 384, 65), (.iload 1, 0, 0, 0, 0, 68), (.invokevirtual 14, 2, 1, 1, 1395, 69), (.ireturn, 0, 0, 0, 0, 72), (.aload 0, 0, 0, 0, 0, 73), (.getfield 0, 11, 1, 0, 384, 74), (.iload 1, 0, 0, 0, 0, 77), (.invokevirtual 15, 2, 1, 1, 604, 78), (.ireturn, 0, 0, 0, 0, 81), (.aload 0, 0, 0, 0, 0, 82), (.getfield 0, 11, 1, 0, 384, 83), (.iload 1, 0, 0, 0, 0, 86), (.invokevirtual 16, 2, 1, 1, 1396, 87), (.ireturn, 0, 0, 0, 0, 90), (.aload 0, 0, 0, 0, 0, 91), (.getfield 0, 11, 1, 0, 384, 92), (.iload 1, 0, 0, 0, 0, 95), (.invokevirtual 17, 2, 1, 1, 1223, 96), (.ireturn, 0, 0, 0, 0, 99), (.aload 0, 0, 0, 0, 0, 100), (.getfield 0, 11, 3, 0, 386, 101), (.aload 0, 0, 0, 0, 0, 104), (.getfield 0, 11, 1, 0, 384, 105), (.iload 1, 0, 0, 0, 0, 108), (.invokevirtual 134, 3, 1, 9, 1067, 109), (.ireturn, 0, 0, 0, 0, 112), (.aload 0, 0, 0, 0, 0, 113), (.getfield 0, 11, 1, 0, 384, 114), (.iload 1, 0, 0, 0, 0, 117), (.invokevirtual 27, 2, 1, 1, 1397, 118), (.invokestatic 0, 1, 1, 0, 1040, 121), (.ireturn, 0, 0, 0, 0, 124)], [([true, true, true], 0)])
def T_X11_guest : jT := ([(.aload 0, 0, 0, 0, 0, 0), (.getfield 0, 11, 1, 0, 384, 1), (.iload 1, 0, 0, 0, 0, 4), (.invokevirtual 12, 2, 1, 1, 1015, 5), (.ifCond .eq 0, 0, 5, 0, 0, 8), (.iload 2, 0, 0, 0, 0, 11), (.ifCond .lt 0, 0, 3, 0, 0, 12), (.iload 2, 0, 0, 0, 0, 15), (.iconst 1, 0, 0, 0, 0, 16), (.if_icmp .le 0, 0, 1, 0, 0, 17), (.athrow, 0, 0, 0, 0, 20), (.iload 2, 0, 0, 0, 0, 28), (.ifCond .ne 0, 0, 5, 0, 0, 29), (.aload 0, 0, 0, 0, 0, 32), (.getfield 0, 11, 1, 0, 384, 33), (.iload 1, 0, 0, 0, 0, 36), (.invokevirtual 18, 2, 1, 1, 1405, 37), (.goto 0, 0, 4, 0, 0, 40), (.aload 0, 0, 0, 0, 0, 43), (.getfield 0, 11, 1, 0, 384, 44), (.iload 1, 0, 0, 0, 0, 47), (.invokevirtual 19, 2, 1, 1, 1406, 48), (.ireturn, 0, 0, 0, 0, 51)], [([true, true, true], 0)])
def T_X11_joy : jT := ([(.aload 0, 0, 0, 0, 0, 0), (.getfield 0, 11, 1, 0, 384, 1), (.iload 1, 0, 0, 0, 0, 4), (.invokevirtual 12, 2, 1, 1, 1015, 5), (.ifCond .eq 0, 0, 5, 0, 0, 8), (.aload 0, 0, 0, 0, 0, 11), (.getfield 0, 11, 1, 0, 384, 12), (.iload 2, 0, 0, 0, 0, 15), (.invokevirtual 11, 2, 1, 1, 612, 16), (.ifCond .ne 0, 0, 1, 0, 0, 19), (.athrow, 0, 0, 0, 0, 22), (.aload 0, 0, 0, 0, 0, 30), (.getfield 0, 11, 3, 0, 386, 31), (.aload 0, 0, 0, 0, 0, 34), (.getfield 0, 11, 1, 0, 384, 35), (.iload 1, 0, 0, 0, 0, 38), (.iload 2, 0, 0, 0, 0, 39), (.invokevirtual 133, 4, 1, 9, 1123, 40), (.ireturn, 0, 0, 0, 0, 43)], [([true, true, true], 0)])
def T_X11_law : jT := ([(.iload 1, 0, 0, 0, 0, 0), (.iload 2, 0, 0, 0, 0, 1), (.invokestatic 34, 2, 1, 2, 567, 2), (.ifCond .eq 0, 0, 6, 0, 0, 5), (.aload 0, 0, 0, 0, 0, 8), (.getfield 0, 11, 4, 0, 387, 9), (.iload 1, 0, 0, 0, 0, 12), (.iload 2, 0, 0, 0, 0, 13), (.invokevirtual 38, 3, 1, 2, 570, 14), (.goto 0, 0, 1, 0, 0, 17), (.iconst (-1), 0, 0, 0, 0, 20), (.ireturn, 0, 0, 0, 0, 21)], [([true, true, true], 0)])
def T_X11_store : jT := ([(.iload 1, 0, 0, 0, 0, 0), (.ifCond .lt 0, 0, 10, 0, 0, 1), (.iload 1, 0, 0, 0, 0, 4), (.iconst 8, 0, 0, 0, 0, 5), (.if_icmp .ge 0, 0, 7, 0, 0, 7), (.iload 2, 0, 0, 0, 0, 10), (.ifCond .lt 0, 0, 5, 0, 0, 11), (.iload 2, 0, 0, 0, 0, 14), (.iconst 99, 0, 0, 0, 0, 15), (.if_icmp .gt 0, 0, 2, 0, 0, 17), (.iconst 1, 0, 0, 0, 0, 20), (.goto 0, 0, 1, 0, 0, 21), (.iconst 0, 0, 0, 0, 0, 24), (.istore 3, 0, 0, 0, 0, 25), (.iload 3, 0, 0, 0, 0, 26), (.ifCond .eq 0, 0, 6, 0, 0, 27), (.aload 0, 0, 0, 0, 0, 30), (.getfield 0, 11, 4, 0, 387, 31), (.iload 1, 0, 0, 0, 0, 34), (.iload 2, 0, 0, 0, 0, 35), (.invokevirtual 39, 3, 1, 2, 578, 36), (.goto 0, 0, 1, 0, 0, 39), (.iconst (-1), 0, 0, 0, 0, 42), (.ireturn, 0, 0, 0, 0, 43)], [([true, true, true, true], 0)])
def T_X11_sheet : jT := ([(.iload 1, 0, 0, 0, 0, 0), (.ifCond .lt 0, 0, 6, 0, 0, 1), (.iload 1, 0, 0, 0, 0, 4), (.iconst 3, 0, 0, 0, 0, 5), (.if_icmp .gt 0, 0, 3, 0, 0, 6), (.iload 2, 0, 0, 0, 0, 9), (.iconst 10, 0, 0, 0, 0, 10), (.if_icmp .le 0, 0, 2, 0, 0, 12), (.iconst (-1), 0, 0, 0, 0, 15), (.ireturn, 0, 0, 0, 0, 16), (.iload 1, 0, 0, 0, 0, 17), (.iconst 3, 0, 0, 0, 0, 18), (.if_icmp .ge 0, 0, 4, 0, 0, 19), (.iload 2, 0, 0, 0, 0, 22), (.ifCond .ge 0, 0, 2, 0, 0, 23), (.iconst (-2), 0, 0, 0, 0, 26), (.ireturn, 0, 0, 0, 0, 28), (.iload 1, 0, 0, 0, 0, 29), (.iconst 3, 0, 0, 0, 0, 30), (.if_icmp .ne 0, 0, 2, 0, 0, 31), (.iconst 0, 0, 0, 0, 0, 34), (.goto 0, 0, 1, 0, 0, 35), (.iload 2, 0, 0, 0, 0, 38), (.istore 5, 0, 0, 0, 0, 39), (.iconst 0, 0, 0, 0, 0, 41), (.istore 6, 0, 0, 0, 0, 42), (.iconst 0, 0, 0, 0, 0, 44), (.istore 7, 0, 0, 0, 0, 45), (.nop, 1, 0, 0, 0, 47), (.iload 7, 0, 0, 0, 0, 47), (.aload 0, 0, 0, 0, 0, 49), (.getfield 0, 11, 1, 0, 384, 50), (.invokevirtual 9, 1, 1, 1, 586, 53), (.if_icmp .ge 0, 0, 25, 0, 0, 56), (.aload 0, 0, 0, 0, 0, 59), (.getfield 0, 11, 1, 0, 384, 60), (.iload 7, 0, 0, 0, 0, 63), (.iload 7, 0, 0, 0, 0, 65), (.iload 5, 0, 0, 0, 0, 67), (.if_icmp .ge 0, 0, 8, 0, 0, 69), (.iload 1, 0, 0, 0, 0, 72), (.iload 3, 0, 0, 0, 0, 73), (.iload 7, 0, 0, 0, 0, 74), (.iload 4, 0, 0, 0, 0, 76), (.imul, 0, 0, 0, 0, 78), (.iadd, 0, 0, 0, 0, 79), (.invokestatic 155, 2, 1, 11, 587, 80), (.goto 0, 0, 1, 0, 0, 83), (.iconst 0, 0, 0, 0, 0, 86), (.invokevirtual 24, 3, 0, 1, 596, 87), (.iload 6, 0, 0, 0, 0, 90), (.aload 0, 0, 0, 0, 0, 92), (.getfield 0, 11, 1, 0, 384, 93), (.iload 7, 0, 0, 0, 0, 96), (.invokevirtual 15, 2, 1, 1, 604, 98), (.iadd, 0, 0, 0, 0, 101), (.istore 6, 0, 0, 0, 0, 102), (.iinc 7 1, 0, 0, 0, 0, 104), (.goto 0, 1, 1, 0, 0, 107), (.iload 1, 0, 0, 0, 0, 110), (.iconst 3, 0, 0, 0, 0, 111), (.if_icmp .ne 0, 0, 2, 0, 0, 112), (.iconst (-3), 0, 0, 0, 0, 115), (.goto 0, 0, 1, 0, 0, 117), (.iload 6, 0, 0, 0, 0, 120), (.ireturn, 0, 0, 0, 0, 122)], [([true, true, true, true, true, true, true, true], 0), ([true, true, false, true, true, true, true, true], 29)])
def T_X11_asEntry : jT := ([(.iload 0, 0, 0, 0, 0, 0), (.ifCond .ne 0, 0, 3, 0, 0, 1), (.iload 1, 0, 0, 0, 0, 4), (.i2b, 0, 0, 0, 0, 5), (.goto 0, 0, 7, 0, 0, 6), (.iload 0, 0, 0, 0, 0, 9), (.iconst 1, 0, 0, 0, 0, 10), (.if_icmp .ne 0, 0, 3, 0, 0, 11), (.iload 1, 0, 0, 0, 0, 14), (.i2s, 0, 0, 0, 0, 15), (.goto 0, 0, 1, 0, 0, 16), (.iload 1, 0, 0, 0, 0, 19), (.istore 2, 0, 0, 0, 0, 20), (.iconst 0, 0, 0, 0, 0, 21), (.iconst 99, 0, 0, 0, 0, 22), (.iload 2, 0, 0, 0, 0, 24), (.lsub, 0, 0, 0, 590, 25), (.lmul, 0, 0, 0, 593, 28), (.ireturn, 0, 0, 0, 0, 31)], [([true, true, true], 0)])
def T_X11_serve : jT := ([(.aload 0, 0, 0, 0, 0, 0), (.getfield 0, 11, 1, 0, 384, 1), (.iload 1, 0, 0, 0, 0, 4), (.invokevirtual 11, 2, 1, 1, 612, 5), (.ifCond .ne 0, 0, 2, 0, 0, 8), (.iconst (-1), 0, 0, 0, 0, 11), (.ireturn, 0, 0, 0, 0, 12), (.aload 0, 0, 0, 0, 0, 13), (.getfield 0, 11, 4, 0, 387, 14), (.aload 0, 0, 0, 0, 0, 17), (.getfield 0, 11, 1, 0, 384, 18), (.aload 0, 0, 0, 0, 0, 21), (.getfield 0, 11, 6, 0, 389, 22), (.invokevirtual 3, 1, 1, 0, 613, 25), (.aload 0, 0, 0, 0, 0, 28), (.getfield 0, 11, 6, 0, 389, 29), (.invokevirtual 4, 1, 1, 0, 617, 32), (.iload 1, 0, 0, 0, 0, 35), (.invokevirtual 42, 5, 1, 2, 621, 36), (.istore 2, 0, 0, 0, 0, 39), (.iload 2, 0, 0, 0, 0, 40), (.ifCond .eq 0, 0, 2, 0, 0, 41), (.iload 2, 0, 0, 0, 0, 44), (.ireturn, 0, 0, 0, 0, 45), (.aload 0, 0, 0, 0, 0, 46), (.getfield 0, 11, 6, 0, 389, 47), (.iload 1, 0, 0, 0, 0, 50), (.invokevirtual 5, 2, 0, 0, 656, 51), (.aload 0, 0, 0, 0, 0, 54), (.getfield 0, 11, 6, 0, 389, 55), (.invokevirtual 2, 1, 1, 0, 660, 58), (.ireturn, 0, 0, 0, 0, 61)], [([true, true, true], 0)])
def T_X11_back : jT := ([(.aload 0, 0, 0, 0, 0, 0), (.getfield 0, 11, 6, 0, 389, 1), (.invokevirtual 6, 1, 1, 0, 668, 4), (.ireturn, 0, 0, 0, 0, 7)], [([true], 0)])
def T_X11_over : jT := ([(.aload 0, 0, 0, 0, 0, 0), (.getfield 0, 11, 6, 0, 389, 1), (.invokevirtual 2, 1, 1, 0, 660, 4), (.istore 1, 0, 0, 0, 0, 7), (.aload 0, 0, 0, 0, 0, 8), (.getfield 0, 11, 4, 0, 387, 9), (.aload 0, 0, 0, 0, 0, 12), (.getfield 0, 11, 1, 0, 384, 13), (.aload 0, 0, 0, 0, 0, 16), (.getfield 0, 11, 6, 0, 389, 17), (.invokevirtual 3, 1, 1, 0, 613, 20), (.invokevirtual 41, 3, 0, 2, 677, 23), (.aload 0, 0, 0, 0, 0, 26), (.getfield 0, 11, 6, 0, 389, 27), (.invokevirtual 7, 1, 0, 0, 682, 30), (.iload 1, 0, 0, 0, 0, 33), (.ireturn, 0, 0, 0, 0, 34)], [([true, true], 0)])
def T_X11_can : jT := ([(.iconst 0, 0, 0, 0, 0, 0), (.istore 1, 0, 0, 0, 0, 1), (.iconst 0, 0, 0, 0, 0, 2), (.istore 2, 0, 0, 0, 0, 3), (.nop, 1, 0, 0, 0, 4), (.iload 2, 0, 0, 0, 0, 4), (.aload 0, 0, 0, 0, 0, 5), (.getfield 0, 11, 1, 0, 384, 6), (.invokevirtual 9, 1, 1, 1, 586, 9), (.if_icmp .ge 0, 0, 21, 0, 0, 12), (.aload 0, 0, 0, 0, 0, 15), (.getfield 0, 11, 4, 0, 387, 16), (.aload 0, 0, 0, 0, 0, 19), (.getfield 0, 11, 1, 0, 384, 20), (.aload 0, 0, 0, 0, 0, 23), (.getfield 0, 11, 6, 0, 389, 24), (.invokevirtual 3, 1, 1, 0, 613, 27), (.aload 0, 0, 0, 0, 0, 30), (.getfield 0, 11, 6, 0, 389, 31), (.invokevirtual 4, 1, 1, 0, 617, 34), (.iload 2, 0, 0, 0, 0, 37), (.invokevirtual 42, 5, 1, 2, 621, 38), (.ifCond .ne 0, 0, 6, 0, 0, 41), (.iload 1, 0, 0, 0, 0, 44), (.iconst 1, 0, 0, 0, 0, 45), (.iload 2, 0, 0, 0, 0, 46), (.ishl, 0, 0, 0, 0, 47), (.ior, 0, 0, 0, 0, 48), (.istore 1, 0, 0, 0, 0, 49), (.iinc 2 1, 0, 0, 0, 0, 50), (.goto 0, 1, 1, 0, 0, 53), (.iload 1, 0, 0, 0, 0, 56), (.ireturn, 0, 0, 0, 0, 57)], [([true, true, true], 0), ([true, true, true], 5)])
def T_X11_menu : jT := ([(.iload 1, 0, 0, 0, 0, 0), (.ifCond .lt 0, 0, 14, 0, 0, 1), (.iload 1, 0, 0, 0, 0, 4), (.iconst 3, 0, 0, 0, 0, 5), (.if_icmp .ge 0, 0, 11, 0, 0, 6), (.aload 0, 0, 0, 0, 0, 9), (.getfield 0, 11, 7, 0, 390, 10), (.iload 1, 0, 0, 0, 0, 13), (.aaload, 24, 0, 0, 0, 14), (.aload 0, 0, 0, 0, 0, 15), (.getfield 0, 11, 0, 0, 383, 16), (.aload 0, 0, 0, 0, 0, 19), (.getfield 0, 11, 1, 0, 384, 20), (.invokevirtual 9, 1, 1, 1, 586, 23), (.invokevirtual 63, 3, 1, 4, 694, 26), (.goto 0, 0, 1, 0, 0, 29), (.iconst (-100), 0, 0, 0, 0, 32), (.istore 2, 0, 0, 0, 0, 34), (.aload 0, 0, 0, 0, 0, 35), (.getfield 0, 11, 0, 0, 383, 36), (.invokevirtual 142, 1, 0, 10, 510, 39), (.iload 2, 0, 0, 0, 0, 42), (.ireturn, 0, 0, 0, 0, 43)], [([true, true, true], 0)])
def T_X11_look : jT := ([(.aload 0, 0, 0, 0, 0, 0), (.iload 1, 0, 0, 0, 0, 1), (.invokevirtual 166, 2, 1, 11, 704, 2), (.ifCond .ne 0, 0, 2, 0, 0, 5), (.iconst (-3), 0, 0, 0, 0, 8), (.ireturn, 0, 0, 0, 0, 10), (.aload 0, 0, 0, 0, 0, 11), (.getfield 0, 11, 7, 0, 390, 12), (.iload 1, 0, 0, 0, 0, 15), (.aaload, 24, 0, 0, 0, 16), (.astore 2, 0, 0, 0, 0, 17), (.aload 2, 0, 0, 0, 0, 18), (.aload 0, 0, 0, 0, 0, 19), (.getfield 0, 11, 1, 0, 384, 20), (.aload 0, 0, 0, 0, 0, 23), (.getfield 0, 11, 4, 0, 387, 24), (.invokevirtual 67, 3, 1, 4, 712, 27), (.istore 3, 0, 0, 0, 0, 30), (.iload 3, 0, 0, 0, 0, 31), (.iconst (-1), 0, 0, 0, 0, 32), (.if_icmp .ne 0, 0, 3, 0, 0, 33), (.aload 2, 0, 0, 0, 0, 36), (.invokevirtual 58, 1, 1, 4, 708, 37), (.goto 0, 0, 1, 0, 0, 40), (.iload 3, 0, 0, 0, 0, 43), (.istore 4, 0, 0, 0, 0, 44), (.aload 0, 0, 0, 0, 0, 46), (.getfield 0, 11, 15, 0, 398, 47), (.invokevirtual 104, 1, 0, 7, 729, 50), (.aload 0, 0, 0, 0, 0, 53), (.getfield 0, 11, 15, 0, 398, 54), (.aload 2, 0, 0, 0, 0, 57), (.iload 4, 0, 0, 0, 0, 58), (.aload 0, 0, 0, 0, 0, 60), (.getfield 0, 11, 1, 0, 384, 61), (.aload 0, 0, 0, 0, 0, 64), (.getfield 0, 11, 4, 0, 387, 65), (.invokevirtual 68, 4, 1, 4, 733, 68), (.invokevirtual 105, 2, 0, 7, 734, 71), (.aload 0, 0, 0, 0, 0, 74), (.getfield 0, 11, 15, 0, 398, 75), (.aload 2, 0, 0, 0, 0, 78), (.iload 4, 0, 0, 0, 0, 79), (.aload 0, 0, 0, 0, 0, 81), (.getfield 0, 11, 1, 0, 384, 82), (.invokevirtual 70, 3, 1, 4, 738, 85), (.invokevirtual 105, 2, 0, 7, 734, 88), (.aload 0, 0, 0, 0, 0, 91), (.getfield 0, 11, 15, 0, 398, 92), (.aload 2, 0, 0, 0, 0, 95), (.iload 4, 0, 0, 0, 0, 96), (.aload 0, 0, 0, 0, 0, 98), (.getfield 0, 11, 1, 0, 384, 99), (.invokevirtual 71, 3, 1, 4, 743, 102), (.invokevirtual 105, 2, 0, 7, 734, 105), (.iload 3, 0, 0, 0, 0, 108), (.iconst (-1), 0, 0, 0, 0, 109), (.if_icmp .ne 0, 0, 2, 0, 0, 110), (.iconst (-2), 0, 0, 0, 0, 113), (.goto 0, 0, 1, 0, 0, 115), (.iload 3, 0, 0, 0, 0, 118), (.ireturn, 0, 0, 0, 0, 119)], [([true, true, true, true, true], 0)])
def T_X11_swap : jT := ([(.iload 1, 0, 0, 0, 0, 0), (.ifCond .lt 0, 0, 13, 0, 0, 1), (.iload 1, 0, 0, 0, 0, 4), (.iconst 3, 0, 0, 0, 0, 5), (.if_icmp .ge 0, 0, 10, 0, 0, 6), (.aload 0, 0, 0, 0, 0, 9), (.getfield 0, 11, 7, 0, 390, 10), (.iload 1, 0, 0, 0, 0, 13), (.aaload, 24, 0, 0, 0, 14), (.iload 2, 0, 0, 0, 0, 15), (.iload 3, 0, 0, 0, 0, 16), (.invokevirtual 64, 3, 1, 4, 767, 17), (.ifCond .eq 0, 0, 2, 0, 0, 20), (.iconst 1, 0, 0, 0, 0, 23), (.goto 0, 0, 1, 0, 0, 24), (.iconst 0, 0, 0, 0, 0, 27), (.ireturn, 1, 0, 0, 0, 28)], [([true, true, true, true], 0)])
def T_X11_turn : jT := ([(.aload 0, 0, 0, 0, 0, 0), (.iload 1, 0, 0, 0, 0, 1), (.invokevirtual 166, 2, 1, 11, 704, 2), (.ifCond .ne 0, 0, 2, 0, 0, 5), (.iconst 0, 0, 0, 0, 0, 8), (.ireturn, 1, 0, 0, 0, 9), (.aload 0, 0, 0, 0, 0, 10), (.getfield 0, 11, 7, 0, 390, 11), (.iload 1, 0, 0, 0, 0, 14), (.aaload, 24, 0, 0, 0, 15), (.invokevirtual 65, 1, 0, 4, 779, 16), (.iconst 1, 0, 0, 0, 0, 19), (.ireturn, 1, 0, 0, 0, 20)], [([true, true], 0)])
def T_X11_joined : jT := ([(.aload 0, 0, 0, 0, 0, 0), (.iload 1, 0, 0, 0, 0, 1), (.invokevirtual 167, 2, 1, 11, 788, 2), (.ifCond .eq 0, 0, 4, 0, 0, 5), (.aload 0, 0, 0, 0, 0, 8), (.iload 2, 0, 0, 0, 0, 9), (.invokevirtual 167, 2, 1, 11, 788, 10), (.ifCond .ne 0, 0, 2, 0, 0, 13), (.iconst (-3), 0, 0, 0, 0, 16), (.ireturn, 0, 0, 0, 0, 18), (.aload 0, 0, 0, 0, 0, 19), (.getfield 0, 11, 8, 0, 391, 20), (.invokevirtual 61, 1, 0, 4, 796, 23), (.aload 0, 0, 0, 0, 0, 26), (.getfield 0, 11, 8, 0, 391, 27), (.aload 0, 0, 0, 0, 0, 30), (.getfield 0, 11, 7, 0, 390, 31), (.iload 1, 0, 0, 0, 0, 34), (.aaload, 24, 0, 0, 0, 35), (.invokevirtual 62, 2, 0, 4, 800, 36), (.aload 0, 0, 0, 0, 0, 39), (.getfield 0, 11, 8, 0, 391, 40), (.aload 0, 0, 0, 0, 0, 43), (.getfield 0, 11, 7, 0, 390, 44), (.iload 2, 0, 0, 0, 0, 47), (.aaload, 24, 0, 0, 0, 48), (.invokevirtual 62, 2, 0, 4, 800, 49), (.aload 0, 0, 0, 0, 0, 52), (.getfield 0, 11, 8, 0, 391, 53), (.aload 0, 0, 0, 0, 0, 56), (.getfield 0, 11, 1, 0, 384, 57), (.aload 0, 0, 0, 0, 0, 60), (.getfield 0, 11, 4, 0, 387, 61), (.invokevirtual 67, 3, 1, 4, 712, 64), (.istore 3, 0, 0, 0, 0, 67), (.aload 0, 0, 0, 0, 0, 68), (.getfield 0, 11, 15, 0, 398, 69), (.invokevirtual 104, 1, 0, 7, 729, 72), (.aload 0, 0, 0, 0, 0, 75), (.getfield 0, 11, 15, 0, 398, 76), (.iload 3, 0, 0, 0, 0, 79), (.iconst (-1), 0, 0, 0, 0, 80), (.if_icmp .ne 0, 0, 2, 0, 0, 81), (.iconst 0, 0, 0, 0, 0, 84), (.goto 0, 0, 8, 0, 0, 85), (.aload 0, 0, 0, 0, 0, 88), (.getfield 0, 11, 8, 0, 391, 89), (.iload 3, 0, 0, 0, 0, 92), (.aload 0, 0, 0, 0, 0, 93), (.getfield 0, 11, 1, 0, 384, 94), (.aload 0, 0, 0, 0, 0, 97), (.getfield 0, 11, 4, 0, 387, 98), (.invokevirtual 68, 4, 1, 4, 733, 101), (.invokevirtual 105, 2, 0, 7, 734, 104), (.iload 3, 0, 0, 0, 0, 107), (.iconst (-1), 0, 0, 0, 0, 108), (.if_icmp .ne 0, 0, 2, 0, 0, 109), (.iconst (-2), 0, 0, 0, 0, 112), (.goto 0, 0, 1, 0, 0, 114), (.iload 3, 0, 0, 0, 0, 117), (.ireturn, 0, 0, 0, 0, 118)], [([true, true, true, true], 0)])
def T_X11_falls : jT := ([(.iconst 0, 0, 0, 0, 0, 0), (.iload 1, 0, 0, 0, 0, 1), (.invokestatic 34, 2, 1, 2, 567, 2), (.ifCond .eq 0, 0, 8, 0, 0, 5), (.iconst 1, 0, 0, 0, 0, 8), (.iload 2, 0, 0, 0, 0, 9), (.invokestatic 34, 2, 1, 2, 567, 10), (.ifCond .eq 0, 0, 4, 0, 0, 13), (.iconst 2, 0, 0, 0, 0, 16), (.iload 3, 0, 0, 0, 0, 17), (.invokestatic 34, 2, 1, 2, 567, 18), (.ifCond .ne 0, 0, 2, 0, 0, 21), (.iconst (-1), 0, 0, 0, 0, 24), (.ireturn, 0, 0, 0, 0, 25), (.aload 0, 0, 0, 0, 0, 26), (.getfield 0, 11, 5, 0, 388, 27), (.aload 0, 0, 0, 0, 0, 30), (.getfield 0, 11, 4, 0, 387, 31), (.invokevirtual 40, 2, 0, 2, 808, 34), (.aload 0, 0, 0, 0, 0, 37), (.getfield 0, 11, 5, 0, 388, 38), (.iconst 0, 0, 0, 0, 0, 41), (.iload 1, 0, 0, 0, 0, 42), (.invokevirtual 38, 3, 1, 2, 570, 43), (.pop, 0, 0, 0, 0, 46), (.aload 0, 0, 0, 0, 0, 47), (.getfield 0, 11, 5, 0, 388, 48), (.iconst 1, 0, 0, 0, 0, 51), (.iload 2, 0, 0, 0, 0, 52), (.invokevirtual 38, 3, 1, 2, 570, 53), (.pop, 0, 0, 0, 0, 56), (.aload 0, 0, 0, 0, 0, 57), (.getfield 0, 11, 5, 0, 388, 58), (.iconst 2, 0, 0, 0, 0, 61), (.iload 3, 0, 0, 0, 0, 62), (.invokevirtual 38, 3, 1, 2, 570, 63), (.pop, 0, 0, 0, 0, 66), (.iconst 0, 0, 0, 0, 0, 67), (.istore 4, 0, 0, 0, 0, 68), (.iconst 0, 0, 0, 0, 0, 70), (.istore 5, 0, 0, 0, 0, 71), (.nop, 1, 0, 0, 0, 73), (.iload 5, 0, 0, 0, 0, 73), (.iconst 3, 0, 0, 0, 0, 75), (.if_icmp .ge 0, 0, 34, 0, 0, 76), (.aload 0, 0, 0, 0, 0, 79), (.iload 5, 0, 0, 0, 0, 80), (.invokevirtual 167, 2, 1, 11, 788, 82), (.ifCond .eq 0, 0, 28, 0, 0, 85), (.aload 0, 0, 0, 0, 0, 88), (.getfield 0, 11, 7, 0, 390, 89), (.iload 5, 0, 0, 0, 0, 92), (.aaload, 24, 0, 0, 0, 94), (.aload 0, 0, 0, 0, 0, 95), (.getfield 0, 11, 1, 0, 384, 96), (.aload 0, 0, 0, 0, 0, 99), (.getfield 0, 11, 4, 0, 387, 100), (.invokevirtual 67, 3, 1, 4, 712, 103), (.iconst (-1), 0, 0, 0, 0, 106), (.if_icmp .ne 0, 0, 17, 0, 0, 107), (.aload 0, 0, 0, 0, 0, 110), (.getfield 0, 11, 7, 0, 390, 111), (.iload 5, 0, 0, 0, 0, 114), (.aaload, 24, 0, 0, 0, 116), (.aload 0, 0, 0, 0, 0, 117), (.getfield 0, 11, 1, 0, 384, 118), (.aload 0, 0, 0, 0, 0, 121), (.getfield 0, 11, 5, 0, 388, 122), (.invokevirtual 67, 3, 1, 4, 712, 125), (.iconst (-1), 0, 0, 0, 0, 128), (.if_icmp .eq 0, 0, 6, 0, 0, 129), (.iload 4, 0, 0, 0, 0, 132), (.iconst 1, 0, 0, 0, 0, 134), (.iload 5, 0, 0, 0, 0, 135), (.ishl, 0, 0, 0, 0, 137), (.ior, 0, 0, 0, 0, 138), (.istore 4, 0, 0, 0, 0, 139), (.iinc 5 1, 0, 0, 0, 0, 141), (.goto 0, 1, 1, 0, 0, 144), (.iload 4, 0, 0, 0, 0, 147), (.ireturn, 0, 0, 0, 0, 149)], [([true, true, true, true, true, true], 0), ([true, false, false, false, true, true], 42)])
def T_X11_isLaid : jT := ([(.iload 1, 0, 0, 0, 0, 0), (.ifCond .lt 0, 0, 11, 0, 0, 1), (.iload 1, 0, 0, 0, 0, 4), (.iconst 3, 0, 0, 0, 0, 5), (.if_icmp .ge 0, 0, 8, 0, 0, 6), (.aload 0, 0, 0, 0, 0, 9), (.getfield 0, 11, 7, 0, 390, 10), (.iload 1, 0, 0, 0, 0, 13), (.aaload, 24, 0, 0, 0, 14), (.invokevirtual 58, 1, 1, 4, 708, 15), (.ifCond .le 0, 0, 2, 0, 0, 18), (.iconst 1, 0, 0, 0, 0, 21), (.goto 0, 0, 1, 0, 0, 22), (.iconst 0, 0, 0, 0, 0, 25), (.ireturn, 1, 0, 0, 0, 26)], [([true, true], 0)])
def T_X11_isWhole : jT := ([(.aload 0, 0, 0, 0, 0, 0), (.iload 1, 0, 0, 0, 0, 1), (.invokevirtual 166, 2, 1, 11, 704, 2), (.ifCond .eq 0, 0, 8, 0, 0, 5), (.aload 0, 0, 0, 0, 0, 8), (.getfield 0, 11, 7, 0, 390, 9), (.iload 1, 0, 0, 0, 0, 12), (.aaload, 24, 0, 0, 0, 13), (.invokevirtual 60, 1, 1, 4, 792, 14), (.ifCond .eq 0, 0, 2, 0, 0, 17), (.iconst 1, 0, 0, 0, 0, 20), (.goto 0, 0, 1, 0, 0, 21), (.iconst 0, 0, 0, 0, 0, 24), (.ireturn, 1, 0, 0, 0, 25)], [([true, true], 0)])
def T_X11_longest : jT := ([(.aload 0, 0, 0, 0, 0, 0), (.iconst 1023, 0, 0, 0, 0, 1), (.invokevirtual 178, 2, 0, 11, 817, 4), (.aload 0, 0, 0, 0, 0, 7), (.invokevirtual 180, 1, 1, 11, 868, 8), (.ireturn, 0, 0, 0, 0, 11)], [([true], 0)])
def T_X11_ways : jT := ([(.iload 1, 0, 0, 0, 0, 0), (.ifCond .lt 0, 0, 3, 0, 0, 1), (.iload 1, 0, 0, 0, 0, 4), (.iconst 10, 0, 0, 0, 0, 5), (.if_icmp .le 0, 0, 2, 0, 0, 7), (.sipush (-1), 0, 0, 0, 957, 10), (.lreturn, 0, 0, 0, 0, 13), (.aload 0, 0, 0, 0, 0, 14), (.iconst 1023, 0, 0, 0, 0, 15), (.invokevirtual 178, 2, 0, 11, 817, 18), (.aload 0, 0, 0, 0, 0, 21), (.getfield 0, 11, 14, 0, 397, 22), (.aload 0, 0, 0, 0, 0, 25), (.getfield 0, 11, 12, 0, 395, 26), (.iload 1, 0, 0, 0, 0, 29), (.invokevirtual 46, 3, 2, 3, 958, 30), (.lreturn, 0, 0, 0, 0, 33)], [([true, true], 0)])
def T_X11_between : jT := ([(.aload 0, 0, 0, 0, 0, 0), (.iload 1, 0, 0, 0, 0, 1), (.iload 2, 0, 0, 0, 0, 2), (.iconst 1, 0, 0, 0, 0, 3), (.invokevirtual 181, 4, 1, 11, 990, 4), (.ireturn, 0, 0, 0, 0, 7)], [([true, true, true], 0)])
def T_X11_shortest : jT := ([(.aload 0, 0, 0, 0, 0, 0), (.iload 1, 0, 0, 0, 0, 1), (.iload 2, 0, 0, 0, 0, 2), (.iconst (-1), 0, 0, 0, 0, 3), (.invokevirtual 181, 4, 1, 11, 990, 4), (.ireturn, 0, 0, 0, 0, 7)], [([true, true, true], 0)])
def T_X11_bears : jT := ([(.aload 0, 0, 0, 0, 0, 0), (.getfield 0, 11, 1, 0, 384, 1), (.iload 1, 0, 0, 0, 0, 4), (.invokevirtual 12, 2, 1, 1, 1015, 5), (.ifCond .ne 0, 0, 2, 0, 0, 8), (.iconst (-1), 0, 0, 0, 0, 11), (.ireturn, 0, 0, 0, 0, 12), (.aload 0, 0, 0, 0, 0, 13), (.aload 0, 0, 0, 0, 0, 14), (.getfield 0, 11, 1, 0, 384, 15), (.iload 1, 0, 0, 0, 0, 18), (.invokevirtual 28, 2, 1, 1, 1016, 19), (.iconst (-1), 0, 0, 0, 0, 22), (.ixor, 0, 0, 0, 0, 23), (.invokevirtual 178, 2, 0, 11, 817, 24), (.aload 0, 0, 0, 0, 0, 27), (.invokevirtual 180, 1, 1, 11, 868, 28), (.ireturn, 0, 0, 0, 0, 31)], [([true, true], 0)])
def T_X11_beside : jT := ([(.aload 0, 0, 0, 0, 0, 0), (.getfield 0, 11, 1, 0, 384, 1), (.iload 1, 0, 0, 0, 0, 4), (.invokevirtual 11, 2, 1, 1, 612, 5), (.ifCond .eq 0, 0, 8, 0, 0, 8), (.aload 0, 0, 0, 0, 0, 11), (.getfield 0, 11, 1, 0, 384, 12), (.iload 1, 0, 0, 0, 0, 15), (.aload 0, 0, 0, 0, 0, 16), (.getfield 0, 11, 4, 0, 387, 17), (.invokevirtual 35, 1, 1, 2, 1024, 20), (.invokevirtual 32, 3, 1, 1, 1025, 23), (.goto 0, 0, 1, 0, 0, 26), (.iconst (-1), 0, 0, 0, 0, 29), (.ireturn, 0, 0, 0, 0, 30)], [([true, true], 0)])
def T_X11_parts : jT := ([(.aload 0, 0, 0, 0, 0, 0), (.getfield 0, 11, 15, 0, 398, 1), (.invokevirtual 104, 1, 0, 7, 729, 4), (.iconst 0, 0, 0, 0, 0, 7), (.istore 1, 0, 0, 0, 0, 8), (.iconst 0, 0, 0, 0, 0, 9), (.istore 2, 0, 0, 0, 0, 10), (.nop, 1, 0, 0, 0, 11), (.iload 2, 0, 0, 0, 0, 11), (.aload 0, 0, 0, 0, 0, 12), (.getfield 0, 11, 1, 0, 384, 13), (.invokevirtual 9, 1, 1, 1, 586, 16), (.if_icmp .ge 0, 0, 24, 0, 0, 19), (.iload 1, 0, 0, 0, 0, 22), (.iload 2, 0, 0, 0, 0, 23), (.ishr, 0, 0, 0, 0, 24), (.iconst 1, 0, 0, 0, 0, 25), (.iand, 0, 0, 0, 0, 26), (.ifCond .ne 0, 0, 16, 0, 0, 27), (.aload 0, 0, 0, 0, 0, 30), (.getfield 0, 11, 1, 0, 384, 31), (.iload 2, 0, 0, 0, 0, 34), (.aload 0, 0, 0, 0, 0, 35), (.getfield 0, 11, 4, 0, 387, 36), (.invokevirtual 35, 1, 1, 2, 1024, 39), (.invokevirtual 33, 3, 1, 1, 1030, 42), (.istore 3, 0, 0, 0, 0, 45), (.iload 1, 0, 0, 0, 0, 46), (.iload 3, 0, 0, 0, 0, 47), (.ior, 0, 0, 0, 0, 48), (.istore 1, 0, 0, 0, 0, 49), (.aload 0, 0, 0, 0, 0, 50), (.getfield 0, 11, 15, 0, 398, 51), (.iload 3, 0, 0, 0, 0, 54), (.invokevirtual 105, 2, 0, 7, 734, 55), (.iinc 2 1, 0, 0, 0, 0, 58), (.goto 0, 1, 1, 0, 0, 61), (.aload 0, 0, 0, 0, 0, 64), (.getfield 0, 11, 15, 0, 398, 65), (.invokevirtual 102, 1, 1, 7, 949, 68), (.ireturn, 0, 0, 0, 0, 71)], [([true, true, true, true], 0), ([true, true, true, false], 8)])
def T_X11_rare : jT := ([(.iconst (-1), 0, 0, 0, 0, 0), (.istore 1, 0, 0, 0, 0, 1), (.iconst 11, 0, 0, 0, 0, 2), (.istore 2, 0, 0, 0, 0, 4), (.iconst 0, 0, 0, 0, 0, 5), (.istore 3, 0, 0, 0, 0, 6), (.nop, 1, 0, 0, 0, 7), (.iload 3, 0, 0, 0, 0, 7), (.iconst 8, 0, 0, 0, 0, 8), (.if_icmp .ge 0, 0, 17, 0, 0, 10), (.aload 0, 0, 0, 0, 0, 13), (.getfield 0, 11, 1, 0, 384, 14), (.iload 3, 0, 0, 0, 0, 17), (.invokevirtual 20, 2, 1, 1, 1039, 18), (.invokestatic 0, 1, 1, 0, 1040, 21), (.istore 4, 0, 0, 0, 0, 24), (.iload 4, 0, 0, 0, 0, 26), (.ifCond .le 0, 0, 7, 0, 0, 28), (.iload 4, 0, 0, 0, 0, 31), (.iload 2, 0, 0, 0, 0, 33), (.if_icmp .ge 0, 0, 4, 0, 0, 34), (.iload 4, 0, 0, 0, 0, 37), (.istore 2, 0, 0, 0, 0, 39), (.iload 3, 0, 0, 0, 0, 40), (.istore 1, 0, 0, 0, 0, 41), (.iinc 3 1, 0, 0, 0, 0, 42), (.goto 0, 1, 1, 0, 0, 45), (.iload 1, 0, 0, 0, 0, 48), (.iconst (-1), 0, 0, 0, 0, 49), (.if_icmp .ne 0, 0, 2, 0, 0, 50), (.iconst (-2), 0, 0, 0, 0, 53), (.ireturn, 0, 0, 0, 0, 55), (.aload 0, 0, 0, 0, 0, 56), (.getfield 0, 11, 15, 0, 398, 57), (.invokevirtual 104, 1, 0, 7, 729, 60), (.aload 0, 0, 0, 0, 0, 63), (.getfield 0, 11, 15, 0, 398, 64), (.aload 0, 0, 0, 0, 0, 67), (.getfield 0, 11, 1, 0, 384, 68), (.iload 1, 0, 0, 0, 0, 71), (.invokevirtual 20, 2, 1, 1, 1039, 72), (.invokevirtual 105, 2, 0, 7, 734, 75), (.iload 1, 0, 0, 0, 0, 78), (.ireturn, 0, 0, 0, 0, 79)], [([true, true, true, true, true], 0), ([true, true, true, true, false], 7)])
def T_X11_round : jT := ([(.aload 0, 0, 0, 0, 0, 0), (.aload 0, 0, 0, 0, 0, 1), (.getfield 0, 11, 4, 0, 387, 2), (.invokevirtual 179, 2, 0, 11, 994, 5), (.aload 0, 0, 0, 0, 0, 8), (.getfield 0, 11, 13, 0, 396, 9), (.invokevirtual 76, 1, 0, 5, 872, 12), (.aload 0, 0, 0, 0, 0, 15), (.getfield 0, 11, 13, 0, 396, 16), (.aload 0, 0, 0, 0, 0, 19), (.getfield 0, 11, 1, 0, 384, 20), (.iconst 1, 0, 0, 0, 0, 23), (.invokevirtual 79, 3, 0, 5, 877, 24), (.iconst (-1000000), 0, 0, 0, 1006, 27), (.istore 1, 0, 0, 0, 0, 30), (.iconst (-1), 0, 0, 0, 0, 31), (.istore 2, 0, 0, 0, 0, 32), (.iconst 0, 0, 0, 0, 0, 33), (.istore 3, 0, 0, 0, 0, 34), (.nop, 1, 0, 0, 0, 35), (.iload 3, 0, 0, 0, 0, 35), (.aload 0, 0, 0, 0, 0, 36), (.getfield 0, 11, 1, 0, 384, 37), (.invokevirtual 9, 1, 1, 1, 586, 40), (.if_icmp .ge 0, 0, 20, 0, 0, 43), (.aload 0, 0, 0, 0, 0, 46), (.iload 3, 0, 0, 0, 0, 47), (.invokevirtual 182, 2, 0, 11, 1045, 48), (.aload 0, 0, 0, 0, 0, 51), (.getfield 0, 11, 13, 0, 396, 52), (.aload 0, 0, 0, 0, 0, 55), (.getfield 0, 11, 12, 0, 395, 56), (.iconst 3, 0, 0, 0, 0, 59), (.iconst 10, 0, 0, 0, 0, 60), (.invokevirtual 82, 4, 1, 5, 1049, 62), (.istore 4, 0, 0, 0, 0, 65), (.iload 4, 0, 0, 0, 0, 67), (.iload 1, 0, 0, 0, 0, 69), (.if_icmp .le 0, 0, 4, 0, 0, 70), (.iload 4, 0, 0, 0, 0, 73), (.istore 1, 0, 0, 0, 0, 75), (.iload 3, 0, 0, 0, 0, 76), (.istore 2, 0, 0, 0, 0, 77), (.iinc 3 1, 0, 0, 0, 0, 78), (.goto 0, 1, 1, 0, 0, 81), (.iload 2, 0, 0, 0, 0, 84), (.iconst (-1), 0, 0, 0, 0, 85), (.if_icmp .ne 0, 0, 2, 0, 0, 86), (.iconst (-2), 0, 0, 0, 0, 89), (.ireturn, 0, 0, 0, 0, 91), (.aload 0, 0, 0, 0, 0, 92), (.iload 2, 0, 0, 0, 0, 93), (.invokevirtual 182, 2, 0, 11, 1045, 94), (.aload 0, 0, 0, 0, 0, 97), (.getfield 0, 11, 13, 0, 396, 98), (.aload 0, 0, 0, 0, 0, 101), (.getfield 0, 11, 12, 0, 395, 102), (.iload 1, 0, 0, 0, 0, 105), (.iload 1, 0, 0, 0, 0, 106), (.invokevirtual 83, 4, 1, 5, 890, 107), (.pop, 0, 0, 0, 0, 110), (.aload 0, 0, 0, 0, 0, 111), (.getfield 0, 11, 15, 0, 398, 112), (.invokevirtual 104, 1, 0, 7, 729, 115), (.aload 0, 0, 0, 0, 0, 118), (.getfield 0, 11, 13, 0, 396, 119), (.aload 0, 0, 0, 0, 0, 122), (.getfield 0, 11, 12, 0, 395, 123), (.aload 0, 0, 0, 0, 0, 126), (.getfield 0, 11, 15, 0, 398, 127), (.invokevirtual 89, 3, 0, 5, 940, 130), (.iload 1, 0, 0, 0, 0, 133), (.ireturn, 0, 0, 0, 0, 134)], [([true, true, true, true, true], 0), ([true, true, true, true, false], 20)])
def T_X11_shut : jT := ([(.iload 1, 0, 0, 0, 0, 0), (.ifCond .lt 0, 0, 3, 0, 0, 1), (.iload 1, 0, 0, 0, 0, 4), (.iconst 9, 0, 0, 0, 0, 5), (.if_icmp .le 0, 0, 2, 0, 0, 7), (.iconst (-1), 0, 0, 0, 0, 10), (.ireturn, 0, 0, 0, 0, 11), (.aload 0, 0, 0, 0, 0, 12), (.aload 0, 0, 0, 0, 0, 13), (.getfield 0, 11, 4, 0, 387, 14), (.invokevirtual 179, 2, 0, 11, 994, 17), (.aload 0, 0, 0, 0, 0, 20), (.getfield 0, 11, 12, 0, 395, 21), (.invokevirtual 121, 1, 0, 8, 856, 24), (.aload 0, 0, 0, 0, 0, 27), (.getfield 0, 11, 1, 0, 384, 28), (.invokevirtual 13, 1, 1, 1, 1054, 31), (.aload 0, 0, 0, 0, 0, 34), (.getfield 0, 11, 12, 0, 395, 35), (.iload 1, 0, 0, 0, 0, 38), (.invokevirtual 122, 2, 1, 8, 1058, 39), (.iconst (-1), 0, 0, 0, 0, 42), (.ixor, 0, 0, 0, 0, 43), (.iand, 0, 0, 0, 0, 44), (.ireturn, 0, 0, 0, 0, 45)], [([true, true], 0)])
def T_X11_goOn : jT := ([(.aload 0, 0, 0, 0, 0, 0), (.getfield 0, 11, 12, 0, 395, 1), (.aload 0, 0, 0, 0, 0, 4), (.getfield 0, 11, 1, 0, 384, 5), (.aload 0, 0, 0, 0, 0, 8), (.getfield 0, 11, 4, 0, 387, 9), (.invokevirtual 106, 3, 0, 8, 821, 12), (.aload 0, 0, 0, 0, 0, 15), (.getfield 0, 11, 12, 0, 395, 16), (.aload 0, 0, 0, 0, 0, 19), (.getfield 0, 11, 6, 0, 389, 20), (.invokevirtual 3, 1, 1, 0, 613, 23), (.aload 0, 0, 0, 0, 0, 26), (.getfield 0, 11, 6, 0, 389, 27), (.invokevirtual 4, 1, 1, 0, 617, 30), (.iload 1, 0, 0, 0, 0, 33), (.invokevirtual 108, 4, 0, 8, 851, 34), (.aload 0, 0, 0, 0, 0, 37), (.getfield 0, 11, 12, 0, 395, 38), (.invokevirtual 121, 1, 0, 8, 856, 41), (.return_, 0, 0, 0, 0, 44)], [([true, true], 0)])
def T_X11_beginAnew : jT := ([(.aload 0, 0, 0, 0, 0, 0), (.getfield 0, 11, 12, 0, 395, 1), (.aload 0, 0, 0, 0, 0, 4), (.getfield 0, 11, 1, 0, 384, 5), (.aload 1, 0, 0, 0, 0, 8), (.invokevirtual 106, 3, 0, 8, 821, 9), (.aload 0, 0, 0, 0, 0, 12), (.getfield 0, 11, 12, 0, 395, 13), (.iconst 0, 0, 0, 0, 0, 16), (.iconst (-1), 0, 0, 0, 0, 17), (.iconst 1023, 0, 0, 0, 0, 18), (.invokevirtual 108, 4, 0, 8, 851, 21), (.return_, 0, 0, 0, 0, 24)], [([true, true], 0)])
def T_X11_tellMost : jT := ([(.aload 0, 0, 0, 0, 0, 0), (.getfield 0, 11, 13, 0, 396, 1), (.invokevirtual 76, 1, 0, 5, 872, 4), (.aload 0, 0, 0, 0, 0, 7), (.getfield 0, 11, 13, 0, 396, 8), (.aload 0, 0, 0, 0, 0, 11), (.getfield 0, 11, 1, 0, 384, 12), (.iconst 1, 0, 0, 0, 0, 15), (.invokevirtual 79, 3, 0, 5, 877, 16), (.aload 0, 0, 0, 0, 0, 19), (.getfield 0, 11, 13, 0, 396, 20), (.aload 0, 0, 0, 0, 0, 23), (.getfield 0, 11, 12, 0, 395, 24), (.iconst 0, 0, 0, 0, 0, 27), (.iconst 10, 0, 0, 0, 0, 28), (.invokevirtual 83, 4, 1, 5, 890, 30), (.pop, 0, 0, 0, 0, 33), (.aload 0, 0, 0, 0, 0, 34), (.getfield 0, 11, 15, 0, 398, 35), (.invokevirtual 104, 1, 0, 7, 729, 38), (.aload 0, 0, 0, 0, 0, 41), (.getfield 0, 11, 13, 0, 396, 42), (.aload 0, 0, 0, 0, 0, 45), (.getfield 0, 11, 12, 0, 395, 46), (.aload 0, 0, 0, 0, 0, 49), (.getfield 0, 11, 15, 0, 398, 50), (.invokevirtual 89, 3, 0, 5, 940, 53), (.aload 0, 0, 0, 0, 0, 56), (.getfield 0, 11, 15, 0, 398, 57), (.invokevirtual 102, 1, 1, 7, 949, 60), (.ireturn, 0, 0, 0, 0, 63)], [([true], 0)])
def T_X11_tellBetween : jT := ([(.aload 0, 0, 0, 0, 0, 0), (.getfield 0, 11, 1, 0, 384, 1), (.iload 1, 0, 0, 0, 0, 4), (.invokevirtual 11, 2, 1, 1, 612, 5), (.ifCond .eq 0, 0, 5, 0, 0, 8), (.aload 0, 0, 0, 0, 0, 11), (.getfield 0, 11, 1, 0, 384, 12), (.iload 2, 0, 0, 0, 0, 15), (.invokevirtual 11, 2, 1, 1, 612, 16), (.ifCond .ne 0, 0, 2, 0, 0, 19), (.iconst (-1), 0, 0, 0, 0, 22), (.ireturn, 0, 0, 0, 0, 23), (.aload 0, 0, 0, 0, 0, 24), (.aload 0, 0, 0, 0, 0, 25), (.getfield 0, 11, 4, 0, 387, 26), (.invokevirtual 179, 2, 0, 11, 994, 29), (.aload 0, 0, 0, 0, 0, 32), (.getfield 0, 11, 12, 0, 395, 33), (.iconst 0, 0, 0, 0, 0, 36), (.iconst 1, 0, 0, 0, 0, 37), (.iload 1, 0, 0, 0, 0, 38), (.ishl, 0, 0, 0, 0, 39), (.invokevirtual 109, 3, 0, 8, 998, 40), (.aload 0, 0, 0, 0, 0, 43), (.getfield 0, 11, 12, 0, 395, 44), (.invokevirtual 121, 1, 0, 8, 856, 47), (.aload 0, 0, 0, 0, 0, 50), (.getfield 0, 11, 13, 0, 396, 51), (.invokevirtual 76, 1, 0, 5, 872, 54), (.aload 0, 0, 0, 0, 0, 57), (.getfield 0, 11, 13, 0, 396, 58), (.aload 0, 0, 0, 0, 0, 61), (.getfield 0, 11, 1, 0, 384, 62), (.iload 3, 0, 0, 0, 0, 65), (.invokevirtual 79, 3, 0, 5, 877, 66), (.aload 0, 0, 0, 0, 0, 69), (.getfield 0, 11, 13, 0, 396, 70), (.iconst 1, 0, 0, 0, 0, 73), (.iload 2, 0, 0, 0, 0, 74), (.ishl, 0, 0, 0, 0, 75), (.invokevirtual 80, 2, 0, 5, 1002, 76), (.aload 0, 0, 0, 0, 0, 79), (.getfield 0, 11, 13, 0, 396, 80), (.aload 0, 0, 0, 0, 0, 83), (.getfield 0, 11, 12, 0, 395, 84), (.iconst 1, 0, 0, 0, 0, 87), (.iconst 10, 0, 0, 0, 0, 88), (.invokevirtual 83, 4, 1, 5, 890, 90), (.iconst (-1000000), 0, 0, 0, 1006, 93), (.if_icmp .ne 0, 0, 2, 0, 0, 96), (.iconst (-2), 0, 0, 0, 0, 99), (.ireturn, 0, 0, 0, 0, 101), (.aload 0, 0, 0, 0, 0, 102), (.getfield 0, 11, 15, 0, 398, 103), (.invokevirtual 104, 1, 0, 7, 729, 106), (.aload 0, 0, 0, 0, 0, 109), (.getfield 0, 11, 13, 0, 396, 110), (.aload 0, 0, 0, 0, 0, 113), (.getfield 0, 11, 12, 0, 395, 114), (.aload 0, 0, 0, 0, 0, 117), (.getfield 0, 11, 15, 0, 398, 118), (.invokevirtual 89, 3, 0, 5, 940, 121), (.aload 0, 0, 0, 0, 0, 124), (.getfield 0, 11, 15, 0, 398, 125), (.invokevirtual 102, 1, 1, 7, 949, 128), (.ireturn, 0, 0, 0, 0, 131)], [([true, true, true, true], 0)])
def T_X11_goRound : jT := ([(.aload 0, 0, 0, 0, 0, 0), (.getfield 0, 11, 12, 0, 395, 1), (.iconst 0, 0, 0, 0, 0, 4), (.iconst 1, 0, 0, 0, 0, 5), (.iload 1, 0, 0, 0, 0, 6), (.ishl, 0, 0, 0, 0, 7), (.invokevirtual 109, 3, 0, 8, 998, 8), (.aload 0, 0, 0, 0, 0, 11), (.getfield 0, 11, 12, 0, 395, 12), (.invokevirtual 121, 1, 0, 8, 856, 15), (.aload 0, 0, 0, 0, 0, 18), (.getfield 0, 11, 13, 0, 396, 19), (.aload 0, 0, 0, 0, 0, 22), (.getfield 0, 11, 1, 0, 384, 23), (.iload 1, 0, 0, 0, 0, 26), (.aload 0, 0, 0, 0, 0, 27), (.getfield 0, 11, 4, 0, 387, 28), (.invokevirtual 35, 1, 1, 2, 1024, 31), (.invokevirtual 32, 3, 1, 1, 1025, 34), (.invokevirtual 80, 2, 0, 5, 1002, 37), (.return_, 0, 0, 0, 0, 40)], [([true, true], 0)])
def T_X11_best : jT := ([(.iload 1, 0, 0, 0, 0, 0), (.ifCond .lt 0, 0, 8, 0, 0, 1), (.iload 1, 0, 0, 0, 0, 4), (.iconst 10, 0, 0, 0, 0, 5), (.if_icmp .gt 0, 0, 5, 0, 0, 7), (.iload 2, 0, 0, 0, 0, 10), (.ifCond .lt 0, 0, 3, 0, 0, 11), (.iload 2, 0, 0, 0, 0, 14), (.iconst 999, 0, 0, 0, 0, 15), (.if_icmp .le 0, 0, 2, 0, 0, 18), (.iconst (-1), 0, 0, 0, 0, 21), (.ireturn, 0, 0, 0, 0, 22), (.aload 0, 0, 0, 0, 0, 23), (.getfield 0, 11, 13, 0, 396, 24), (.invokevirtual 76, 1, 0, 5, 872, 27), (.aload 0, 0, 0, 0, 0, 30), (.getfield 0, 11, 13, 0, 396, 31), (.invokevirtual 77, 1, 0, 5, 1066, 34), (.iconst 0, 0, 0, 0, 0, 37), (.istore 3, 0, 0, 0, 0, 38), (.nop, 1, 0, 0, 0, 39), (.iload 3, 0, 0, 0, 0, 39), (.aload 0, 0, 0, 0, 0, 40), (.getfield 0, 11, 1, 0, 384, 41), (.invokevirtual 9, 1, 1, 1, 586, 44), (.if_icmp .ge 0, 0, 12, 0, 0, 47), (.aload 0, 0, 0, 0, 0, 50), (.getfield 0, 11, 13, 0, 396, 51), (.iload 3, 0, 0, 0, 0, 54), (.aload 0, 0, 0, 0, 0, 55), (.getfield 0, 11, 3, 0, 386, 56), (.aload 0, 0, 0, 0, 0, 59), (.getfield 0, 11, 1, 0, 384, 60), (.iload 3, 0, 0, 0, 0, 63), (.invokevirtual 134, 3, 1, 9, 1067, 64), (.invokevirtual 78, 3, 0, 5, 1108, 67), (.iinc 3 1, 0, 0, 0, 0, 70), (.goto 0, 1, 1, 0, 0, 73), (.aload 0, 0, 0, 0, 0, 76), (.iload 1, 0, 0, 0, 0, 77), (.iload 2, 0, 0, 0, 0, 78), (.invokevirtual 187, 3, 1, 11, 1109, 79), (.ireturn, 0, 0, 0, 0, 82)], [([true, true, true, true], 0), ([true, true, true, true], 21)])
def T_X11_fair : jT := ([(.iload 1, 0, 0, 0, 0, 0), (.ifCond .lt 0, 0, 8, 0, 0, 1), (.iload 1, 0, 0, 0, 0, 4), (.iconst 10, 0, 0, 0, 0, 5), (.if_icmp .gt 0, 0, 5, 0, 0, 7), (.iload 2, 0, 0, 0, 0, 10), (.ifCond .lt 0, 0, 3, 0, 0, 11), (.iload 2, 0, 0, 0, 0, 14), (.iconst 999, 0, 0, 0, 0, 15), (.if_icmp .le 0, 0, 2, 0, 0, 18), (.iconst (-1), 0, 0, 0, 0, 21), (.ireturn, 0, 0, 0, 0, 22), (.aload 0, 0, 0, 0, 0, 23), (.getfield 0, 11, 1, 0, 384, 24), (.invokevirtual 10, 1, 1, 1, 1122, 27), (.ifCond .ne 0, 0, 2, 0, 0, 30), (.iconst (-2), 0, 0, 0, 0, 33), (.ireturn, 0, 0, 0, 0, 35), (.aload 0, 0, 0, 0, 0, 36), (.getfield 0, 11, 13, 0, 396, 37), (.invokevirtual 76, 1, 0, 5, 872, 40), (.iconst 0, 0, 0, 0, 0, 43), (.istore 3, 0, 0, 0, 0, 44), (.nop, 1, 0, 0, 0, 45), (.iload 3, 0, 0, 0, 0, 45), (.aload 0, 0, 0, 0, 0, 46), (.getfield 0, 11, 1, 0, 384, 47), (.invokevirtual 10, 1, 1, 1, 1122, 50), (.if_icmp .ge 0, 0, 26, 0, 0, 53), (.aload 0, 0, 0, 0, 0, 56), (.getfield 0, 11, 13, 0, 396, 57), (.invokevirtual 77, 1, 0, 5, 1066, 60), (.iconst 0, 0, 0, 0, 0, 63), (.istore 4, 0, 0, 0, 0, 64), (.nop, 2, 0, 0, 0, 66), (.iload 4, 0, 0, 0, 0, 66), (.aload 0, 0, 0, 0, 0, 68), (.getfield 0, 11, 1, 0, 384, 69), (.invokevirtual 9, 1, 1, 1, 586, 72), (.if_icmp .ge 0, 0, 13, 0, 0, 75), (.aload 0, 0, 0, 0, 0, 78), (.getfield 0, 11, 13, 0, 396, 79), (.iload 4, 0, 0, 0, 0, 82), (.aload 0, 0, 0, 0, 0, 84), (.getfield 0, 11, 3, 0, 386, 85), (.aload 0, 0, 0, 0, 0, 88), (.getfield 0, 11, 1, 0, 384, 89), (.iload 3, 0, 0, 0, 0, 92), (.iload 4, 0, 0, 0, 0, 93), (.invokevirtual 133, 4, 1, 9, 1123, 95), (.invokevirtual 78, 3, 0, 5, 1108, 98), (.iinc 4 1, 0, 0, 0, 0, 101), (.goto 0, 1, 2, 0, 0, 104), (.iinc 3 1, 0, 0, 0, 0, 107), (.goto 0, 1, 1, 0, 0, 110), (.aload 0, 0, 0, 0, 0, 113), (.iload 1, 0, 0, 0, 0, 114), (.iload 2, 0, 0, 0, 0, 115), (.invokevirtual 187, 3, 1, 11, 1109, 116), (.ireturn, 0, 0, 0, 0, 119)], [([true, true, true, true, true], 0), ([true, true, true, true, false], 24), ([true, true, true, true, true], 35)])
def T_X11_cheap : jT := ([(.iload 1, 0, 0, 0, 0, 0), (.ifCond .lt 0, 0, 3, 0, 0, 1), (.iload 1, 0, 0, 0, 0, 4), (.iconst 10, 0, 0, 0, 0, 5), (.if_icmp .le 0, 0, 2, 0, 0, 7), (.iconst (-1), 0, 0, 0, 0, 10), (.goto 0, 0, 7, 0, 0, 11), (.aload 0, 0, 0, 0, 0, 14), (.iload 1, 0, 0, 0, 0, 15), (.aload 0, 0, 0, 0, 0, 16), (.getfield 0, 11, 1, 0, 384, 17), (.invokevirtual 29, 1, 1, 1, 1128, 20), (.iconst (-1), 0, 0, 0, 0, 23), (.invokevirtual 188, 4, 1, 11, 1134, 24), (.ireturn, 0, 0, 0, 0, 27)], [([true, true], 0)])
def T_X11_dear : jT := ([(.iload 1, 0, 0, 0, 0, 0), (.ifCond .lt 0, 0, 3, 0, 0, 1), (.iload 1, 0, 0, 0, 0, 4), (.iconst 10, 0, 0, 0, 0, 5), (.if_icmp .le 0, 0, 2, 0, 0, 7), (.iconst (-1), 0, 0, 0, 0, 10), (.goto 0, 0, 5, 0, 0, 11), (.aload 0, 0, 0, 0, 0, 14), (.iload 1, 0, 0, 0, 0, 15), (.iconst 1023, 0, 0, 0, 0, 16), (.iconst 1, 0, 0, 0, 0, 19), (.invokevirtual 188, 4, 1, 11, 1134, 20), (.ireturn, 0, 0, 0, 0, 23)], [([true, true], 0)])
def T_X11_tellJoy : jT := ([(.aload 0, 0, 0, 0, 0, 0), (.iconst 1023, 0, 0, 0, 0, 1), (.invokevirtual 178, 2, 0, 11, 817, 4), (.aload 0, 0, 0, 0, 0, 7), (.getfield 0, 11, 13, 0, 396, 8), (.aload 0, 0, 0, 0, 0, 11), (.getfield 0, 11, 1, 0, 384, 12), (.iload 2, 0, 0, 0, 0, 15), (.invokevirtual 81, 3, 0, 5, 1113, 16), (.aload 0, 0, 0, 0, 0, 19), (.getfield 0, 11, 13, 0, 396, 20), (.aload 0, 0, 0, 0, 0, 23), (.getfield 0, 11, 12, 0, 395, 24), (.iload 1, 0, 0, 0, 0, 27), (.iload 1, 0, 0, 0, 0, 28), (.invokevirtual 83, 4, 1, 5, 890, 29), (.istore 3, 0, 0, 0, 0, 32), (.iload 3, 0, 0, 0, 0, 33), (.iconst (-1000000), 0, 0, 0, 1006, 34), (.if_icmp .ne 0, 0, 2, 0, 0, 37), (.iconst (-2), 0, 0, 0, 0, 40), (.ireturn, 0, 0, 0, 0, 42), (.aload 0, 0, 0, 0, 0, 43), (.getfield 0, 11, 15, 0, 398, 44), (.invokevirtual 104, 1, 0, 7, 729, 47), (.aload 0, 0, 0, 0, 0, 50), (.getfield 0, 11, 15, 0, 398, 51), (.iload 3, 0, 0, 0, 0, 54), (.invokevirtual 105, 2, 0, 7, 734, 55), (.aload 0, 0, 0, 0, 0, 58), (.getfield 0, 11, 13, 0, 396, 59), (.aload 0, 0, 0, 0, 0, 62), (.getfield 0, 11, 12, 0, 395, 63), (.aload 0, 0, 0, 0, 0, 66), (.getfield 0, 11, 15, 0, 398, 67), (.invokevirtual 89, 3, 0, 5, 940, 70), (.iconst 1, 0, 0, 0, 0, 73), (.ireturn, 0, 0, 0, 0, 74)], [([true, true, true, true], 0)])
def T_X11_tellCost : jT := ([(.aload 0, 0, 0, 0, 0, 0), (.iload 2, 0, 0, 0, 0, 1), (.invokevirtual 178, 2, 0, 11, 817, 2), (.aload 0, 0, 0, 0, 0, 5), (.getfield 0, 11, 13, 0, 396, 6), (.invokevirtual 76, 1, 0, 5, 872, 9), (.aload 0, 0, 0, 0, 0, 12), (.getfield 0, 11, 13, 0, 396, 13), (.invokevirtual 77, 1, 0, 5, 1066, 16), (.iconst 0, 0, 0, 0, 0, 19), (.istore 4, 0, 0, 0, 0, 20), (.nop, 1, 0, 0, 0, 22), (.iload 4, 0, 0, 0, 0, 22), (.aload 0, 0, 0, 0, 0, 24), (.getfield 0, 11, 1, 0, 384, 25), (.invokevirtual 9, 1, 1, 1, 586, 28), (.if_icmp .ge 0, 0, 12, 0, 0, 31), (.aload 0, 0, 0, 0, 0, 34), (.getfield 0, 11, 13, 0, 396, 35), (.iload 4, 0, 0, 0, 0, 38), (.iload 3, 0, 0, 0, 0, 40), (.aload 0, 0, 0, 0, 0, 41), (.getfield 0, 11, 1, 0, 384, 42), (.iload 4, 0, 0, 0, 0, 45), (.invokevirtual 15, 2, 1, 1, 604, 47), (.imul, 0, 0, 0, 0, 50), (.invokevirtual 78, 3, 0, 5, 1108, 51), (.iinc 4 1, 0, 0, 0, 0, 54), (.goto 0, 1, 1, 0, 0, 57), (.aload 0, 0, 0, 0, 0, 60), (.getfield 0, 11, 13, 0, 396, 61), (.aload 0, 0, 0, 0, 0, 64), (.getfield 0, 11, 12, 0, 395, 65), (.iload 1, 0, 0, 0, 0, 68), (.iload 1, 0, 0, 0, 0, 69), (.invokevirtual 83, 4, 1, 5, 890, 70), (.istore 4, 0, 0, 0, 0, 73), (.iload 4, 0, 0, 0, 0, 75), (.iconst (-1000000), 0, 0, 0, 1006, 77), (.if_icmp .ne 0, 0, 2, 0, 0, 80), (.iconst (-2), 0, 0, 0, 0, 83), (.ireturn, 0, 0, 0, 0, 85), (.aload 0, 0, 0, 0, 0, 86), (.getfield 0, 11, 15, 0, 398, 87), (.invokevirtual 104, 1, 0, 7, 729, 90), (.aload 0, 0, 0, 0, 0, 93), (.getfield 0, 11, 13, 0, 396, 94), (.aload 0, 0, 0, 0, 0, 97), (.getfield 0, 11, 12, 0, 395, 98), (.aload 0, 0, 0, 0, 0, 101), (.getfield 0, 11, 15, 0, 398, 102), (.invokevirtual 89, 3, 0, 5, 940, 105), (.iload 3, 0, 0, 0, 0, 108), (.iload 4, 0, 0, 0, 0, 109), (.imul, 0, 0, 0, 0, 111), (.ireturn, 0, 0, 0, 0, 112)], [([true, true, true, true, true], 0), ([true, true, false, true, true], 12)])
def T_X11_game : jT := ([(.aload 0, 0, 0, 0, 0, 0), (.iconst 1023, 0, 0, 0, 0, 1), (.invokevirtual 178, 2, 0, 11, 817, 4), (.aload 0, 0, 0, 0, 0, 7), (.getfield 0, 11, 14, 0, 397, 8), (.aload 0, 0, 0, 0, 0, 11), (.getfield 0, 11, 12, 0, 395, 12), (.aload 0, 0, 0, 0, 0, 15), (.getfield 0, 11, 15, 0, 398, 16), (.invokevirtual 53, 3, 1, 3, 1146, 19), (.ireturn, 0, 0, 0, 0, 22)], [([true], 0)])
def T_X11_greedy : jT := ([(.aload 0, 0, 0, 0, 0, 0), (.iconst 1023, 0, 0, 0, 0, 1), (.invokevirtual 178, 2, 0, 11, 817, 4), (.aload 0, 0, 0, 0, 0, 7), (.getfield 0, 11, 14, 0, 397, 8), (.aload 0, 0, 0, 0, 0, 11), (.getfield 0, 11, 12, 0, 395, 12), (.aload 0, 0, 0, 0, 0, 15), (.getfield 0, 11, 1, 0, 384, 16), (.aload 0, 0, 0, 0, 0, 19), (.getfield 0, 11, 3, 0, 386, 20), (.aload 0, 0, 0, 0, 0, 23), (.getfield 0, 11, 15, 0, 398, 24), (.invokevirtual 54, 5, 1, 3, 1163, 27), (.ireturn, 0, 0, 0, 0, 30)], [([true], 0)])
def T_X11_mend : jT := ([(.iload 2, 0, 0, 0, 0, 0), (.iconst (-1), 0, 0, 0, 0, 1), (.if_icmp .lt 0, 0, 3, 0, 0, 2), (.iload 2, 0, 0, 0, 0, 5), (.iconst 8, 0, 0, 0, 0, 6), (.if_icmp .lt 0, 0, 2, 0, 0, 8), (.iconst (-1), 0, 0, 0, 0, 11), (.ireturn, 0, 0, 0, 0, 12), (.aload 0, 0, 0, 0, 0, 13), (.iload 1, 0, 0, 0, 0, 14), (.invokevirtual 167, 2, 1, 11, 788, 15), (.ifCond .ne 0, 0, 2, 0, 0, 18), (.iconst (-3), 0, 0, 0, 0, 21), (.ireturn, 0, 0, 0, 0, 23), (.aload 0, 0, 0, 0, 0, 24), (.getfield 0, 11, 5, 0, 388, 25), (.aload 0, 0, 0, 0, 0, 28), (.getfield 0, 11, 4, 0, 387, 29), (.invokevirtual 40, 2, 0, 2, 808, 32), (.iload 2, 0, 0, 0, 0, 35), (.iconst (-1), 0, 0, 0, 0, 36), (.if_icmp .eq 0, 0, 6, 0, 0, 37), (.aload 0, 0, 0, 0, 0, 40), (.getfield 0, 11, 5, 0, 388, 41), (.iload 2, 0, 0, 0, 0, 44), (.iconst 0, 0, 0, 0, 0, 45), (.invokevirtual 39, 3, 1, 2, 578, 46), (.pop, 0, 0, 0, 0, 49), (.aload 0, 0, 0, 0, 0, 50), (.aload 0, 0, 0, 0, 0, 51), (.getfield 0, 11, 5, 0, 388, 52), (.invokevirtual 179, 2, 0, 11, 994, 55), (.aload 0, 0, 0, 0, 0, 58), (.getfield 0, 11, 12, 0, 395, 59), (.invokevirtual 121, 1, 0, 8, 856, 62), (.aload 0, 0, 0, 0, 0, 65), (.getfield 0, 11, 14, 0, 397, 66), (.aload 0, 0, 0, 0, 0, 69), (.getfield 0, 11, 12, 0, 395, 70), (.aload 0, 0, 0, 0, 0, 73), (.getfield 0, 11, 7, 0, 390, 74), (.iload 1, 0, 0, 0, 0, 77), (.aaload, 24, 0, 0, 0, 78), (.aload 0, 0, 0, 0, 0, 79), (.getfield 0, 11, 15, 0, 398, 80), (.invokevirtual 49, 4, 1, 3, 1181, 83), (.ireturn, 0, 0, 0, 0, 86)], [([true, true, true], 0)])
def T_X11_fills : jT := ([(.aload 0, 0, 0, 0, 0, 0), (.iload 1, 0, 0, 0, 0, 1), (.invokevirtual 166, 2, 1, 11, 704, 2), (.ifCond .ne 0, 0, 2, 0, 0, 5), (.sipush (-3), 0, 0, 0, 1205, 8), (.lreturn, 0, 0, 0, 0, 11), (.aload 0, 0, 0, 0, 0, 12), (.getfield 0, 11, 7, 0, 390, 13), (.iload 1, 0, 0, 0, 0, 16), (.aaload, 24, 0, 0, 0, 17), (.invokevirtual 58, 1, 1, 4, 708, 18), (.istore 2, 0, 0, 0, 0, 21), (.aload 0, 0, 0, 0, 0, 22), (.aload 0, 0, 0, 0, 0, 23), (.getfield 0, 11, 7, 0, 390, 24), (.iload 1, 0, 0, 0, 0, 27), (.aaload, 24, 0, 0, 0, 28), (.invokevirtual 194, 2, 0, 11, 1206, 29), (.aload 0, 0, 0, 0, 0, 32), (.getfield 0, 11, 15, 0, 398, 33), (.invokevirtual 104, 1, 0, 7, 729, 36), (.aload 0, 0, 0, 0, 0, 39), (.getfield 0, 11, 13, 0, 396, 40), (.aload 0, 0, 0, 0, 0, 43), (.getfield 0, 11, 12, 0, 395, 44), (.iload 2, 0, 0, 0, 0, 47), (.iload 2, 0, 0, 0, 0, 48), (.invokevirtual 83, 4, 1, 5, 890, 49), (.iconst (-1000000), 0, 0, 0, 1006, 52), (.if_icmp .eq 0, 0, 7, 0, 0, 55), (.aload 0, 0, 0, 0, 0, 58), (.getfield 0, 11, 13, 0, 396, 59), (.aload 0, 0, 0, 0, 0, 62), (.getfield 0, 11, 12, 0, 395, 63), (.aload 0, 0, 0, 0, 0, 66), (.getfield 0, 11, 15, 0, 398, 67), (.invokevirtual 89, 3, 0, 5, 940, 70), (.aload 0, 0, 0, 0, 0, 73), (.getfield 0, 11, 14, 0, 397, 74), (.aload 0, 0, 0, 0, 0, 77), (.getfield 0, 11, 12, 0, 395, 78), (.iload 2, 0, 0, 0, 0, 81), (.invokevirtual 46, 3, 2, 3, 958, 82), (.lreturn, 0, 0, 0, 0, 85)], [([true, true, true], 0)])
def T_X11_sure : jT := ([(.aload 0, 0, 0, 0, 0, 0), (.iload 1, 0, 0, 0, 0, 1), (.invokevirtual 166, 2, 1, 11, 704, 2), (.ifCond .eq 0, 0, 9, 0, 0, 5), (.iload 2, 0, 0, 0, 0, 8), (.ifCond .lt 0, 0, 7, 0, 0, 9), (.iload 2, 0, 0, 0, 0, 12), (.aload 0, 0, 0, 0, 0, 13), (.getfield 0, 11, 7, 0, 390, 14), (.iload 1, 0, 0, 0, 0, 17), (.aaload, 24, 0, 0, 0, 18), (.invokevirtual 58, 1, 1, 4, 708, 19), (.if_icmp .lt 0, 0, 2, 0, 0, 22), (.iconst (-3), 0, 0, 0, 0, 25), (.ireturn, 0, 0, 0, 0, 27), (.aload 0, 0, 0, 0, 0, 28), (.getfield 0, 11, 7, 0, 390, 29), (.iload 1, 0, 0, 0, 0, 32), (.aaload, 24, 0, 0, 0, 33), (.invokevirtual 58, 1, 1, 4, 708, 34), (.istore 3, 0, 0, 0, 0, 37), (.aload 0, 0, 0, 0, 0, 38), (.aload 0, 0, 0, 0, 0, 39), (.getfield 0, 11, 7, 0, 390, 40), (.iload 1, 0, 0, 0, 0, 43), (.aaload, 24, 0, 0, 0, 44), (.invokevirtual 194, 2, 0, 11, 1206, 45), (.aload 0, 0, 0, 0, 0, 48), (.getfield 0, 11, 13, 0, 396, 49), (.aload 0, 0, 0, 0, 0, 52), (.getfield 0, 11, 12, 0, 395, 53), (.iload 3, 0, 0, 0, 0, 56), (.iload 3, 0, 0, 0, 0, 57), (.invokevirtual 83, 4, 1, 5, 890, 58), (.iconst (-1000000), 0, 0, 0, 1006, 61), (.if_icmp .ne 0, 0, 2, 0, 0, 64), (.iconst 0, 0, 0, 0, 0, 67), (.ireturn, 0, 0, 0, 0, 68), (.aload 0, 0, 0, 0, 0, 69), (.getfield 0, 11, 13, 0, 396, 70), (.aload 0, 0, 0, 0, 0, 73), (.getfield 0, 11, 12, 0, 395, 74), (.iload 2, 0, 0, 0, 0, 77), (.invokevirtual 90, 3, 1, 5, 1215, 78), (.istore 4, 0, 0, 0, 0, 81), (.iload 4, 0, 0, 0, 0, 83), (.invokestatic 0, 1, 1, 0, 1040, 85), (.iconst 1, 0, 0, 0, 0, 88), (.if_icmp .ne 0, 0, 2, 0, 0, 89), (.iload 4, 0, 0, 0, 0, 92), (.goto 0, 0, 1, 0, 0, 94), (.iconst 0, 0, 0, 0, 0, 97), (.ireturn, 0, 0, 0, 0, 98)], [([true, true, true, true, true], 0)])
def T_X11_layFilled : jT := ([(.aload 0, 0, 0, 0, 0, 0), (.aload 0, 0, 0, 0, 0, 1), (.getfield 0, 11, 4, 0, 387, 2), (.invokevirtual 179, 2, 0, 11, 994, 5), (.iconst 0, 0, 0, 0, 0, 8), (.istore 2, 0, 0, 0, 0, 9), (.nop, 1, 0, 0, 0, 10), (.iload 2, 0, 0, 0, 0, 10), (.aload 1, 0, 0, 0, 0, 11), (.invokevirtual 58, 1, 1, 4, 708, 12), (.if_icmp .ge 0, 0, 16, 0, 0, 15), (.aload 1, 0, 0, 0, 0, 18), (.iload 2, 0, 0, 0, 0, 19), (.invokevirtual 59, 2, 1, 4, 1210, 20), (.iconst (-1), 0, 0, 0, 0, 23), (.if_icmp .eq 0, 0, 9, 0, 0, 24), (.aload 0, 0, 0, 0, 0, 27), (.getfield 0, 11, 12, 0, 395, 28), (.iload 2, 0, 0, 0, 0, 31), (.iconst 1, 0, 0, 0, 0, 32), (.aload 1, 0, 0, 0, 0, 33), (.iload 2, 0, 0, 0, 0, 34), (.invokevirtual 59, 2, 1, 4, 1210, 35), (.ishl, 0, 0, 0, 0, 38), (.invokevirtual 109, 3, 0, 8, 998, 39), (.iinc 2 1, 0, 0, 0, 0, 42), (.goto 0, 1, 1, 0, 0, 45), (.aload 0, 0, 0, 0, 0, 48), (.getfield 0, 11, 12, 0, 395, 49), (.invokevirtual 121, 1, 0, 8, 856, 52), (.aload 0, 0, 0, 0, 0, 55), (.getfield 0, 11, 13, 0, 396, 56), (.invokevirtual 76, 1, 0, 5, 872, 59), (.aload 0, 0, 0, 0, 0, 62), (.getfield 0, 11, 13, 0, 396, 63), (.aload 0, 0, 0, 0, 0, 66), (.getfield 0, 11, 1, 0, 384, 67), (.iconst 1, 0, 0, 0, 0, 70), (.invokevirtual 79, 3, 0, 5, 877, 71), (.return_, 0, 0, 0, 0, 74)], [([true, true, true], 0), ([true, true, true], 7)])
def T_X11_hearths : jT := ([(.aload 0, 0, 0, 0, 0, 0), (.iload 1, 0, 0, 0, 0, 1), (.invokevirtual 167, 2, 1, 11, 788, 2), (.ifCond .ne 0, 0, 2, 0, 0, 5), (.iconst (-3), 0, 0, 0, 0, 8), (.ireturn, 0, 0, 0, 0, 10), (.aload 0, 0, 0, 0, 0, 11), (.getfield 0, 11, 7, 0, 390, 12), (.iload 1, 0, 0, 0, 0, 15), (.aaload, 24, 0, 0, 0, 16), (.astore 2, 0, 0, 0, 0, 17), (.aload 0, 0, 0, 0, 0, 18), (.getfield 0, 11, 15, 0, 398, 19), (.invokevirtual 104, 1, 0, 7, 729, 22), (.iconst 0, 0, 0, 0, 0, 25), (.istore 3, 0, 0, 0, 0, 26), (.nop, 1, 0, 0, 0, 27), (.iload 3, 0, 0, 0, 0, 27), (.aload 2, 0, 0, 0, 0, 28), (.invokevirtual 58, 1, 1, 4, 708, 29), (.if_icmp .ge 0, 0, 15, 0, 0, 32), (.aload 0, 0, 0, 0, 0, 35), (.getfield 0, 11, 15, 0, 398, 36), (.iconst 10, 0, 0, 0, 0, 39), (.iload 3, 0, 0, 0, 0, 41), (.iadd, 0, 0, 0, 0, 42), (.aload 0, 0, 0, 0, 0, 43), (.getfield 0, 11, 1, 0, 384, 44), (.aload 2, 0, 0, 0, 0, 47), (.iload 3, 0, 0, 0, 0, 48), (.invokevirtual 59, 2, 1, 4, 1210, 49), (.invokevirtual 17, 2, 1, 1, 1223, 52), (.isub, 0, 0, 0, 0, 55), (.invokevirtual 105, 2, 0, 7, 734, 56), (.iinc 3 1, 0, 0, 0, 0, 59), (.goto 0, 1, 1, 0, 0, 62), (.aload 2, 0, 0, 0, 0, 65), (.aload 0, 0, 0, 0, 0, 66), (.getfield 0, 11, 1, 0, 384, 67), (.invokevirtual 72, 2, 1, 4, 1224, 70), (.ireturn, 0, 0, 0, 0, 73)], [([true, true, true, true], 0), ([true, false, true, true], 17)])
def T_X11_late : jT := ([(.iload 2, 0, 0, 0, 0, 0), (.iconst 1, 0, 0, 0, 0, 1), (.if_icmp .lt 0, 0, 3, 0, 0, 2), (.iload 2, 0, 0, 0, 0, 5), (.iconst 9, 0, 0, 0, 0, 6), (.if_icmp .le 0, 0, 2, 0, 0, 8), (.iconst (-1), 0, 0, 0, 0, 11), (.ireturn, 0, 0, 0, 0, 12), (.aload 0, 0, 0, 0, 0, 13), (.iload 1, 0, 0, 0, 0, 14), (.invokevirtual 167, 2, 1, 11, 788, 15), (.ifCond .ne 0, 0, 2, 0, 0, 18), (.iconst (-3), 0, 0, 0, 0, 21), (.ireturn, 0, 0, 0, 0, 23), (.aload 0, 0, 0, 0, 0, 24), (.getfield 0, 11, 15, 0, 398, 25), (.invokevirtual 104, 1, 0, 7, 729, 28), (.aload 0, 0, 0, 0, 0, 31), (.getfield 0, 11, 7, 0, 390, 32), (.iload 1, 0, 0, 0, 0, 35), (.aaload, 24, 0, 0, 0, 36), (.aload 0, 0, 0, 0, 0, 37), (.getfield 0, 11, 1, 0, 384, 38), (.iload 2, 0, 0, 0, 0, 41), (.aload 0, 0, 0, 0, 0, 42), (.getfield 0, 11, 15, 0, 398, 43), (.invokevirtual 73, 4, 1, 4, 1234, 46), (.ireturn, 0, 0, 0, 0, 49)], [([true, true, true], 0)])
def T_X11_poison : jT := ([(.iload 2, 0, 0, 0, 0, 0), (.ifCond .lt 0, 0, 6, 0, 0, 1), (.iload 2, 0, 0, 0, 0, 4), (.aload 0, 0, 0, 0, 0, 5), (.getfield 0, 11, 1, 0, 384, 6), (.invokevirtual 10, 1, 1, 1, 1122, 9), (.ishr, 0, 0, 0, 0, 12), (.ifCond .eq 0, 0, 2, 0, 0, 13), (.iconst (-1), 0, 0, 0, 0, 16), (.ireturn, 0, 0, 0, 0, 17), (.aload 0, 0, 0, 0, 0, 18), (.iload 1, 0, 0, 0, 0, 19), (.invokevirtual 167, 2, 1, 11, 788, 20), (.ifCond .ne 0, 0, 2, 0, 0, 23), (.iconst (-3), 0, 0, 0, 0, 26), (.ireturn, 0, 0, 0, 0, 28), (.iconst 255, 0, 0, 0, 0, 29), (.istore 3, 0, 0, 0, 0, 32), (.iconst 0, 0, 0, 0, 0, 33), (.istore 4, 0, 0, 0, 0, 34), (.nop, 1, 0, 0, 0, 36), (.iload 4, 0, 0, 0, 0, 36), (.aload 0, 0, 0, 0, 0, 38), (.getfield 0, 11, 1, 0, 384, 39), (.invokevirtual 10, 1, 1, 1, 1122, 42), (.if_icmp .ge 0, 0, 26, 0, 0, 45), (.aload 0, 0, 0, 0, 0, 48), (.getfield 0, 11, 7, 0, 390, 49), (.iload 1, 0, 0, 0, 0, 52), (.aaload, 24, 0, 0, 0, 53), (.aload 0, 0, 0, 0, 0, 54), (.getfield 0, 11, 1, 0, 384, 55), (.iload 4, 0, 0, 0, 0, 58), (.invokevirtual 75, 3, 1, 4, 1244, 60), (.istore 5, 0, 0, 0, 0, 63), (.iload 3, 0, 0, 0, 0, 65), (.iload 2, 0, 0, 0, 0, 66), (.iload 4, 0, 0, 0, 0, 67), (.ishr, 0, 0, 0, 0, 69), (.iconst 1, 0, 0, 0, 0, 70), (.iand, 0, 0, 0, 0, 71), (.iconst 1, 0, 0, 0, 0, 72), (.if_icmp .ne 0, 0, 2, 0, 0, 73), (.iload 5, 0, 0, 0, 0, 76), (.goto 0, 0, 3, 0, 0, 78), (.iload 5, 0, 0, 0, 0, 81), (.iconst (-1), 0, 0, 0, 0, 83), (.ixor, 0, 0, 0, 0, 84), (.iand, 0, 0, 0, 0, 85), (.istore 3, 0, 0, 0, 0, 86), (.iinc 4 1, 0, 0, 0, 0, 87), (.goto 0, 1, 1, 0, 0, 90), (.iload 3, 0, 0, 0, 0, 93), (.ireturn, 0, 0, 0, 0, 94)], [([true, true, true, true, true, true], 0), ([true, true, true, true, true, false], 21)])
def T_X11_eats : jT := ([(.aload 0, 0, 0, 0, 0, 0), (.getfield 0, 11, 1, 0, 384, 1), (.iload 2, 0, 0, 0, 0, 4), (.invokevirtual 12, 2, 1, 1, 1015, 5), (.ifCond .ne 0, 0, 2, 0, 0, 8), (.iconst (-1), 0, 0, 0, 0, 11), (.ireturn, 0, 0, 0, 0, 12), (.aload 0, 0, 0, 0, 0, 13), (.iload 1, 0, 0, 0, 0, 14), (.invokevirtual 167, 2, 1, 11, 788, 15), (.ifCond .ne 0, 0, 2, 0, 0, 18), (.iconst (-3), 0, 0, 0, 0, 21), (.ireturn, 0, 0, 0, 0, 23), (.aload 0, 0, 0, 0, 0, 24), (.getfield 0, 11, 7, 0, 390, 25), (.iload 1, 0, 0, 0, 0, 28), (.aaload, 24, 0, 0, 0, 29), (.astore 3, 0, 0, 0, 0, 30), (.aload 3, 0, 0, 0, 0, 31), (.aload 0, 0, 0, 0, 0, 32), (.getfield 0, 11, 1, 0, 384, 33), (.iload 2, 0, 0, 0, 0, 36), (.invokevirtual 74, 3, 1, 4, 1254, 37), (.istore 4, 0, 0, 0, 0, 40), (.iconst 0, 0, 0, 0, 0, 42), (.istore 5, 0, 0, 0, 0, 43), (.iconst 0, 0, 0, 0, 0, 45), (.istore 6, 0, 0, 0, 0, 46), (.nop, 1, 0, 0, 0, 48), (.iload 6, 0, 0, 0, 0, 48), (.aload 3, 0, 0, 0, 0, 50), (.invokevirtual 58, 1, 1, 4, 708, 51), (.if_icmp .ge 0, 0, 20, 0, 0, 54), (.iload 5, 0, 0, 0, 0, 57), (.iload 4, 0, 0, 0, 0, 59), (.iload 6, 0, 0, 0, 0, 61), (.ishr, 0, 0, 0, 0, 63), (.iconst 1, 0, 0, 0, 0, 64), (.iand, 0, 0, 0, 0, 65), (.aload 0, 0, 0, 0, 0, 66), (.getfield 0, 11, 3, 0, 386, 67), (.aload 0, 0, 0, 0, 0, 70), (.getfield 0, 11, 1, 0, 384, 71), (.iload 2, 0, 0, 0, 0, 74), (.aload 3, 0, 0, 0, 0, 75), (.iload 6, 0, 0, 0, 0, 76), (.invokevirtual 59, 2, 1, 4, 1210, 78), (.invokevirtual 133, 4, 1, 9, 1123, 81), (.imul, 0, 0, 0, 0, 84), (.iadd, 0, 0, 0, 0, 85), (.istore 5, 0, 0, 0, 0, 86), (.iinc 6 1, 0, 0, 0, 0, 88), (.goto 0, 1, 1, 0, 0, 91), (.aload 0, 0, 0, 0, 0, 94), (.getfield 0, 11, 15, 0, 398, 95), (.invokevirtual 104, 1, 0, 7, 729, 98), (.aload 0, 0, 0, 0, 0, 101), (.getfield 0, 11, 15, 0, 398, 102), (.iload 4, 0, 0, 0, 0, 105), (.invokevirtual 105, 2, 0, 7, 734, 107), (.aload 0, 0, 0, 0, 0, 110), (.getfield 0, 11, 15, 0, 398, 111), (.aload 3, 0, 0, 0, 0, 114), (.aload 0, 0, 0, 0, 0, 115), (.getfield 0, 11, 1, 0, 384, 116), (.iload 2, 0, 0, 0, 0, 119), (.invokevirtual 75, 3, 1, 4, 1244, 120), (.invokevirtual 105, 2, 0, 7, 734, 123), (.aload 0, 0, 0, 0, 0, 126), (.getfield 0, 11, 15, 0, 398, 127), (.iload 5, 0, 0, 0, 0, 130), (.invokevirtual 105, 2, 0, 7, 734, 132), (.iload 4, 0, 0, 0, 0, 135), (.invokestatic 0, 1, 1, 0, 1040, 137), (.ireturn, 0, 0, 0, 0, 140)], [([true, true, true, true, true, true, true], 0), ([true, false, true, true, true, true, true], 29)])
def T_X11_made : jT := ([(.aload 0, 0, 0, 0, 0, 0), (.aload 0, 0, 0, 0, 0, 1), (.getfield 0, 11, 4, 0, 387, 2), (.invokevirtual 179, 2, 0, 11, 994, 5), (.aload 0, 0, 0, 0, 0, 8), (.getfield 0, 11, 12, 0, 395, 9), (.invokevirtual 121, 1, 0, 8, 856, 12), (.aload 0, 0, 0, 0, 0, 15), (.getfield 0, 11, 13, 0, 396, 16), (.aload 0, 0, 0, 0, 0, 19), (.getfield 0, 11, 12, 0, 395, 20), (.aload 0, 0, 0, 0, 0, 23), (.getfield 0, 11, 1, 0, 384, 24), (.aload 0, 0, 0, 0, 0, 27), (.getfield 0, 11, 4, 0, 387, 28), (.invokevirtual 91, 4, 1, 5, 1262, 31), (.istore 1, 0, 0, 0, 0, 34), (.iload 1, 0, 0, 0, 0, 35), (.iconst (-1), 0, 0, 0, 0, 36), (.if_icmp .ne 0, 0, 2, 0, 0, 37), (.iconst (-2), 0, 0, 0, 0, 40), (.ireturn, 0, 0, 0, 0, 42), (.aload 0, 0, 0, 0, 0, 43), (.getfield 0, 11, 15, 0, 398, 44), (.invokevirtual 104, 1, 0, 7, 729, 47), (.aload 0, 0, 0, 0, 0, 50), (.getfield 0, 11, 15, 0, 398, 51), (.iload 1, 0, 0, 0, 0, 54), (.invokevirtual 105, 2, 0, 7, 734, 55), (.iload 1, 0, 0, 0, 0, 58), (.invokestatic 0, 1, 1, 0, 1040, 59), (.ireturn, 0, 0, 0, 0, 62)], [([true, true], 0)])
def T_X11_keep : jT := ([(.iload 1, 0, 0, 0, 0, 0), (.ifCond .lt 0, 0, 3, 0, 0, 1), (.iload 1, 0, 0, 0, 0, 4), (.iconst 2, 0, 0, 0, 0, 5), (.if_icmp .lt 0, 0, 2, 0, 0, 6), (.iconst 0, 0, 0, 0, 0, 9), (.ireturn, 1, 0, 0, 0, 10), (.aload 0, 0, 0, 0, 0, 11), (.getfield 0, 11, 9, 0, 392, 12), (.iload 1, 0, 0, 0, 0, 15), (.aaload, 25, 0, 0, 0, 16), (.aload 0, 0, 0, 0, 0, 17), (.getfield 0, 11, 4, 0, 387, 18), (.invokevirtual 40, 2, 0, 2, 808, 21), (.aload 0, 0, 0, 0, 0, 24), (.getfield 0, 11, 10, 0, 393, 25), (.iload 1, 0, 0, 0, 0, 28), (.aaload, 26, 0, 0, 0, 29), (.aload 0, 0, 0, 0, 0, 30), (.getfield 0, 11, 6, 0, 389, 31), (.invokevirtual 8, 2, 0, 0, 1305, 34), (.aload 0, 0, 0, 0, 0, 37), (.getfield 0, 11, 11, 0, 394, 38), (.iload 1, 0, 0, 0, 0, 41), (.aload 0, 0, 0, 0, 0, 42), (.getfield 0, 11, 1, 0, 384, 43), (.invokevirtual 9, 1, 1, 1, 586, 46), (.iastore, 0, 0, 0, 0, 49), (.iconst 1, 0, 0, 0, 0, 50), (.ireturn, 1, 0, 0, 0, 51)], [([true, true], 0)])
def T_X11_again : jT := ([(.iload 1, 0, 0, 0, 0, 0), (.ifCond .lt 0, 0, 11, 0, 0, 1), (.iload 1, 0, 0, 0, 0, 4), (.iconst 2, 0, 0, 0, 0, 5), (.if_icmp .ge 0, 0, 8, 0, 0, 6), (.aload 0, 0, 0, 0, 0, 9), (.getfield 0, 11, 11, 0, 394, 10), (.iload 1, 0, 0, 0, 0, 13), (.iaload, 0, 0, 0, 0, 14), (.aload 0, 0, 0, 0, 0, 15), (.getfield 0, 11, 1, 0, 384, 16), (.invokevirtual 9, 1, 1, 1, 586, 19), (.if_icmp .eq 0, 0, 2, 0, 0, 22), (.iconst 0, 0, 0, 0, 0, 25), (.ireturn, 1, 0, 0, 0, 26), (.aload 0, 0, 0, 0, 0, 27), (.getfield 0, 11, 4, 0, 387, 28), (.aload 0, 0, 0, 0, 0, 31), (.getfield 0, 11, 9, 0, 392, 32), (.iload 1, 0, 0, 0, 0, 35), (.aaload, 25, 0, 0, 0, 36), (.invokevirtual 40, 2, 0, 2, 808, 37), (.aload 0, 0, 0, 0, 0, 40), (.getfield 0, 11, 6, 0, 389, 41), (.aload 0, 0, 0, 0, 0, 44), (.getfield 0, 11, 10, 0, 393, 45), (.iload 1, 0, 0, 0, 0, 48), (.aaload, 26, 0, 0, 0, 49), (.invokevirtual 8, 2, 0, 0, 1305, 50), (.iconst 1, 0, 0, 0, 0, 53), (.ireturn, 1, 0, 0, 0, 54)], [([true, true], 0)])
def T_X11_count : jT := ([(.iload 1, 0, 0, 0, 0, 0), (.lookupswitch 34 #[(0, 0), (1, 4), (2, 8), (3, 12), (4, 16), (5, 23), (6, 27), (7, 31)], 0, 0, 0, 0, 1), (.aload 0, 0, 0, 0, 0, 48), (.getfield 0, 11, 1, 0, 384, 49), (.invokevirtual 9, 1, 1, 1, 586, 52), (.ireturn, 0, 0, 0, 0, 55), (.aload 0, 0, 0, 0, 0, 56), (.getfield 0, 11, 1, 0, 384, 57), (.invokevirtual 10, 1, 1, 1, 1122, 60), (.ireturn, 0, 0, 0, 0, 63), (.aload 0, 0, 0, 0, 0, 64), (.getfield 0, 11, 6, 0, 389, 65), (.invokevirtual 2, 1, 1, 0, 660, 68), (.ireturn, 0, 0, 0, 0, 71), (.aload 0, 0, 0, 0, 0, 72), (.getfield 0, 11, 6, 0, 389, 73), (.invokevirtual 4, 1, 1, 0, 617, 76), (.ireturn, 0, 0, 0, 0, 79), (.aload 0, 0, 0, 0, 0, 80), (.getfield 0, 11, 1, 0, 384, 81), (.aload 0, 0, 0, 0, 0, 84), (.getfield 0, 11, 6, 0, 389, 85), (.invokevirtual 3, 1, 1, 0, 613, 88), (.invokevirtual 25, 2, 1, 1, 1318, 91), (.ireturn, 0, 0, 0, 0, 94), (.aload 0, 0, 0, 0, 0, 95), (.getfield 0, 11, 15, 0, 398, 96), (.invokevirtual 102, 1, 1, 7, 949, 99), (.ireturn, 0, 0, 0, 0, 102), (.aload 0, 0, 0, 0, 0, 103), (.getfield 0, 11, 0, 0, 383, 104), (.invokevirtual 139, 1, 1, 10, 440, 107), (.ireturn, 0, 0, 0, 0, 110), (.aload 0, 0, 0, 0, 0, 111), (.invokevirtual 204, 1, 1, 11, 1322, 112), (.ireturn, 0, 0, 0, 0, 115), (.iconst (-1), 0, 0, 0, 0, 116), (.ireturn, 0, 0, 0, 0, 117)], [([true, true], 0)])
def T_X11_row : jT := ([(.iload 1, 0, 0, 0, 0, 0), (.ifCond .lt 0, 0, 5, 0, 0, 1), (.iload 1, 0, 0, 0, 0, 4), (.aload 0, 0, 0, 0, 0, 5), (.getfield 0, 11, 15, 0, 398, 6), (.invokevirtual 102, 1, 1, 7, 949, 9), (.if_icmp .lt 0, 0, 1, 0, 0, 12), (.athrow, 0, 0, 0, 0, 15), (.aload 0, 0, 0, 0, 0, 23), (.getfield 0, 11, 15, 0, 398, 24), (.iload 1, 0, 0, 0, 0, 27), (.invokevirtual 103, 2, 1, 7, 1421, 28), (.ireturn, 0, 0, 0, 0, 31)], [([true, true], 0)])
def T_X11_menusLaid : jT := ([(.iconst 0, 0, 0, 0, 0, 0), (.istore 1, 0, 0, 0, 0, 1), (.iconst 0, 0, 0, 0, 0, 2), (.istore 2, 0, 0, 0, 0, 3), (.nop, 1, 0, 0, 0, 4), (.iload 2, 0, 0, 0, 0, 4), (.iconst 3, 0, 0, 0, 0, 5), (.if_icmp .ge 0, 0, 14, 0, 0, 6), (.iload 1, 0, 0, 0, 0, 9), (.aload 0, 0, 0, 0, 0, 10), (.iload 2, 0, 0, 0, 0, 11), (.invokevirtual 166, 2, 1, 11, 704, 12), (.ifCond .eq 0, 0, 4, 0, 0, 15), (.iconst 1, 0, 0, 0, 0, 18), (.iload 2, 0, 0, 0, 0, 19), (.ishl, 0, 0, 0, 0, 20), (.goto 0, 0, 1, 0, 0, 21), (.iconst 0, 0, 0, 0, 0, 24), (.ior, 0, 0, 0, 0, 25), (.istore 1, 0, 0, 0, 0, 26), (.iinc 2 1, 0, 0, 0, 0, 27), (.goto 0, 1, 1, 0, 0, 30), (.iload 1, 0, 0, 0, 0, 33), (.ireturn, 0, 0, 0, 0, 34)], [([true, true, true], 0), ([true, true, true], 5)])
def T_X12_thrown : jT := ([(.aload 0, 0, 0, 0, 0, 0), (.getfield 0, 12, 20, 0, 1451, 1), (.ireturn, 0, 0, 0, 0, 4)], [([true], 0)])
def T_X12_in : jT := ([(.iload 0, 0, 0, 0, 0, 0), (.iload 1, 0, 0, 0, 0, 1), (.if_icmp .lt 0, 0, 5, 0, 0, 2), (.iload 0, 0, 0, 0, 0, 5), (.iload 2, 0, 0, 0, 0, 6), (.if_icmp .gt 0, 0, 2, 0, 0, 7), (.iconst 1, 0, 0, 0, 0, 10), (.goto 0, 0, 1, 0, 0, 11), (.iconst 0, 0, 0, 0, 0, 14), (.ireturn, 1, 0, 0, 0, 15)], [([true, true, true], 0)])
def T_X12_has : jT := ([(.iload 0, 0, 0, 0, 0, 0), (.iload 1, 0, 0, 0, 0, 1), (.ishr, 0, 0, 0, 0, 2), (.iconst 1, 0, 0, 0, 0, 3), (.iand, 0, 0, 0, 0, 4), (.iconst 1, 0, 0, 0, 0, 5), (.if_icmp .ne 0, 0, 2, 0, 0, 6), (.iconst 1, 0, 0, 0, 0, 9), (.goto 0, 0, 1, 0, 0, 10), (.iconst 0, 0, 0, 0, 0, 13), (.ireturn, 1, 0, 0, 0, 14)], [([true, true], 0)])
def T_X12_lost : jT := ([(.aload 0, 0, 0, 0, 0, 0), (.iconst 1, 0, 0, 0, 0, 1), (.putfield 0, 12, 20, 0, 1451, 2), (.iconst 0, 0, 0, 0, 0, 5), (.ireturn, 0, 0, 0, 0, 6)], [([true], 0)])
def T_X12_tell : jT := ([(.aload 0, 0, 0, 0, 0, 0), (.getfield 0, 12, 18, 0, 1449, 1), (.aload 0, 0, 0, 0, 0, 4), (.getfield 0, 12, 19, 0, 1450, 5), (.iload 1, 0, 0, 0, 0, 8), (.iastore, 0, 0, 0, 0, 9), (.aload 0, 0, 0, 0, 0, 10), (.dup, 0, 0, 0, 0, 11), (.getfield 0, 12, 19, 0, 1450, 12), (.iconst 1, 0, 0, 0, 0, 15), (.iadd, 0, 0, 0, 0, 16), (.putfield 0, 12, 19, 0, 1450, 17), (.return_, 0, 0, 0, 0, 20)], [([true, true], 0)])
def T_X12_isDish : jT := ([(.iload 1, 0, 0, 0, 0, 0), (.iconst 0, 0, 0, 0, 0, 1), (.aload 0, 0, 0, 0, 0, 2), (.getfield 0, 12, 1, 0, 1432, 3), (.iconst 1, 0, 0, 0, 0, 6), (.isub, 0, 0, 0, 0, 7), (.invokestatic 206, 3, 1, 12, 1605, 8), (.ireturn, 1, 0, 0, 0, 11)], [([true, true], 0)])
def T_X12_isGuest : jT := ([(.iload 1, 0, 0, 0, 0, 0), (.iconst 0, 0, 0, 0, 0, 1), (.aload 0, 0, 0, 0, 0, 2), (.getfield 0, 12, 6, 0, 1437, 3), (.iconst 1, 0, 0, 0, 0, 6), (.isub, 0, 0, 0, 0, 7), (.invokestatic 206, 3, 1, 12, 1605, 8), (.ireturn, 1, 0, 0, 0, 11)], [([true, true], 0)])
def T_X12_sign : jT := ([(.aload 0, 0, 0, 0, 0, 0), (.iconst 0, 0, 0, 0, 0, 1), (.putfield 0, 12, 20, 0, 1451, 2), (.aload 0, 0, 0, 0, 0, 5), (.getfield 0, 12, 17, 0, 1448, 6), (.iconst 4, 0, 0, 0, 0, 9), (.iadd, 0, 0, 0, 0, 10), (.iconst 80, 0, 0, 0, 0, 11), (.if_icmp .le 0, 0, 2, 0, 0, 13), (.iconst (-1), 0, 0, 0, 0, 16), (.ireturn, 0, 0, 0, 0, 17), (.iconst 3, 0, 0, 0, 0, 18), (.istore 2, 0, 0, 0, 0, 19), (.nop, 1, 0, 0, 0, 20), (.iload 2, 0, 0, 0, 0, 20), (.ifCond .lt 0, 0, 18, 0, 0, 21), (.aload 0, 0, 0, 0, 0, 24), (.getfield 0, 12, 16, 0, 1447, 25), (.aload 0, 0, 0, 0, 0, 28), (.dup, 0, 0, 0, 0, 29), (.getfield 0, 12, 17, 0, 1448, 30), (.dup_x1, 0, 0, 0, 0, 33), (.iconst 1, 0, 0, 0, 0, 34), (.iadd, 0, 0, 0, 0, 35), (.putfield 0, 12, 17, 0, 1448, 36), (.iload 1, 0, 0, 0, 0, 39), (.iconst 8, 0, 0, 0, 0, 40), (.iload 2, 0, 0, 0, 0, 42), (.imul, 0, 0, 0, 0, 43), (.ishr, 0, 0, 0, 0, 44), (.i2b, 0, 0, 0, 0, 45), (.bastore, 21, 0, 0, 0, 46), (.iinc 2 (-1), 0, 0, 0, 0, 47), (.goto 0, 1, 1, 0, 0, 50), (.aload 0, 0, 0, 0, 0, 53), (.getfield 0, 12, 17, 0, 1448, 54), (.ireturn, 0, 0, 0, 0, 57)], [([true, true, true], 0), ([true, true, true], 14)])
def T_X12_end : jT := ([(.aload 0, 0, 0, 0, 0, 0), (.iconst 0, 0, 0, 0, 0, 1), (.putfield 0, 12, 20, 0, 1451, 2), (.iload 1, 0, 0, 0, 0, 5), (.iconst 0, 0, 0, 0, 0, 6), (.aload 0, 0, 0, 0, 0, 7), (.getfield 0, 12, 17, 0, 1448, 8), (.invokestatic 206, 3, 1, 12, 1605, 11), (.ifCond .ne 0, 0, 2, 0, 0, 14), (.iconst 0, 0, 0, 0, 0, 17), (.ireturn, 1, 0, 0, 0, 18), (.aload 0, 0, 0, 0, 0, 19), (.iload 1, 0, 0, 0, 0, 20), (.putfield 0, 12, 17, 0, 1448, 21), (.iconst 1, 0, 0, 0, 0, 24), (.ireturn, 1, 0, 0, 0, 25)], [([true, true], 0)])
def T_X12_begin : jT := ([(.aload 0, 0, 0, 0, 0, 0), (.aload 1, 0, 0, 0, 0, 1), (.putfield 0, 12, 21, 0, 1452, 2), (.aload 0, 0, 0, 0, 0, 5), (.iload 2, 0, 0, 0, 0, 6), (.putfield 0, 12, 22, 0, 1453, 7), (.aload 0, 0, 0, 0, 0, 10), (.iload 3, 0, 0, 0, 0, 11), (.putfield 0, 12, 23, 0, 1454, 12), (.aload 0, 0, 0, 0, 0, 15), (.iconst 0, 0, 0, 0, 0, 16), (.putfield 0, 12, 24, 0, 1455, 17), (.aload 0, 0, 0, 0, 0, 20), (.iconst (-1), 0, 0, 0, 0, 21), (.putfield 0, 12, 25, 0, 1456, 22), (.return_, 0, 0, 0, 0, 25)], [([true, true, true, true], 0)])
def T_X12_here : jT := ([(.aload 0, 0, 0, 0, 0, 0), (.getfield 0, 12, 24, 0, 1455, 1), (.aload 0, 0, 0, 0, 0, 4), (.getfield 0, 12, 22, 0, 1453, 5), (.if_icmp .ge 0, 0, 11, 0, 0, 8), (.aload 0, 0, 0, 0, 0, 11), (.getfield 0, 12, 24, 0, 1455, 12), (.aload 0, 0, 0, 0, 0, 15), (.getfield 0, 12, 23, 0, 1454, 16), (.if_icmp .ge 0, 0, 6, 0, 0, 19), (.aload 0, 0, 0, 0, 0, 22), (.getfield 0, 12, 21, 0, 1452, 23), (.aload 0, 0, 0, 0, 0, 26), (.getfield 0, 12, 24, 0, 1455, 27), (.baload, 21, 0, 0, 0, 30), (.goto 0, 0, 1, 0, 0, 31), (.iconst (-1), 0, 0, 0, 0, 34), (.ireturn, 0, 0, 0, 0, 35)], [([true], 0)])
def T_X12_fine : jT := ([(.aload 0, 0, 0, 0, 0, 0), (.getfield 0, 12, 25, 0, 1456, 1), (.iconst (-1), 0, 0, 0, 0, 4), (.if_icmp .ne 0, 0, 2, 0, 0, 5), (.iconst 1, 0, 0, 0, 0, 8), (.goto 0, 0, 1, 0, 0, 9), (.iconst 0, 0, 0, 0, 0, 12), (.ireturn, 1, 0, 0, 0, 13)], [([true], 0)])
def T_X12_fault : jT := ([(.aload 0, 0, 0, 0, 0, 0), (.invokevirtual 216, 1, 1, 12, 1616, 1), (.ifCond .eq 0, 0, 3, 0, 0, 4), (.aload 0, 0, 0, 0, 0, 7), (.iload 1, 0, 0, 0, 0, 8), (.putfield 0, 12, 25, 0, 1456, 9), (.return_, 0, 0, 0, 0, 12)], [([true, true], 0)])
def T_X12_passes : jT := ([(.aload 0, 0, 0, 0, 0, 0), (.invokevirtual 216, 1, 1, 12, 1616, 1), (.ifCond .eq 0, 0, 4, 0, 0, 4), (.aload 0, 0, 0, 0, 0, 7), (.invokevirtual 215, 1, 1, 12, 1620, 8), (.iload 1, 0, 0, 0, 0, 11), (.if_icmp .eq 0, 0, 2, 0, 0, 12), (.iconst 0, 0, 0, 0, 0, 15), (.ireturn, 1, 0, 0, 0, 16), (.aload 0, 0, 0, 0, 0, 17), (.dup, 0, 0, 0, 0, 18), (.getfield 0, 12, 24, 0, 1455, 19), (.iconst 1, 0, 0, 0, 0, 22), (.iadd, 0, 0, 0, 0, 23), (.putfield 0, 12, 24, 0, 1455, 24), (.iconst 1, 0, 0, 0, 0, 27), (.ireturn, 1, 0, 0, 0, 28)], [([true, true], 0)])
def T_X12_number : jT := ([(.aload 0, 0, 0, 0, 0, 0), (.invokevirtual 216, 1, 1, 12, 1616, 1), (.ifCond .ne 0, 0, 2, 0, 0, 4), (.iconst 0, 0, 0, 0, 0, 7), (.ireturn, 0, 0, 0, 0, 8), (.aload 0, 0, 0, 0, 0, 9), (.getfield 0, 12, 24, 0, 1455, 10), (.istore 2, 0, 0, 0, 0, 13), (.iconst 0, 0, 0, 0, 0, 14), (.istore 3, 0, 0, 0, 0, 15), (.nop, 1, 0, 0, 0, 16), (.aload 0, 0, 0, 0, 0, 16), (.getfield 0, 12, 24, 0, 1455, 17), (.iload 2, 0, 0, 0, 0, 20), (.iload 1, 0, 0, 0, 0, 21), (.iadd, 0, 0, 0, 0, 22), (.if_icmp .ge 0, 0, 22, 0, 0, 23), (.aload 0, 0, 0, 0, 0, 26), (.invokevirtual 215, 1, 1, 12, 1620, 27), (.iconst 48, 0, 0, 0, 0, 30), (.iconst 57, 0, 0, 0, 0, 32), (.invokestatic 206, 3, 1, 12, 1605, 34), (.ifCond .eq 0, 0, 16, 0, 0, 37), (.iconst 10, 0, 0, 0, 0, 40), (.iload 3, 0, 0, 0, 0, 42), (.imul, 0, 0, 0, 0, 43), (.aload 0, 0, 0, 0, 0, 44), (.invokevirtual 215, 1, 1, 12, 1620, 45), (.iadd, 0, 0, 0, 0, 48), (.iconst 48, 0, 0, 0, 0, 49), (.isub, 0, 0, 0, 0, 51), (.istore 3, 0, 0, 0, 0, 52), (.aload 0, 0, 0, 0, 0, 53), (.dup, 0, 0, 0, 0, 54), (.getfield 0, 12, 24, 0, 1455, 55), (.iconst 1, 0, 0, 0, 0, 58), (.iadd, 0, 0, 0, 0, 59), (.putfield 0, 12, 24, 0, 1455, 60), (.goto 0, 1, 1, 0, 0, 63), (.aload 0, 0, 0, 0, 0, 66), (.getfield 0, 12, 24, 0, 1455, 67), (.iload 2, 0, 0, 0, 0, 70), (.if_icmp .ne 0, 0, 4, 0, 0, 71), (.aload 0, 0, 0, 0, 0, 74), (.aload 0, 0, 0, 0, 0, 75), (.getfield 0, 12, 24, 0, 1455, 76), (.invokevirtual 217, 2, 0, 12, 1624, 79), (.iload 3, 0, 0, 0, 0, 82), (.ireturn, 0, 0, 0, 0, 83)], [([true, true, true, true], 0), ([true, true, true, true], 11)])
def T_X12_letters : jT := ([(.iconst 0, 0, 0, 0, 0, 0), (.istore 2, 0, 0, 0, 0, 1), (.iconst (-1), 0, 0, 0, 0, 2), (.istore 3, 0, 0, 0, 0, 3), (.nop, 1, 0, 0, 0, 4), (.aload 0, 0, 0, 0, 0, 4), (.invokevirtual 216, 1, 1, 12, 1616, 5), (.ifCond .eq 0, 0, 35, 0, 0, 8), (.aload 0, 0, 0, 0, 0, 11), (.invokevirtual 215, 1, 1, 12, 1620, 12), (.iconst 97, 0, 0, 0, 0, 15), (.iconst 104, 0, 0, 0, 0, 17), (.invokestatic 206, 3, 1, 12, 1605, 19), (.ifCond .eq 0, 0, 29, 0, 0, 22), (.aload 0, 0, 0, 0, 0, 25), (.invokevirtual 215, 1, 1, 12, 1620, 26), (.iconst 97, 0, 0, 0, 0, 29), (.isub, 0, 0, 0, 0, 31), (.istore 4, 0, 0, 0, 0, 32), (.iload 4, 0, 0, 0, 0, 34), (.iload 3, 0, 0, 0, 0, 36), (.if_icmp .gt 0, 0, 6, 0, 0, 37), (.aload 0, 0, 0, 0, 0, 40), (.aload 0, 0, 0, 0, 0, 41), (.getfield 0, 12, 24, 0, 1455, 42), (.invokevirtual 217, 2, 0, 12, 1624, 45), (.iconst 0, 0, 0, 0, 0, 48), (.ireturn, 0, 0, 0, 0, 49), (.iload 4, 0, 0, 0, 0, 50), (.istore 3, 0, 0, 0, 0, 52), (.iload 2, 0, 0, 0, 0, 53), (.iconst 1, 0, 0, 0, 0, 54), (.iload 4, 0, 0, 0, 0, 55), (.ishl, 0, 0, 0, 0, 57), (.ior, 0, 0, 0, 0, 58), (.istore 2, 0, 0, 0, 0, 59), (.aload 0, 0, 0, 0, 0, 60), (.dup, 0, 0, 0, 0, 61), (.getfield 0, 12, 24, 0, 1455, 62), (.iconst 1, 0, 0, 0, 0, 65), (.iadd, 0, 0, 0, 0, 66), (.putfield 0, 12, 24, 0, 1455, 67), (.goto 0, 1, 1, 0, 0, 70), (.iload 1, 0, 0, 0, 0, 73), (.ifCond .eq 0, 0, 6, 0, 0, 74), (.iload 2, 0, 0, 0, 0, 77), (.ifCond .ne 0, 0, 4, 0, 0, 78), (.aload 0, 0, 0, 0, 0, 81), (.aload 0, 0, 0, 0, 0, 82), (.getfield 0, 12, 24, 0, 1455, 83), (.invokevirtual 217, 2, 0, 12, 1624, 86), (.iload 2, 0, 0, 0, 0, 89), (.ireturn, 0, 0, 0, 0, 90)], [([true, true, true, true, true], 0), ([true, true, true, true, false], 5)])
def T_X12_kitchen : jT := ([(.aload 0, 0, 0, 0, 0, 0), (.iconst 0, 0, 0, 0, 0, 1), (.putfield 0, 12, 20, 0, 1451, 2), (.aload 0, 0, 0, 0, 0, 5), (.aload 0, 0, 0, 0, 0, 6), (.getfield 0, 12, 16, 0, 1447, 7), (.aload 0, 0, 0, 0, 0, 10), (.getfield 0, 12, 17, 0, 1448, 11), (.iconst 76, 0, 0, 0, 0, 14), (.invokevirtual 214, 4, 0, 12, 1612, 16), (.aload 0, 0, 0, 0, 0, 19), (.iconst 0, 0, 0, 0, 0, 20), (.putfield 0, 12, 17, 0, 1448, 21), (.aload 0, 0, 0, 0, 0, 24), (.getfield 0, 12, 22, 0, 1453, 25), (.ifCond .ne 0, 0, 2, 0, 0, 28), (.iconst 0, 0, 0, 0, 0, 31), (.ireturn, 0, 0, 0, 0, 32), (.aload 0, 0, 0, 0, 0, 33), (.getfield 0, 12, 1, 0, 1432, 34), (.istore 1, 0, 0, 0, 0, 37), (.aload 0, 0, 0, 0, 0, 38), (.getfield 0, 12, 6, 0, 1437, 39), (.istore 2, 0, 0, 0, 0, 42), (.iconst 0, 0, 0, 0, 0, 43), (.istore 3, 0, 0, 0, 0, 44), (.iconst 1, 0, 0, 0, 0, 45), (.istore 4, 0, 0, 0, 0, 46), (.nop, 1, 0, 0, 0, 48), (.iload 4, 0, 0, 0, 0, 48), (.ifCond .eq 0, 1, 4, 0, 0, 50), (.aload 0, 0, 0, 0, 0, 53), (.invokevirtual 216, 1, 1, 12, 1616, 54), (.ifCond .eq 0, 1, 4, 0, 0, 57), (.aload 0, 0, 0, 0, 0, 60), (.invokevirtual 215, 1, 1, 12, 1620, 61), (.iconst 71, 0, 0, 0, 0, 64), (.if_icmp .ne 0, 0, 14, 0, 0, 66), (.iload 2, 0, 0, 0, 0, 69), (.iconst 6, 0, 0, 0, 0, 70), (.if_icmp .ne 0, 0, 5, 0, 0, 72), (.aload 0, 0, 0, 0, 0, 75), (.aload 0, 0, 0, 0, 0, 76), (.getfield 0, 12, 24, 0, 1455, 77), (.invokevirtual 217, 2, 0, 12, 1624, 80), (.goto 0, 1, 2, 0, 0, 83), (.aload 0, 0, 0, 0, 0, 86), (.iload 2, 0, 0, 0, 0, 87), (.invokevirtual 222, 2, 0, 12, 1628, 88), (.nop, 2, 0, 0, 0, 91), (.iinc 2 1, 0, 0, 0, 0, 91), (.goto 0, 1, 3, 0, 0, 94), (.iload 1, 0, 0, 0, 0, 97), (.iconst 10, 0, 0, 0, 0, 98), (.if_icmp .ne 0, 0, 5, 0, 0, 100), (.aload 0, 0, 0, 0, 0, 103), (.aload 0, 0, 0, 0, 0, 104), (.getfield 0, 12, 24, 0, 1455, 105), (.invokevirtual 217, 2, 0, 12, 1624, 108), (.goto 0, 1, 3, 0, 0, 111), (.aload 0, 0, 0, 0, 0, 114), (.getfield 0, 12, 2, 0, 1433, 115), (.iload 1, 0, 0, 0, 0, 118), (.aload 0, 0, 0, 0, 0, 119), (.iconst 1, 0, 0, 0, 0, 120), (.invokevirtual 220, 2, 1, 12, 1632, 121), (.iastore, 0, 0, 0, 0, 124), (.aload 0, 0, 0, 0, 0, 125), (.getfield 0, 12, 3, 0, 1434, 126), (.iload 1, 0, 0, 0, 0, 129), (.aload 0, 0, 0, 0, 0, 130), (.iconst 2, 0, 0, 0, 0, 131), (.invokevirtual 219, 2, 1, 12, 1640, 132), (.iastore, 0, 0, 0, 0, 135), (.aload 0, 0, 0, 0, 0, 136), (.getfield 0, 12, 4, 0, 1435, 137), (.iload 1, 0, 0, 0, 0, 140), (.aload 0, 0, 0, 0, 0, 141), (.iconst 72, 0, 0, 0, 0, 142), (.invokevirtual 218, 2, 1, 12, 1636, 144), (.bastore, 22, 0, 0, 0, 147), (.aload 0, 0, 0, 0, 0, 148), (.getfield 0, 12, 5, 0, 1436, 149), (.iload 1, 0, 0, 0, 0, 152), (.aload 0, 0, 0, 0, 0, 153), (.iconst 43, 0, 0, 0, 0, 154), (.invokevirtual 218, 2, 1, 12, 1636, 156), (.ifCond .eq 0, 0, 4, 0, 0, 159), (.aload 0, 0, 0, 0, 0, 162), (.iconst 1, 0, 0, 0, 0, 163), (.invokevirtual 219, 2, 1, 12, 1640, 164), (.goto 0, 0, 1, 0, 0, 167), (.iconst 0, 0, 0, 0, 0, 170), (.iastore, 0, 0, 0, 0, 171), (.iinc 1 1, 0, 0, 0, 0, 172), (.nop, 3, 0, 0, 0, 175), (.iinc 3 1, 0, 0, 0, 0, 175), (.aload 0, 0, 0, 0, 0, 178), (.iconst 59, 0, 0, 0, 0, 179), (.invokevirtual 218, 2, 1, 12, 1636, 181), (.istore 4, 0, 0, 0, 0, 184), (.goto 0, 1, 1, 0, 0, 186), (.nop, 4, 0, 0, 0, 189), (.aload 0, 0, 0, 0, 0, 189), (.getfield 0, 12, 24, 0, 1455, 190), (.aload 0, 0, 0, 0, 0, 193), (.getfield 0, 12, 22, 0, 1453, 194), (.if_icmp .ge 0, 1, 5, 0, 0, 197), (.aload 0, 0, 0, 0, 0, 200), (.aload 0, 0, 0, 0, 0, 201), (.getfield 0, 12, 24, 0, 1455, 202), (.invokevirtual 217, 2, 0, 12, 1624, 205), (.nop, 5, 0, 0, 0, 208), (.aload 0, 0, 0, 0, 0, 208), (.invokevirtual 216, 1, 1, 12, 1616, 209), (.ifCond .ne 0, 0, 5, 0, 0, 212), (.iconst (-1), 0, 0, 0, 0, 215), (.aload 0, 0, 0, 0, 0, 216), (.getfield 0, 12, 25, 0, 1456, 217), (.isub, 0, 0, 0, 0, 220), (.ireturn, 0, 0, 0, 0, 221), (.iload 1, 0, 0, 0, 0, 222), (.aload 0, 0, 0, 0, 0, 223), (.getfield 0, 12, 1, 0, 1432, 224), (.if_icmp .le 0, 1, 6, 0, 0, 227), (.aload 0, 0, 0, 0, 0, 230), (.dup, 0, 0, 0, 0, 231), (.getfield 0, 12, 49, 0, 1480, 232), (.iconst 1, 0, 0, 0, 0, 235), (.iadd, 0, 0, 0, 0, 236), (.putfield 0, 12, 49, 0, 1480, 237), (.nop, 6, 0, 0, 0, 240), (.aload 0, 0, 0, 0, 0, 240), (.iload 1, 0, 0, 0, 0, 241), (.putfield 0, 12, 1, 0, 1432, 242), (.aload 0, 0, 0, 0, 0, 245), (.iload 2, 0, 0, 0, 0, 246), (.putfield 0, 12, 6, 0, 1437, 247), (.iload 3, 0, 0, 0, 0, 250), (.ireturn, 0, 0, 0, 0, 251)], [([true, true, true, true, true], 0), ([true, true, true, true, true], 29), ([true, true, true, true, false], 50), ([true, true, true, true, false], 96), ([true, true, true, true, false], 103), ([true, true, true, true, false], 113), ([true, true, true, true, false], 132)])
def T_X12_readGuest : jT := ([(.aload 0, 0, 0, 0, 0, 0), (.dup, 0, 0, 0, 0, 1), (.getfield 0, 12, 24, 0, 1455, 2), (.iconst 1, 0, 0, 0, 0, 5), (.iadd, 0, 0, 0, 0, 6), (.putfield 0, 12, 24, 0, 1455, 7), (.aload 0, 0, 0, 0, 0, 10), (.getfield 0, 12, 7, 0, 1438, 11), (.iload 1, 0, 0, 0, 0, 14), (.aload 0, 0, 0, 0, 0, 15), (.iconst 0, 0, 0, 0, 0, 16), (.invokevirtual 220, 2, 1, 12, 1632, 17), (.iastore, 0, 0, 0, 0, 20), (.aload 0, 0, 0, 0, 0, 21), (.iconst 45, 0, 0, 0, 0, 22), (.invokevirtual 218, 2, 1, 12, 1636, 24), (.ifCond .ne 0, 0, 4, 0, 0, 27), (.aload 0, 0, 0, 0, 0, 30), (.aload 0, 0, 0, 0, 0, 31), (.getfield 0, 12, 24, 0, 1455, 32), (.invokevirtual 217, 2, 0, 12, 1624, 35), (.aload 0, 0, 0, 0, 0, 38), (.getfield 0, 12, 8, 0, 1439, 39), (.iload 1, 0, 0, 0, 0, 42), (.aload 0, 0, 0, 0, 0, 43), (.iconst 0, 0, 0, 0, 0, 44), (.invokevirtual 220, 2, 1, 12, 1632, 45), (.iastore, 0, 0, 0, 0, 48), (.return_, 0, 0, 0, 0, 49)], [([true, true], 0)])
def T_X12_held : jT := ([(.aload 0, 0, 0, 0, 0, 0), (.iload 1, 0, 0, 0, 0, 1), (.invokevirtual 224, 2, 1, 12, 1652, 2), (.istore 2, 0, 0, 0, 0, 5), (.aload 0, 0, 0, 0, 0, 6), (.iconst 60, 0, 0, 0, 0, 7), (.invokevirtual 218, 2, 1, 12, 1636, 9), (.ifCond .eq 0, 0, 9, 0, 0, 12), (.iload 2, 0, 0, 0, 0, 15), (.aload 0, 0, 0, 0, 0, 16), (.iload 1, 0, 0, 0, 0, 17), (.invokevirtual 224, 2, 1, 12, 1652, 18), (.if_icmp .ge 0, 0, 2, 0, 0, 21), (.iconst 1, 0, 0, 0, 0, 24), (.goto 0, 0, 1, 0, 0, 25), (.iconst 0, 0, 0, 0, 0, 28), (.ireturn, 0, 0, 0, 0, 29), (.aload 0, 0, 0, 0, 0, 30), (.iconst 62, 0, 0, 0, 0, 31), (.invokevirtual 218, 2, 1, 12, 1636, 33), (.ifCond .eq 0, 0, 9, 0, 0, 36), (.iload 2, 0, 0, 0, 0, 39), (.aload 0, 0, 0, 0, 0, 40), (.iload 1, 0, 0, 0, 0, 41), (.invokevirtual 224, 2, 1, 12, 1652, 42), (.if_icmp .le 0, 0, 2, 0, 0, 45), (.iconst 1, 0, 0, 0, 0, 48), (.goto 0, 0, 1, 0, 0, 49), (.iconst 0, 0, 0, 0, 0, 52), (.ireturn, 0, 0, 0, 0, 53), (.aload 0, 0, 0, 0, 0, 54), (.iconst 61, 0, 0, 0, 0, 55), (.invokevirtual 218, 2, 1, 12, 1636, 57), (.ifCond .eq 0, 0, 9, 0, 0, 60), (.iload 2, 0, 0, 0, 0, 63), (.aload 0, 0, 0, 0, 0, 64), (.iload 1, 0, 0, 0, 0, 65), (.invokevirtual 224, 2, 1, 12, 1652, 66), (.if_icmp .ne 0, 0, 2, 0, 0, 69), (.iconst 1, 0, 0, 0, 0, 72), (.goto 0, 0, 1, 0, 0, 73), (.iconst 0, 0, 0, 0, 0, 76), (.ireturn, 0, 0, 0, 0, 77), (.iload 2, 0, 0, 0, 0, 78), (.ireturn, 0, 0, 0, 0, 79)], [([true, true, true], 0)])
def T_X12_sum : jT := ([(.aload 0, 0, 0, 0, 0, 0), (.iload 1, 0, 0, 0, 0, 1), (.invokevirtual 225, 2, 1, 12, 1656, 2), (.istore 2, 0, 0, 0, 0, 5), (.nop, 1, 0, 0, 0, 6), (.aload 0, 0, 0, 0, 0, 6), (.invokevirtual 216, 1, 1, 12, 1616, 7), (.ifCond .eq 0, 0, 37, 0, 0, 10), (.aload 0, 0, 0, 0, 0, 13), (.invokevirtual 215, 1, 1, 12, 1620, 14), (.iconst 43, 0, 0, 0, 0, 17), (.if_icmp .eq 0, 0, 4, 0, 0, 19), (.aload 0, 0, 0, 0, 0, 22), (.invokevirtual 215, 1, 1, 12, 1620, 23), (.iconst 45, 0, 0, 0, 0, 26), (.if_icmp .ne 0, 0, 29, 0, 0, 28), (.aload 0, 0, 0, 0, 0, 31), (.invokevirtual 215, 1, 1, 12, 1620, 32), (.iconst 43, 0, 0, 0, 0, 35), (.if_icmp .ne 0, 0, 2, 0, 0, 37), (.iconst 1, 0, 0, 0, 0, 40), (.goto 0, 0, 1, 0, 0, 41), (.iconst 0, 0, 0, 0, 0, 44), (.istore 3, 0, 0, 0, 0, 45), (.aload 0, 0, 0, 0, 0, 46), (.dup, 0, 0, 0, 0, 47), (.getfield 0, 12, 24, 0, 1455, 48), (.iconst 1, 0, 0, 0, 0, 51), (.iadd, 0, 0, 0, 0, 52), (.putfield 0, 12, 24, 0, 1455, 53), (.aload 0, 0, 0, 0, 0, 56), (.iload 1, 0, 0, 0, 0, 57), (.invokevirtual 225, 2, 1, 12, 1656, 58), (.istore 4, 0, 0, 0, 0, 61), (.iload 3, 0, 0, 0, 0, 63), (.ifCond .eq 0, 0, 4, 0, 0, 64), (.iload 2, 0, 0, 0, 0, 67), (.iload 4, 0, 0, 0, 0, 68), (.iadd, 0, 0, 0, 0, 70), (.goto 0, 0, 3, 0, 0, 71), (.iload 2, 0, 0, 0, 0, 74), (.iload 4, 0, 0, 0, 0, 75), (.isub, 0, 0, 0, 0, 77), (.istore 2, 0, 0, 0, 0, 78), (.goto 0, 1, 1, 0, 0, 79), (.iload 2, 0, 0, 0, 0, 82), (.ireturn, 0, 0, 0, 0, 83)], [([true, true, true, true, true], 0), ([true, true, true, false, false], 5)])
def T_X12_product : jT := ([(.aload 0, 0, 0, 0, 0, 0), (.iload 1, 0, 0, 0, 0, 1), (.invokevirtual 226, 2, 1, 12, 1660, 2), (.istore 2, 0, 0, 0, 0, 5), (.nop, 1, 0, 0, 0, 6), (.aload 0, 0, 0, 0, 0, 6), (.invokevirtual 216, 1, 1, 12, 1616, 7), (.ifCond .eq 0, 0, 41, 0, 0, 10), (.aload 0, 0, 0, 0, 0, 13), (.invokevirtual 215, 1, 1, 12, 1620, 14), (.iconst 42, 0, 0, 0, 0, 17), (.if_icmp .eq 0, 0, 4, 0, 0, 19), (.aload 0, 0, 0, 0, 0, 22), (.invokevirtual 215, 1, 1, 12, 1620, 23), (.iconst 47, 0, 0, 0, 0, 26), (.if_icmp .ne 0, 0, 33, 0, 0, 28), (.aload 0, 0, 0, 0, 0, 31), (.invokevirtual 215, 1, 1, 12, 1620, 32), (.iconst 42, 0, 0, 0, 0, 35), (.if_icmp .ne 0, 0, 2, 0, 0, 37), (.iconst 1, 0, 0, 0, 0, 40), (.goto 0, 0, 1, 0, 0, 41), (.iconst 0, 0, 0, 0, 0, 44), (.istore 3, 0, 0, 0, 0, 45), (.aload 0, 0, 0, 0, 0, 46), (.dup, 0, 0, 0, 0, 47), (.getfield 0, 12, 24, 0, 1455, 48), (.iconst 1, 0, 0, 0, 0, 51), (.iadd, 0, 0, 0, 0, 52), (.putfield 0, 12, 24, 0, 1455, 53), (.aload 0, 0, 0, 0, 0, 56), (.iload 1, 0, 0, 0, 0, 57), (.invokevirtual 226, 2, 1, 12, 1660, 58), (.istore 4, 0, 0, 0, 0, 61), (.iload 3, 0, 0, 0, 0, 63), (.ifCond .eq 0, 0, 4, 0, 0, 64), (.iload 2, 0, 0, 0, 0, 67), (.iload 4, 0, 0, 0, 0, 68), (.imul, 0, 0, 0, 0, 70), (.goto 0, 0, 7, 0, 0, 71), (.iload 4, 0, 0, 0, 0, 74), (.ifCond .ne 0, 0, 2, 0, 0, 76), (.iconst 0, 0, 0, 0, 0, 79), (.goto 0, 0, 3, 0, 0, 80), (.iload 2, 0, 0, 0, 0, 83), (.iload 4, 0, 0, 0, 0, 84), (.idiv, 0, 0, 0, 0, 86), (.istore 2, 0, 0, 0, 0, 87), (.goto 0, 1, 1, 0, 0, 88), (.iload 2, 0, 0, 0, 0, 91), (.ireturn, 0, 0, 0, 0, 92)], [([true, true, true, true, true], 0), ([true, true, true, false, false], 5)])
def T_X12_thing : jT := ([(.aload 0, 0, 0, 0, 0, 0), (.iconst 45, 0, 0, 0, 0, 1), (.invokevirtual 218, 2, 1, 12, 1636, 3), (.ifCond .eq 0, 0, 5, 0, 0, 6), (.aload 0, 0, 0, 0, 0, 9), (.iload 1, 0, 0, 0, 0, 10), (.invokevirtual 226, 2, 1, 12, 1660, 11), (.ineg, 0, 0, 0, 0, 14), (.ireturn, 0, 0, 0, 0, 15), (.aload 0, 0, 0, 0, 0, 16), (.invokevirtual 216, 1, 1, 12, 1616, 17), (.ifCond .ne 0, 0, 2, 0, 0, 20), (.iconst 0, 0, 0, 0, 0, 23), (.ireturn, 0, 0, 0, 0, 24), (.aload 0, 0, 0, 0, 0, 25), (.invokevirtual 215, 1, 1, 12, 1620, 26), (.istore 2, 0, 0, 0, 0, 29), (.iload 2, 0, 0, 0, 0, 30), (.iconst 40, 0, 0, 0, 0, 31), (.if_icmp .ne 0, 1, 2, 0, 0, 33), (.iload 1, 0, 0, 0, 0, 36), (.iconst 4, 0, 0, 0, 0, 37), (.if_icmp .ge 0, 1, 2, 0, 0, 38), (.aload 0, 0, 0, 0, 0, 41), (.dup, 0, 0, 0, 0, 42), (.getfield 0, 12, 24, 0, 1455, 43), (.iconst 1, 0, 0, 0, 0, 46), (.iadd, 0, 0, 0, 0, 47), (.putfield 0, 12, 24, 0, 1455, 48), (.aload 0, 0, 0, 0, 0, 51), (.iload 1, 0, 0, 0, 0, 52), (.iconst 1, 0, 0, 0, 0, 53), (.iadd, 0, 0, 0, 0, 54), (.invokevirtual 223, 2, 1, 12, 1648, 55), (.istore 3, 0, 0, 0, 0, 58), (.aload 0, 0, 0, 0, 0, 59), (.iconst 41, 0, 0, 0, 0, 60), (.invokevirtual 218, 2, 1, 12, 1636, 62), (.ifCond .ne 0, 1, 1, 0, 0, 65), (.aload 0, 0, 0, 0, 0, 68), (.aload 0, 0, 0, 0, 0, 69), (.getfield 0, 12, 24, 0, 1455, 70), (.invokevirtual 217, 2, 0, 12, 1624, 73), (.nop, 1, 0, 0, 0, 76), (.iload 3, 0, 0, 0, 0, 76), (.ireturn, 0, 0, 0, 0, 77), (.nop, 2, 0, 0, 0, 78), (.iload 2, 0, 0, 0, 0, 78), (.iconst 48, 0, 0, 0, 0, 79), (.iconst 57, 0, 0, 0, 0, 81), (.invokestatic 206, 3, 1, 12, 1605, 83), (.ifCond .eq 0, 0, 4, 0, 0, 86), (.aload 0, 0, 0, 0, 0, 89), (.iconst 3, 0, 0, 0, 0, 90), (.invokevirtual 219, 2, 1, 12, 1640, 91), (.ireturn, 0, 0, 0, 0, 94), (.iload 2, 0, 0, 0, 0, 95), (.iconst 108, 0, 0, 0, 0, 96), (.if_icmp .eq 0, 1, 3, 0, 0, 98), (.iload 2, 0, 0, 0, 0, 101), (.iconst 98, 0, 0, 0, 0, 102), (.if_icmp .eq 0, 1, 3, 0, 0, 104), (.iload 2, 0, 0, 0, 0, 107), (.iconst 110, 0, 0, 0, 0, 108), (.if_icmp .eq 0, 1, 3, 0, 0, 110), (.iload 2, 0, 0, 0, 0, 113), (.iconst 99, 0, 0, 0, 0, 114), (.if_icmp .eq 0, 1, 3, 0, 0, 116), (.iload 2, 0, 0, 0, 0, 119), (.iconst 104, 0, 0, 0, 0, 120), (.if_icmp .eq 0, 1, 3, 0, 0, 122), (.iload 2, 0, 0, 0, 0, 125), (.iconst 111, 0, 0, 0, 0, 126), (.if_icmp .eq 0, 1, 3, 0, 0, 128), (.iload 2, 0, 0, 0, 0, 131), (.iconst 103, 0, 0, 0, 0, 132), (.if_icmp .eq 0, 1, 3, 0, 0, 134), (.iload 2, 0, 0, 0, 0, 137), (.iconst 100, 0, 0, 0, 0, 138), (.if_icmp .eq 0, 1, 3, 0, 0, 140), (.aload 0, 0, 0, 0, 0, 143), (.aload 0, 0, 0, 0, 0, 144), (.getfield 0, 12, 24, 0, 1455, 145), (.invokevirtual 217, 2, 0, 12, 1624, 148), (.iconst 0, 0, 0, 0, 0, 151), (.ireturn, 0, 0, 0, 0, 152), (.nop, 3, 0, 0, 0, 153), (.aload 0, 0, 0, 0, 0, 153), (.dup, 0, 0, 0, 0, 154), (.getfield 0, 12, 24, 0, 1455, 155), (.iconst 1, 0, 0, 0, 0, 158), (.iadd, 0, 0, 0, 0, 159), (.putfield 0, 12, 24, 0, 1455, 160), (.aload 0, 0, 0, 0, 0, 163), (.getfield 0, 12, 28, 0, 1459, 164), (.iconst (-1), 0, 0, 0, 0, 167), (.if_icmp .ne 0, 0, 2, 0, 0, 168), (.iconst 0, 0, 0, 0, 0, 171), (.goto 0, 0, 3, 0, 0, 172), (.aload 0, 0, 0, 0, 0, 175), (.iload 2, 0, 0, 0, 0, 176), (.invokevirtual 227, 2, 1, 12, 1664, 177), (.ireturn, 0, 0, 0, 0, 180)], [([true, true, true, true], 0), ([false, false, false, true], 44), ([true, false, true, false], 47), ([true, false, true, false], 87)])
def T_X12_letter : jT := ([(.aload 0, 0, 0, 0, 0, 0), (.getfield 0, 12, 29, 0, 1460, 1), (.istore 2, 0, 0, 0, 0, 4), (.iload 1, 0, 0, 0, 0, 5), (.lookupswitch 52 #[(98, 12), (99, 30), (100, 52), (101, 52), (102, 52), (103, 49), (104, 35), (105, 52), (106, 52), (107, 52), (108, 0), (109, 52), (110, 24), (111, 44)], 0, 0, 0, 0, 6), (.aload 0, 0, 0, 0, 0, 76), (.getfield 0, 12, 2, 0, 1433, 77), (.iload 2, 0, 0, 0, 0, 80), (.iaload, 0, 0, 0, 0, 81), (.aload 0, 0, 0, 0, 0, 82), (.getfield 0, 12, 7, 0, 1438, 83), (.aload 0, 0, 0, 0, 0, 86), (.getfield 0, 12, 28, 0, 1459, 87), (.iaload, 0, 0, 0, 0, 90), (.iand, 0, 0, 0, 0, 91), (.invokestatic 0, 1, 1, 0, 1668, 92), (.ireturn, 0, 0, 0, 0, 95), (.aload 0, 0, 0, 0, 0, 96), (.getfield 0, 12, 2, 0, 1433, 97), (.iload 2, 0, 0, 0, 0, 100), (.iaload, 0, 0, 0, 0, 101), (.aload 0, 0, 0, 0, 0, 102), (.getfield 0, 12, 8, 0, 1439, 103), (.aload 0, 0, 0, 0, 0, 106), (.getfield 0, 12, 28, 0, 1459, 107), (.iaload, 0, 0, 0, 0, 110), (.iand, 0, 0, 0, 0, 111), (.invokestatic 0, 1, 1, 0, 1668, 112), (.ireturn, 0, 0, 0, 0, 115), (.aload 0, 0, 0, 0, 0, 116), (.getfield 0, 12, 2, 0, 1433, 117), (.iload 2, 0, 0, 0, 0, 120), (.iaload, 0, 0, 0, 0, 121), (.invokestatic 0, 1, 1, 0, 1668, 122), (.ireturn, 0, 0, 0, 0, 125), (.aload 0, 0, 0, 0, 0, 126), (.getfield 0, 12, 3, 0, 1434, 127), (.iload 2, 0, 0, 0, 0, 130), (.iaload, 0, 0, 0, 0, 131), (.ireturn, 0, 0, 0, 0, 132), (.aload 0, 0, 0, 0, 0, 133), (.getfield 0, 12, 4, 0, 1435, 134), (.iload 2, 0, 0, 0, 0, 137), (.baload, 22, 0, 0, 0, 138), (.ifCond .eq 0, 0, 2, 0, 0, 139), (.iconst 1, 0, 0, 0, 0, 142), (.goto 0, 0, 1, 0, 0, 143), (.iconst 0, 0, 0, 0, 0, 146), (.ireturn, 0, 0, 0, 0, 147), (.aload 0, 0, 0, 0, 0, 148), (.getfield 0, 12, 5, 0, 1436, 149), (.iload 2, 0, 0, 0, 0, 152), (.iaload, 0, 0, 0, 0, 153), (.ireturn, 0, 0, 0, 0, 154), (.aload 0, 0, 0, 0, 0, 155), (.getfield 0, 12, 28, 0, 1459, 156), (.ireturn, 0, 0, 0, 0, 159), (.iload 2, 0, 0, 0, 0, 160), (.ireturn, 0, 0, 0, 0, 161)], [([true, true, true], 0)])
def T_X12_rule : jT := ([(.aload 0, 0, 0, 0, 0, 0), (.iconst 0, 0, 0, 0, 0, 1), (.putfield 0, 12, 20, 0, 1451, 2), (.aload 0, 0, 0, 0, 0, 5), (.getfield 0, 12, 17, 0, 1448, 6), (.istore 1, 0, 0, 0, 0, 9), (.aload 0, 0, 0, 0, 0, 10), (.aload 0, 0, 0, 0, 0, 11), (.getfield 0, 12, 16, 0, 1447, 12), (.iload 1, 0, 0, 0, 0, 15), (.iconst 40, 0, 0, 0, 0, 16), (.invokevirtual 214, 4, 0, 12, 1612, 18), (.aload 0, 0, 0, 0, 0, 21), (.iconst 0, 0, 0, 0, 0, 22), (.putfield 0, 12, 17, 0, 1448, 23), (.aload 0, 0, 0, 0, 0, 26), (.iconst (-1), 0, 0, 0, 0, 27), (.putfield 0, 12, 28, 0, 1459, 28), (.iload 1, 0, 0, 0, 0, 31), (.ifCond .le 0, 0, 20, 0, 0, 32), (.aload 0, 0, 0, 0, 0, 35), (.iconst 0, 0, 0, 0, 0, 36), (.invokevirtual 223, 2, 1, 12, 1648, 37), (.pop, 0, 0, 0, 0, 40), (.aload 0, 0, 0, 0, 0, 41), (.getfield 0, 12, 24, 0, 1455, 42), (.iload 1, 0, 0, 0, 0, 45), (.if_icmp .ge 0, 0, 4, 0, 0, 46), (.aload 0, 0, 0, 0, 0, 49), (.aload 0, 0, 0, 0, 0, 50), (.getfield 0, 12, 24, 0, 1455, 51), (.invokevirtual 217, 2, 0, 12, 1624, 54), (.aload 0, 0, 0, 0, 0, 57), (.invokevirtual 216, 1, 1, 12, 1616, 58), (.ifCond .ne 0, 0, 5, 0, 0, 61), (.iconst (-1), 0, 0, 0, 0, 64), (.aload 0, 0, 0, 0, 0, 65), (.getfield 0, 12, 25, 0, 1456, 66), (.isub, 0, 0, 0, 0, 69), (.ireturn, 0, 0, 0, 0, 70), (.iconst 0, 0, 0, 0, 0, 71), (.istore 2, 0, 0, 0, 0, 72), (.nop, 1, 0, 0, 0, 73), (.iload 2, 0, 0, 0, 0, 73), (.iload 1, 0, 0, 0, 0, 74), (.if_icmp .ge 0, 0, 10, 0, 0, 75), (.aload 0, 0, 0, 0, 0, 78), (.getfield 0, 12, 26, 0, 1457, 79), (.iload 2, 0, 0, 0, 0, 82), (.aload 0, 0, 0, 0, 0, 83), (.getfield 0, 12, 16, 0, 1447, 84), (.iload 2, 0, 0, 0, 0, 87), (.baload, 21, 0, 0, 0, 88), (.bastore, 21, 0, 0, 0, 89), (.iinc 2 1, 0, 0, 0, 0, 90), (.goto 0, 1, 1, 0, 0, 93), (.aload 0, 0, 0, 0, 0, 96), (.iload 1, 0, 0, 0, 0, 97), (.putfield 0, 12, 27, 0, 1458, 98), (.iconst 0, 0, 0, 0, 0, 101), (.ireturn, 0, 0, 0, 0, 102)], [([true, true, true], 0), ([true, true, true], 43)])
def T_X12_joyOf : jT := ([(.aload 0, 0, 0, 0, 0, 0), (.getfield 0, 12, 27, 0, 1458, 1), (.ifCond .ne 0, 0, 11, 0, 0, 4), (.aload 0, 0, 0, 0, 0, 7), (.getfield 0, 12, 2, 0, 1433, 8), (.iload 2, 0, 0, 0, 0, 11), (.iaload, 0, 0, 0, 0, 12), (.aload 0, 0, 0, 0, 0, 13), (.getfield 0, 12, 7, 0, 1438, 14), (.iload 1, 0, 0, 0, 0, 17), (.iaload, 0, 0, 0, 0, 18), (.iand, 0, 0, 0, 0, 19), (.invokestatic 0, 1, 1, 0, 1668, 20), (.ireturn, 0, 0, 0, 0, 23), (.aload 0, 0, 0, 0, 0, 24), (.aload 0, 0, 0, 0, 0, 25), (.getfield 0, 12, 26, 0, 1457, 26), (.aload 0, 0, 0, 0, 0, 29), (.getfield 0, 12, 27, 0, 1458, 30), (.iconst 40, 0, 0, 0, 0, 33), (.invokevirtual 214, 4, 0, 12, 1612, 35), (.aload 0, 0, 0, 0, 0, 38), (.iload 1, 0, 0, 0, 0, 39), (.putfield 0, 12, 28, 0, 1459, 40), (.aload 0, 0, 0, 0, 0, 43), (.iload 2, 0, 0, 0, 0, 44), (.putfield 0, 12, 29, 0, 1460, 45), (.iconst (-999), 0, 0, 0, 0, 48), (.iconst 999, 0, 0, 0, 0, 51), (.aload 0, 0, 0, 0, 0, 54), (.iconst 0, 0, 0, 0, 0, 55), (.invokevirtual 223, 2, 1, 12, 1648, 56), (.lsub, 0, 0, 0, 1693, 59), (.lmul, 0, 0, 0, 1694, 62), (.ireturn, 0, 0, 0, 0, 65)], [([true, true, true], 0)])
def T_X12_joyOfAll : jT := ([(.iconst 0, 0, 0, 0, 0, 0), (.istore 2, 0, 0, 0, 0, 1), (.iconst 0, 0, 0, 0, 0, 2), (.istore 3, 0, 0, 0, 0, 3), (.nop, 1, 0, 0, 0, 4), (.iload 3, 0, 0, 0, 0, 4), (.aload 0, 0, 0, 0, 0, 5), (.getfield 0, 12, 6, 0, 1437, 6), (.if_icmp .ge 0, 0, 9, 0, 0, 9), (.iload 2, 0, 0, 0, 0, 12), (.aload 0, 0, 0, 0, 0, 13), (.iload 3, 0, 0, 0, 0, 14), (.iload 1, 0, 0, 0, 0, 15), (.invokevirtual 229, 3, 1, 12, 1689, 16), (.iadd, 0, 0, 0, 0, 19), (.istore 2, 0, 0, 0, 0, 20), (.iinc 3 1, 0, 0, 0, 0, 21), (.goto 0, 1, 1, 0, 0, 24), (.iload 2, 0, 0, 0, 0, 27), (.ireturn, 0, 0, 0, 0, 28)], [([true, true, true, true], 0), ([true, true, true, true], 5)])
def T_X12_isHungry : jT := ([(.aload 0, 0, 0, 0, 0, 0), (.getfield 0, 12, 2, 0, 1433, 1), (.iload 2, 0, 0, 0, 0, 4), (.iaload, 0, 0, 0, 0, 5), (.aload 0, 0, 0, 0, 0, 6), (.getfield 0, 12, 8, 0, 1439, 7), (.iload 1, 0, 0, 0, 0, 10), (.iaload, 0, 0, 0, 0, 11), (.iand, 0, 0, 0, 0, 12), (.ifCond .eq 0, 0, 2, 0, 0, 13), (.iconst 1, 0, 0, 0, 0, 16), (.goto 0, 0, 1, 0, 0, 17), (.iconst 0, 0, 0, 0, 0, 20), (.ireturn, 1, 0, 0, 0, 21)], [([true, true, true], 0)])
def T_X12_dish : jT := ([(.aload 0, 0, 0, 0, 0, 0), (.iconst 0, 0, 0, 0, 0, 1), (.putfield 0, 12, 20, 0, 1451, 2), (.aload 0, 0, 0, 0, 0, 5), (.iload 1, 0, 0, 0, 0, 6), (.invokevirtual 210, 2, 1, 12, 1673, 7), (.ifCond .eq 0, 0, 5, 0, 0, 10), (.iload 2, 0, 0, 0, 0, 13), (.iconst 0, 0, 0, 0, 0, 14), (.iconst 5, 0, 0, 0, 0, 15), (.invokestatic 206, 3, 1, 12, 1605, 16), (.ifCond .ne 0, 0, 3, 0, 0, 19), (.aload 0, 0, 0, 0, 0, 22), (.invokevirtual 208, 1, 1, 12, 1677, 23), (.ireturn, 0, 0, 0, 0, 26), (.iconst 0, 0, 0, 0, 0, 27), (.istore 3, 0, 0, 0, 0, 28), (.iconst 0, 0, 0, 0, 0, 29), (.istore 4, 0, 0, 0, 0, 30), (.nop, 1, 0, 0, 0, 32), (.iload 4, 0, 0, 0, 0, 32), (.aload 0, 0, 0, 0, 0, 34), (.getfield 0, 12, 6, 0, 1437, 35), (.if_icmp .ge 0, 0, 13, 0, 0, 38), (.iload 3, 0, 0, 0, 0, 41), (.aload 0, 0, 0, 0, 0, 42), (.iload 4, 0, 0, 0, 0, 43), (.iload 1, 0, 0, 0, 0, 45), (.invokevirtual 231, 3, 1, 12, 1681, 46), (.ifCond .eq 0, 0, 2, 0, 0, 49), (.iconst 1, 0, 0, 0, 0, 52), (.goto 0, 0, 1, 0, 0, 53), (.iconst 0, 0, 0, 0, 0, 56), (.iadd, 0, 0, 0, 0, 57), (.istore 3, 0, 0, 0, 0, 58), (.iinc 4 1, 0, 0, 0, 0, 59), (.goto 0, 1, 1, 0, 0, 62), (.iload 2, 0, 0, 0, 0, 65), (.ifCond .ne 0, 0, 5, 0, 0, 66), (.aload 0, 0, 0, 0, 0, 69), (.getfield 0, 12, 2, 0, 1433, 70), (.iload 1, 0, 0, 0, 0, 73), (.iaload, 0, 0, 0, 0, 74), (.goto 0, 0, 36, 0, 0, 75), (.iload 2, 0, 0, 0, 0, 78), (.iconst 1, 0, 0, 0, 0, 79), (.if_icmp .ne 0, 0, 5, 0, 0, 80), (.aload 0, 0, 0, 0, 0, 83), (.getfield 0, 12, 3, 0, 1434, 84), (.iload 1, 0, 0, 0, 0, 87), (.iaload, 0, 0, 0, 0, 88), (.goto 0, 0, 28, 0, 0, 89), (.iload 2, 0, 0, 0, 0, 92), (.iconst 2, 0, 0, 0, 0, 93), (.if_icmp .ne 0, 0, 9, 0, 0, 94), (.aload 0, 0, 0, 0, 0, 97), (.getfield 0, 12, 4, 0, 1435, 98), (.iload 1, 0, 0, 0, 0, 101), (.baload, 22, 0, 0, 0, 102), (.ifCond .eq 0, 0, 2, 0, 0, 103), (.iconst 1, 0, 0, 0, 0, 106), (.goto 0, 0, 18, 0, 0, 107), (.iconst 0, 0, 0, 0, 0, 110), (.goto 0, 0, 16, 0, 0, 111), (.iload 2, 0, 0, 0, 0, 114), (.iconst 3, 0, 0, 0, 0, 115), (.if_icmp .ne 0, 0, 5, 0, 0, 116), (.aload 0, 0, 0, 0, 0, 119), (.getfield 0, 12, 5, 0, 1436, 120), (.iload 1, 0, 0, 0, 0, 123), (.iaload, 0, 0, 0, 0, 124), (.goto 0, 0, 8, 0, 0, 125), (.iload 2, 0, 0, 0, 0, 128), (.iconst 4, 0, 0, 0, 0, 129), (.if_icmp .ne 0, 0, 4, 0, 0, 130), (.aload 0, 0, 0, 0, 0, 133), (.iload 1, 0, 0, 0, 0, 134), (.invokevirtual 230, 2, 1, 12, 1685, 135), (.goto 0, 0, 1, 0, 0, 138), (.iload 3, 0, 0, 0, 0, 141), (.ireturn, 0, 0, 0, 0, 142)], [([true, true, true, true, true], 0), ([true, true, true, true, true], 20)])
def T_X12_guest : jT := ([(.aload 0, 0, 0, 0, 0, 0), (.iconst 0, 0, 0, 0, 0, 1), (.putfield 0, 12, 20, 0, 1451, 2), (.aload 0, 0, 0, 0, 0, 5), (.iload 1, 0, 0, 0, 0, 6), (.invokevirtual 211, 2, 1, 12, 1699, 7), (.ifCond .eq 0, 0, 5, 0, 0, 10), (.iload 2, 0, 0, 0, 0, 13), (.iconst 0, 0, 0, 0, 0, 14), (.iconst 1, 0, 0, 0, 0, 15), (.invokestatic 206, 3, 1, 12, 1605, 16), (.ifCond .ne 0, 0, 3, 0, 0, 19), (.aload 0, 0, 0, 0, 0, 22), (.invokevirtual 208, 1, 1, 12, 1677, 23), (.ireturn, 0, 0, 0, 0, 26), (.iload 2, 0, 0, 0, 0, 27), (.ifCond .ne 0, 0, 5, 0, 0, 28), (.aload 0, 0, 0, 0, 0, 31), (.getfield 0, 12, 7, 0, 1438, 32), (.iload 1, 0, 0, 0, 0, 35), (.iaload, 0, 0, 0, 0, 36), (.goto 0, 0, 4, 0, 0, 37), (.aload 0, 0, 0, 0, 0, 40), (.getfield 0, 12, 8, 0, 1439, 41), (.iload 1, 0, 0, 0, 0, 44), (.iaload, 0, 0, 0, 0, 45), (.ireturn, 0, 0, 0, 0, 46)], [([true, true, true], 0)])
def T_X12_joy : jT := ([(.aload 0, 0, 0, 0, 0, 0), (.iconst 0, 0, 0, 0, 0, 1), (.putfield 0, 12, 20, 0, 1451, 2), (.aload 0, 0, 0, 0, 0, 5), (.iload 1, 0, 0, 0, 0, 6), (.invokevirtual 211, 2, 1, 12, 1699, 7), (.ifCond .eq 0, 0, 9, 0, 0, 10), (.aload 0, 0, 0, 0, 0, 13), (.iload 2, 0, 0, 0, 0, 14), (.invokevirtual 210, 2, 1, 12, 1673, 15), (.ifCond .eq 0, 0, 5, 0, 0, 18), (.aload 0, 0, 0, 0, 0, 21), (.iload 1, 0, 0, 0, 0, 22), (.iload 2, 0, 0, 0, 0, 23), (.invokevirtual 229, 3, 1, 12, 1689, 24), (.goto 0, 0, 2, 0, 0, 27), (.aload 0, 0, 0, 0, 0, 30), (.invokevirtual 208, 1, 1, 12, 1677, 31), (.ireturn, 0, 0, 0, 0, 34)], [([true, true, true], 0)])
def T_X12_isLaw : jT := ([(.iload 0, 0, 0, 0, 0, 0), (.ifCond .ne 0, 0, 5, 0, 0, 1), (.iload 1, 0, 0, 0, 0, 4), (.iconst 1, 0, 0, 0, 0, 5), (.iconst 8, 0, 0, 0, 0, 6), (.invokestatic 206, 3, 1, 12, 1605, 8), (.goto 0, 0, 19, 0, 0, 11), (.iload 0, 0, 0, 0, 0, 14), (.iconst 1, 0, 0, 0, 0, 15), (.if_icmp .ne 0, 0, 5, 0, 0, 16), (.iload 1, 0, 0, 0, 0, 19), (.iconst 1, 0, 0, 0, 0, 20), (.iconst 9, 0, 0, 0, 0, 21), (.invokestatic 206, 3, 1, 12, 1605, 23), (.goto 0, 0, 11, 0, 0, 26), (.iload 0, 0, 0, 0, 0, 29), (.iconst 2, 0, 0, 0, 0, 30), (.if_icmp .ne 0, 0, 7, 0, 0, 31), (.iload 1, 0, 0, 0, 0, 34), (.iconst 0, 0, 0, 0, 0, 35), (.iconst 2, 0, 0, 0, 0, 36), (.invokestatic 206, 3, 1, 12, 1605, 37), (.ifCond .eq 0, 0, 2, 0, 0, 40), (.iconst 1, 0, 0, 0, 0, 43), (.goto 0, 0, 1, 0, 0, 44), (.iconst 0, 0, 0, 0, 0, 47), (.ireturn, 1, 0, 0, 0, 48)], [([true, true], 0)])
def T_X12_law : jT := ([(.aload 0, 0, 0, 0, 0, 0), (.iconst 0, 0, 0, 0, 0, 1), (.putfield 0, 12, 20, 0, 1451, 2), (.iload 1, 0, 0, 0, 0, 5), (.iload 2, 0, 0, 0, 0, 6), (.invokestatic 235, 2, 1, 12, 1711, 7), (.ifCond .ne 0, 0, 2, 0, 0, 10), (.iconst (-1), 0, 0, 0, 0, 13), (.ireturn, 0, 0, 0, 0, 14), (.iload 1, 0, 0, 0, 0, 15), (.ifCond .ne 0, 0, 3, 0, 0, 16), (.aload 0, 0, 0, 0, 0, 19), (.getfield 0, 12, 9, 0, 1440, 20), (.goto 0, 0, 8, 0, 0, 23), (.iload 1, 0, 0, 0, 0, 26), (.iconst 1, 0, 0, 0, 0, 27), (.if_icmp .ne 0, 0, 3, 0, 0, 28), (.aload 0, 0, 0, 0, 0, 31), (.getfield 0, 12, 10, 0, 1441, 32), (.goto 0, 0, 2, 0, 0, 35), (.aload 0, 0, 0, 0, 0, 38), (.getfield 0, 12, 11, 0, 1442, 39), (.istore 3, 0, 0, 0, 0, 42), (.iload 1, 0, 0, 0, 0, 43), (.ifCond .ne 0, 0, 4, 0, 0, 44), (.aload 0, 0, 0, 0, 0, 47), (.iload 2, 0, 0, 0, 0, 48), (.putfield 0, 12, 9, 0, 1440, 49), (.goto 0, 0, 10, 0, 0, 52), (.iload 1, 0, 0, 0, 0, 55), (.iconst 1, 0, 0, 0, 0, 56), (.if_icmp .ne 0, 0, 4, 0, 0, 57), (.aload 0, 0, 0, 0, 0, 60), (.iload 2, 0, 0, 0, 0, 61), (.putfield 0, 12, 10, 0, 1441, 62), (.goto 0, 0, 3, 0, 0, 65), (.aload 0, 0, 0, 0, 0, 68), (.iload 2, 0, 0, 0, 0, 69), (.putfield 0, 12, 11, 0, 1442, 70), (.iload 3, 0, 0, 0, 0, 73), (.ireturn, 0, 0, 0, 0, 74)], [([true, true, true, true], 0)])
def T_X12_store : jT := ([(.aload 0, 0, 0, 0, 0, 0), (.iconst 0, 0, 0, 0, 0, 1), (.putfield 0, 12, 20, 0, 1451, 2), (.iload 1, 0, 0, 0, 0, 5), (.iconst 0, 0, 0, 0, 0, 6), (.iconst 7, 0, 0, 0, 0, 7), (.invokestatic 206, 3, 1, 12, 1605, 9), (.ifCond .eq 0, 0, 5, 0, 0, 12), (.iload 2, 0, 0, 0, 0, 15), (.iconst 0, 0, 0, 0, 0, 16), (.iconst 99, 0, 0, 0, 0, 17), (.invokestatic 206, 3, 1, 12, 1605, 19), (.ifCond .ne 0, 0, 2, 0, 0, 22), (.iconst (-1), 0, 0, 0, 0, 25), (.ireturn, 0, 0, 0, 0, 26), (.aload 0, 0, 0, 0, 0, 27), (.getfield 0, 12, 0, 0, 1431, 28), (.iload 1, 0, 0, 0, 0, 31), (.iaload, 0, 0, 0, 0, 32), (.istore 3, 0, 0, 0, 0, 33), (.aload 0, 0, 0, 0, 0, 34), (.getfield 0, 12, 0, 0, 1431, 35), (.iload 1, 0, 0, 0, 0, 38), (.iload 2, 0, 0, 0, 0, 39), (.iastore, 0, 0, 0, 0, 40), (.iload 3, 0, 0, 0, 0, 41), (.ireturn, 0, 0, 0, 0, 42)], [([true, true, true, true], 0)])
def T_X12_sheet : jT := ([(.aload 0, 0, 0, 0, 0, 0), (.iconst 0, 0, 0, 0, 0, 1), (.putfield 0, 12, 20, 0, 1451, 2), (.iload 1, 0, 0, 0, 0, 5), (.iconst 0, 0, 0, 0, 0, 6), (.iconst 3, 0, 0, 0, 0, 7), (.invokestatic 206, 3, 1, 12, 1605, 8), (.ifCond .eq 0, 0, 3, 0, 0, 11), (.iload 2, 0, 0, 0, 0, 14), (.iconst 10, 0, 0, 0, 0, 15), (.if_icmp .le 0, 0, 2, 0, 0, 17), (.iconst (-1), 0, 0, 0, 0, 20), (.ireturn, 0, 0, 0, 0, 21), (.iload 1, 0, 0, 0, 0, 22), (.iconst 3, 0, 0, 0, 0, 23), (.if_icmp .ge 0, 0, 4, 0, 0, 24), (.iload 2, 0, 0, 0, 0, 27), (.ifCond .ge 0, 0, 2, 0, 0, 28), (.iconst (-2), 0, 0, 0, 0, 31), (.ireturn, 0, 0, 0, 0, 33), (.iconst 0, 0, 0, 0, 0, 34), (.istore 5, 0, 0, 0, 0, 35), (.iload 3, 0, 0, 0, 0, 37), (.istore 6, 0, 0, 0, 0, 38), (.iconst 0, 0, 0, 0, 0, 40), (.istore 7, 0, 0, 0, 0, 41), (.nop, 1, 0, 0, 0, 43), (.iload 7, 0, 0, 0, 0, 43), (.aload 0, 0, 0, 0, 0, 45), (.getfield 0, 12, 1, 0, 1432, 46), (.if_icmp .ge 0, 0, 43, 0, 0, 49), (.iload 1, 0, 0, 0, 0, 52), (.ifCond .ne 0, 0, 3, 0, 0, 53), (.iload 6, 0, 0, 0, 0, 56), (.i2b, 0, 0, 0, 0, 58), (.goto 0, 0, 7, 0, 0, 59), (.iload 1, 0, 0, 0, 0, 62), (.iconst 1, 0, 0, 0, 0, 63), (.if_icmp .ne 0, 0, 3, 0, 0, 64), (.iload 6, 0, 0, 0, 0, 67), (.i2s, 0, 0, 0, 0, 69), (.goto 0, 0, 1, 0, 0, 70), (.iload 6, 0, 0, 0, 0, 73), (.istore 8, 0, 0, 0, 0, 75), (.aload 0, 0, 0, 0, 0, 77), (.getfield 0, 12, 3, 0, 1434, 78), (.iload 7, 0, 0, 0, 0, 81), (.iload 1, 0, 0, 0, 0, 83), (.iconst 3, 0, 0, 0, 0, 84), (.if_icmp .eq 0, 0, 3, 0, 0, 85), (.iload 7, 0, 0, 0, 0, 88), (.iload 2, 0, 0, 0, 0, 90), (.if_icmp .lt 0, 0, 2, 0, 0, 91), (.iconst 0, 0, 0, 0, 0, 94), (.goto 0, 0, 5, 0, 0, 95), (.iconst 0, 0, 0, 0, 0, 98), (.iconst 99, 0, 0, 0, 0, 99), (.iload 8, 0, 0, 0, 0, 101), (.lsub, 0, 0, 0, 1693, 103), (.lmul, 0, 0, 0, 1694, 106), (.iastore, 0, 0, 0, 0, 109), (.iload 5, 0, 0, 0, 0, 110), (.aload 0, 0, 0, 0, 0, 112), (.getfield 0, 12, 3, 0, 1434, 113), (.iload 7, 0, 0, 0, 0, 116), (.iaload, 0, 0, 0, 0, 118), (.iadd, 0, 0, 0, 0, 119), (.istore 5, 0, 0, 0, 0, 120), (.iload 6, 0, 0, 0, 0, 122), (.iload 4, 0, 0, 0, 0, 124), (.iadd, 0, 0, 0, 0, 126), (.istore 6, 0, 0, 0, 0, 127), (.iinc 7 1, 0, 0, 0, 0, 129), (.goto 0, 1, 1, 0, 0, 132), (.iload 1, 0, 0, 0, 0, 135), (.iconst 3, 0, 0, 0, 0, 136), (.if_icmp .ne 0, 0, 2, 0, 0, 137), (.iconst (-3), 0, 0, 0, 0, 140), (.goto 0, 0, 1, 0, 0, 142), (.iload 5, 0, 0, 0, 0, 145), (.ireturn, 0, 0, 0, 0, 147)], [([true, true, true, true, true, true, true, true, true], 0), ([true, true, true, false, true, true, true, true, false], 27)])
def T_X12_shared : jT := ([(.aload 0, 0, 0, 0, 0, 0), (.getfield 0, 12, 2, 0, 1433, 1), (.iload 1, 0, 0, 0, 0, 4), (.iaload, 0, 0, 0, 0, 5), (.aload 0, 0, 0, 0, 0, 6), (.getfield 0, 12, 2, 0, 1433, 7), (.iload 2, 0, 0, 0, 0, 10), (.iaload, 0, 0, 0, 0, 11), (.iand, 0, 0, 0, 0, 12), (.invokestatic 0, 1, 1, 0, 1668, 13), (.ireturn, 0, 0, 0, 0, 16)], [([true, true, true], 0)])
def T_X12_hasHot : jT := ([(.iconst 0, 0, 0, 0, 0, 0), (.istore 2, 0, 0, 0, 0, 1), (.nop, 1, 0, 0, 0, 2), (.iload 2, 0, 0, 0, 0, 2), (.aload 0, 0, 0, 0, 0, 3), (.getfield 0, 12, 1, 0, 1432, 4), (.if_icmp .gt 0, 0, 13, 0, 0, 7), (.iload 1, 0, 0, 0, 0, 10), (.iload 2, 0, 0, 0, 0, 11), (.invokestatic 207, 2, 1, 12, 1738, 12), (.ifCond .eq 0, 0, 7, 0, 0, 15), (.aload 0, 0, 0, 0, 0, 18), (.getfield 0, 12, 4, 0, 1435, 19), (.iload 2, 0, 0, 0, 0, 22), (.baload, 22, 0, 0, 0, 23), (.ifCond .eq 0, 0, 2, 0, 0, 24), (.iconst 1, 0, 0, 0, 0, 27), (.ireturn, 1, 0, 0, 0, 28), (.iinc 2 1, 0, 0, 0, 0, 29), (.goto 0, 1, 1, 0, 0, 32), (.iconst 0, 0, 0, 0, 0, 35), (.ireturn, 1, 0, 0, 0, 36)], [([true, true, true], 0), ([true, true, true], 3)])
def T_X12_fits : jT := ([(.iconst 0, 0, 0, 0, 0, 0), (.istore 4, 0, 0, 0, 0, 1), (.nop, 1, 0, 0, 0, 3), (.iload 4, 0, 0, 0, 0, 3), (.iconst 8, 0, 0, 0, 0, 5), (.if_icmp .ge 0, 0, 52, 0, 0, 7), (.aload 0, 0, 0, 0, 0, 10), (.getfield 0, 12, 2, 0, 1433, 11), (.iload 2, 0, 0, 0, 0, 14), (.iaload, 0, 0, 0, 0, 15), (.iload 4, 0, 0, 0, 0, 16), (.invokestatic 207, 2, 1, 12, 1738, 18), (.ifCond .eq 0, 0, 2, 0, 0, 21), (.iconst 1, 0, 0, 0, 0, 24), (.goto 0, 0, 1, 0, 0, 25), (.iconst 0, 0, 0, 0, 0, 28), (.istore 5, 0, 0, 0, 0, 29), (.iconst 0, 0, 0, 0, 0, 31), (.istore 6, 0, 0, 0, 0, 32), (.nop, 2, 0, 0, 0, 34), (.iload 6, 0, 0, 0, 0, 34), (.aload 0, 0, 0, 0, 0, 36), (.getfield 0, 12, 1, 0, 1432, 37), (.if_icmp .gt 0, 0, 19, 0, 0, 40), (.iload 5, 0, 0, 0, 0, 43), (.iload 1, 0, 0, 0, 0, 45), (.iload 6, 0, 0, 0, 0, 46), (.invokestatic 207, 2, 1, 12, 1738, 48), (.ifCond .eq 0, 0, 9, 0, 0, 51), (.aload 0, 0, 0, 0, 0, 54), (.getfield 0, 12, 2, 0, 1433, 55), (.iload 6, 0, 0, 0, 0, 58), (.iaload, 0, 0, 0, 0, 60), (.iload 4, 0, 0, 0, 0, 61), (.invokestatic 207, 2, 1, 12, 1738, 63), (.ifCond .eq 0, 0, 2, 0, 0, 66), (.iconst 1, 0, 0, 0, 0, 69), (.goto 0, 0, 1, 0, 0, 70), (.iconst 0, 0, 0, 0, 0, 73), (.iadd, 0, 0, 0, 0, 74), (.istore 5, 0, 0, 0, 0, 75), (.iinc 6 1, 0, 0, 0, 0, 77), (.goto 0, 1, 2, 0, 0, 80), (.iload 5, 0, 0, 0, 0, 83), (.iload 3, 0, 0, 0, 0, 85), (.ifCond .eq 0, 0, 5, 0, 0, 86), (.aload 0, 0, 0, 0, 0, 89), (.getfield 0, 12, 0, 0, 1431, 90), (.iload 4, 0, 0, 0, 0, 93), (.iaload, 0, 0, 0, 0, 95), (.goto 0, 0, 2, 0, 0, 96), (.aload 0, 0, 0, 0, 0, 99), (.getfield 0, 12, 10, 0, 1441, 100), (.if_icmp .le 0, 0, 2, 0, 0, 103), (.iconst 0, 0, 0, 0, 0, 106), (.ireturn, 1, 0, 0, 0, 107), (.iinc 4 1, 0, 0, 0, 0, 108), (.goto 0, 1, 1, 0, 0, 111), (.iconst 1, 0, 0, 0, 0, 114), (.ireturn, 1, 0, 0, 0, 115)], [([true, true, true, true, true, true, true], 0), ([true, true, true, true, true, false, false], 3), ([true, true, true, true, true, true, true], 20)])
def T_X12_refusal : jT := ([(.iload 1, 0, 0, 0, 0, 0), (.iload 3, 0, 0, 0, 0, 1), (.invokestatic 207, 2, 1, 12, 1738, 2), (.ifCond .eq 0, 0, 2, 0, 0, 5), (.iconst (-2), 0, 0, 0, 0, 8), (.ireturn, 0, 0, 0, 0, 10), (.iload 2, 0, 0, 0, 0, 11), (.iconst (-1), 0, 0, 0, 0, 12), (.if_icmp .eq 0, 1, 1, 0, 0, 13), (.aload 0, 0, 0, 0, 0, 16), (.iload 2, 0, 0, 0, 0, 17), (.iload 3, 0, 0, 0, 0, 18), (.invokevirtual 239, 3, 1, 12, 1741, 19), (.aload 0, 0, 0, 0, 0, 22), (.getfield 0, 12, 9, 0, 1440, 23), (.if_icmp .ge 0, 1, 1, 0, 0, 26), (.iconst (-3), 0, 0, 0, 0, 29), (.ireturn, 0, 0, 0, 0, 31), (.nop, 1, 0, 0, 0, 32), (.aload 0, 0, 0, 0, 0, 32), (.getfield 0, 12, 11, 0, 1442, 33), (.iconst 1, 0, 0, 0, 0, 36), (.if_icmp .ne 0, 1, 2, 0, 0, 37), (.aload 0, 0, 0, 0, 0, 40), (.getfield 0, 12, 4, 0, 1435, 41), (.iload 3, 0, 0, 0, 0, 44), (.baload, 22, 0, 0, 0, 45), (.ifCond .ne 0, 1, 2, 0, 0, 46), (.aload 0, 0, 0, 0, 0, 49), (.iload 1, 0, 0, 0, 0, 50), (.invokevirtual 240, 2, 1, 12, 1745, 51), (.ifCond .eq 0, 1, 2, 0, 0, 54), (.iconst (-4), 0, 0, 0, 0, 57), (.ireturn, 0, 0, 0, 0, 59), (.nop, 2, 0, 0, 0, 60), (.aload 0, 0, 0, 0, 0, 60), (.getfield 0, 12, 11, 0, 1442, 61), (.iconst 2, 0, 0, 0, 0, 64), (.if_icmp .ne 0, 1, 3, 0, 0, 65), (.iload 2, 0, 0, 0, 0, 68), (.iconst (-1), 0, 0, 0, 0, 69), (.if_icmp .eq 0, 1, 3, 0, 0, 70), (.aload 0, 0, 0, 0, 0, 73), (.getfield 0, 12, 4, 0, 1435, 74), (.iload 2, 0, 0, 0, 0, 77), (.baload, 22, 0, 0, 0, 78), (.aload 0, 0, 0, 0, 0, 79), (.getfield 0, 12, 4, 0, 1435, 80), (.iload 3, 0, 0, 0, 0, 83), (.baload, 22, 0, 0, 0, 84), (.if_icmp .ne 0, 1, 3, 0, 0, 85), (.iconst (-4), 0, 0, 0, 0, 88), (.ireturn, 0, 0, 0, 0, 90), (.nop, 3, 0, 0, 0, 91), (.aload 0, 0, 0, 0, 0, 91), (.iload 1, 0, 0, 0, 0, 92), (.iload 3, 0, 0, 0, 0, 93), (.iconst 0, 0, 0, 0, 0, 94), (.invokevirtual 241, 4, 1, 12, 1749, 95), (.ifCond .ne 0, 0, 2, 0, 0, 98), (.iconst (-5), 0, 0, 0, 0, 101), (.ireturn, 0, 0, 0, 0, 103), (.aload 0, 0, 0, 0, 0, 104), (.iload 1, 0, 0, 0, 0, 105), (.iload 3, 0, 0, 0, 0, 106), (.iconst 1, 0, 0, 0, 0, 107), (.invokevirtual 241, 4, 1, 12, 1749, 108), (.ifCond .eq 0, 0, 2, 0, 0, 111), (.iconst 0, 0, 0, 0, 0, 114), (.goto 0, 0, 1, 0, 0, 115), (.iconst (-6), 0, 0, 0, 0, 118), (.ireturn, 0, 0, 0, 0, 120)], [([true, true, true, true], 0), ([true, true, true, true], 19), ([true, true, true, true], 35), ([true, true, false, true], 54)])
def T_X12_servedSet : jT := ([(.iconst 0, 0, 0, 0, 0, 0), (.istore 1, 0, 0, 0, 0, 1), (.iconst 0, 0, 0, 0, 0, 2), (.istore 2, 0, 0, 0, 0, 3), (.nop, 1, 0, 0, 0, 4), (.iload 2, 0, 0, 0, 0, 4), (.aload 0, 0, 0, 0, 0, 5), (.getfield 0, 12, 13, 0, 1444, 6), (.if_icmp .ge 0, 0, 11, 0, 0, 9), (.iload 1, 0, 0, 0, 0, 12), (.iconst 1, 0, 0, 0, 0, 13), (.aload 0, 0, 0, 0, 0, 14), (.getfield 0, 12, 12, 0, 1443, 15), (.iload 2, 0, 0, 0, 0, 18), (.iaload, 0, 0, 0, 0, 19), (.ishl, 0, 0, 0, 0, 20), (.ior, 0, 0, 0, 0, 21), (.istore 1, 0, 0, 0, 0, 22), (.iinc 2 1, 0, 0, 0, 0, 23), (.goto 0, 1, 1, 0, 0, 26), (.iload 1, 0, 0, 0, 0, 29), (.ireturn, 0, 0, 0, 0, 30)], [([true, true, true], 0), ([true, true, true], 5)])
def T_X12_servedLast : jT := ([(.aload 0, 0, 0, 0, 0, 0), (.getfield 0, 12, 13, 0, 1444, 1), (.ifCond .ne 0, 0, 2, 0, 0, 4), (.iconst (-1), 0, 0, 0, 0, 7), (.goto 0, 0, 7, 0, 0, 8), (.aload 0, 0, 0, 0, 0, 11), (.getfield 0, 12, 12, 0, 1443, 12), (.aload 0, 0, 0, 0, 0, 15), (.getfield 0, 12, 13, 0, 1444, 16), (.iconst 1, 0, 0, 0, 0, 19), (.isub, 0, 0, 0, 0, 20), (.iaload, 0, 0, 0, 0, 21), (.ireturn, 0, 0, 0, 0, 22)], [([true], 0)])
def T_X12_serve : jT := ([(.aload 0, 0, 0, 0, 0, 0), (.iconst 0, 0, 0, 0, 0, 1), (.putfield 0, 12, 20, 0, 1451, 2), (.aload 0, 0, 0, 0, 0, 5), (.iload 1, 0, 0, 0, 0, 6), (.invokevirtual 210, 2, 1, 12, 1673, 7), (.ifCond .ne 0, 0, 2, 0, 0, 10), (.iconst (-1), 0, 0, 0, 0, 13), (.ireturn, 0, 0, 0, 0, 14), (.aload 0, 0, 0, 0, 0, 15), (.aload 0, 0, 0, 0, 0, 16), (.invokevirtual 243, 1, 1, 12, 1726, 17), (.aload 0, 0, 0, 0, 0, 20), (.invokevirtual 244, 1, 1, 12, 1730, 21), (.iload 1, 0, 0, 0, 0, 24), (.invokevirtual 242, 4, 1, 12, 1734, 25), (.istore 2, 0, 0, 0, 0, 28), (.iload 2, 0, 0, 0, 0, 29), (.ifCond .ge 0, 0, 2, 0, 0, 30), (.iload 2, 0, 0, 0, 0, 33), (.ireturn, 0, 0, 0, 0, 34), (.aload 0, 0, 0, 0, 0, 35), (.getfield 0, 12, 12, 0, 1443, 36), (.aload 0, 0, 0, 0, 0, 39), (.getfield 0, 12, 13, 0, 1444, 40), (.iload 1, 0, 0, 0, 0, 43), (.iastore, 0, 0, 0, 0, 44), (.aload 0, 0, 0, 0, 0, 45), (.dup, 0, 0, 0, 0, 46), (.getfield 0, 12, 13, 0, 1444, 47), (.iconst 1, 0, 0, 0, 0, 50), (.iadd, 0, 0, 0, 0, 51), (.putfield 0, 12, 13, 0, 1444, 52), (.aload 0, 0, 0, 0, 0, 55), (.getfield 0, 12, 13, 0, 1444, 56), (.ireturn, 0, 0, 0, 0, 59)], [([true, true, true], 0)])
def T_X12_back : jT := ([(.aload 0, 0, 0, 0, 0, 0), (.iconst 0, 0, 0, 0, 0, 1), (.putfield 0, 12, 20, 0, 1451, 2), (.aload 0, 0, 0, 0, 0, 5), (.getfield 0, 12, 13, 0, 1444, 6), (.ifCond .ne 0, 0, 2, 0, 0, 9), (.iconst (-1), 0, 0, 0, 0, 12), (.ireturn, 0, 0, 0, 0, 13), (.aload 0, 0, 0, 0, 0, 14), (.dup, 0, 0, 0, 0, 15), (.getfield 0, 12, 13, 0, 1444, 16), (.iconst 1, 0, 0, 0, 0, 19), (.isub, 0, 0, 0, 0, 20), (.putfield 0, 12, 13, 0, 1444, 21), (.aload 0, 0, 0, 0, 0, 24), (.getfield 0, 12, 12, 0, 1443, 25), (.aload 0, 0, 0, 0, 0, 28), (.getfield 0, 12, 13, 0, 1444, 29), (.iaload, 0, 0, 0, 0, 32), (.ireturn, 0, 0, 0, 0, 33)], [([true], 0)])
def T_X12_over : jT := ([(.aload 0, 0, 0, 0, 0, 0), (.iconst 0, 0, 0, 0, 0, 1), (.putfield 0, 12, 20, 0, 1451, 2), (.iconst 0, 0, 0, 0, 0, 5), (.istore 1, 0, 0, 0, 0, 6), (.nop, 1, 0, 0, 0, 7), (.iload 1, 0, 0, 0, 0, 7), (.aload 0, 0, 0, 0, 0, 8), (.getfield 0, 12, 13, 0, 1444, 9), (.if_icmp .ge 0, 0, 34, 0, 0, 12), (.iconst 0, 0, 0, 0, 0, 15), (.istore 2, 0, 0, 0, 0, 16), (.nop, 2, 0, 0, 0, 17), (.iload 2, 0, 0, 0, 0, 17), (.iconst 8, 0, 0, 0, 0, 18), (.if_icmp .ge 0, 0, 26, 0, 0, 20), (.aload 0, 0, 0, 0, 0, 23), (.getfield 0, 12, 0, 0, 1431, 24), (.iload 2, 0, 0, 0, 0, 27), (.iconst 0, 0, 0, 0, 0, 28), (.aload 0, 0, 0, 0, 0, 29), (.getfield 0, 12, 0, 0, 1431, 30), (.iload 2, 0, 0, 0, 0, 33), (.iaload, 0, 0, 0, 0, 34), (.aload 0, 0, 0, 0, 0, 35), (.getfield 0, 12, 2, 0, 1433, 36), (.aload 0, 0, 0, 0, 0, 39), (.getfield 0, 12, 12, 0, 1443, 40), (.iload 1, 0, 0, 0, 0, 43), (.iaload, 0, 0, 0, 0, 44), (.iaload, 0, 0, 0, 0, 45), (.iload 2, 0, 0, 0, 0, 46), (.invokestatic 207, 2, 1, 12, 1738, 47), (.ifCond .eq 0, 0, 2, 0, 0, 50), (.iconst 1, 0, 0, 0, 0, 53), (.goto 0, 0, 1, 0, 0, 54), (.iconst 0, 0, 0, 0, 0, 57), (.isub, 0, 0, 0, 0, 58), (.lmul, 0, 0, 0, 1694, 59), (.iastore, 0, 0, 0, 0, 62), (.iinc 2 1, 0, 0, 0, 0, 63), (.goto 0, 1, 2, 0, 0, 66), (.iinc 1 1, 0, 0, 0, 0, 69), (.goto 0, 1, 1, 0, 0, 72), (.aload 0, 0, 0, 0, 0, 75), (.getfield 0, 12, 13, 0, 1444, 76), (.istore 1, 0, 0, 0, 0, 79), (.aload 0, 0, 0, 0, 0, 80), (.iconst 0, 0, 0, 0, 0, 81), (.putfield 0, 12, 13, 0, 1444, 82), (.iload 1, 0, 0, 0, 0, 85), (.ireturn, 0, 0, 0, 0, 86)], [([true, true, true], 0), ([true, true, false], 6), ([true, true, true], 13)])
def T_X12_can : jT := ([(.aload 0, 0, 0, 0, 0, 0), (.iconst 0, 0, 0, 0, 0, 1), (.putfield 0, 12, 20, 0, 1451, 2), (.iconst 0, 0, 0, 0, 0, 5), (.istore 1, 0, 0, 0, 0, 6), (.iconst 0, 0, 0, 0, 0, 7), (.istore 2, 0, 0, 0, 0, 8), (.nop, 1, 0, 0, 0, 9), (.iload 2, 0, 0, 0, 0, 9), (.aload 0, 0, 0, 0, 0, 10), (.getfield 0, 12, 1, 0, 1432, 11), (.if_icmp .ge 0, 0, 18, 0, 0, 14), (.iload 1, 0, 0, 0, 0, 17), (.aload 0, 0, 0, 0, 0, 18), (.aload 0, 0, 0, 0, 0, 19), (.invokevirtual 243, 1, 1, 12, 1726, 20), (.aload 0, 0, 0, 0, 0, 23), (.invokevirtual 244, 1, 1, 12, 1730, 24), (.iload 2, 0, 0, 0, 0, 27), (.invokevirtual 242, 4, 1, 12, 1734, 28), (.ifCond .ne 0, 0, 4, 0, 0, 31), (.iconst 1, 0, 0, 0, 0, 34), (.iload 2, 0, 0, 0, 0, 35), (.ishl, 0, 0, 0, 0, 36), (.goto 0, 0, 1, 0, 0, 37), (.iconst 0, 0, 0, 0, 0, 40), (.ior, 0, 0, 0, 0, 41), (.istore 1, 0, 0, 0, 0, 42), (.iinc 2 1, 0, 0, 0, 0, 43), (.goto 0, 1, 1, 0, 0, 46), (.iload 1, 0, 0, 0, 0, 49), (.ireturn, 0, 0, 0, 0, 50)], [([true, true, true], 0), ([true, true, true], 8)])
def T_X12_menu : jT := ([(.aload 0, 0, 0, 0, 0, 0), (.iconst 0, 0, 0, 0, 0, 1), (.putfield 0, 12, 20, 0, 1451, 2), (.aload 0, 0, 0, 0, 0, 5), (.aload 0, 0, 0, 0, 0, 6), (.getfield 0, 12, 16, 0, 1447, 7), (.aload 0, 0, 0, 0, 0, 10), (.getfield 0, 12, 17, 0, 1448, 11), (.iconst 10, 0, 0, 0, 0, 14), (.invokevirtual 214, 4, 0, 12, 1612, 16), (.aload 0, 0, 0, 0, 0, 19), (.iconst 0, 0, 0, 0, 0, 20), (.putfield 0, 12, 17, 0, 1448, 21), (.iload 1, 0, 0, 0, 0, 24), (.iconst 0, 0, 0, 0, 0, 25), (.iconst 2, 0, 0, 0, 0, 26), (.invokestatic 206, 3, 1, 12, 1605, 27), (.ifCond .ne 0, 1, 1, 0, 0, 30), (.iconst (-100), 0, 0, 0, 0, 33), (.ireturn, 0, 0, 0, 0, 35), (.nop, 1, 0, 0, 0, 36), (.aload 0, 0, 0, 0, 0, 36), (.invokevirtual 216, 1, 1, 12, 1616, 37), (.ifCond .eq 0, 1, 4, 0, 0, 40), (.aload 0, 0, 0, 0, 0, 43), (.getfield 0, 12, 24, 0, 1455, 44), (.aload 0, 0, 0, 0, 0, 47), (.getfield 0, 12, 22, 0, 1453, 48), (.if_icmp .ge 0, 1, 4, 0, 0, 51), (.aload 0, 0, 0, 0, 0, 54), (.getfield 0, 12, 24, 0, 1455, 55), (.aload 0, 0, 0, 0, 0, 58), (.getfield 0, 12, 23, 0, 1454, 59), (.if_icmp .ge 0, 1, 4, 0, 0, 62), (.aload 0, 0, 0, 0, 0, 65), (.invokevirtual 215, 1, 1, 12, 1620, 66), (.istore 2, 0, 0, 0, 0, 69), (.iload 2, 0, 0, 0, 0, 70), (.iconst 63, 0, 0, 0, 0, 71), (.if_icmp .eq 0, 1, 2, 0, 0, 73), (.iload 2, 0, 0, 0, 0, 76), (.iconst 65, 0, 0, 0, 0, 77), (.iconst 65, 0, 0, 0, 0, 79), (.aload 0, 0, 0, 0, 0, 81), (.getfield 0, 12, 1, 0, 1432, 82), (.iadd, 0, 0, 0, 0, 85), (.iconst 1, 0, 0, 0, 0, 86), (.isub, 0, 0, 0, 0, 87), (.invokestatic 206, 3, 1, 12, 1605, 88), (.ifCond .ne 0, 1, 2, 0, 0, 91), (.aload 0, 0, 0, 0, 0, 94), (.aload 0, 0, 0, 0, 0, 95), (.getfield 0, 12, 24, 0, 1455, 96), (.invokevirtual 217, 2, 0, 12, 1624, 99), (.goto 0, 1, 3, 0, 0, 102), (.nop, 2, 0, 0, 0, 105), (.aload 0, 0, 0, 0, 0, 105), (.dup, 0, 0, 0, 0, 106), (.getfield 0, 12, 24, 0, 1455, 107), (.iconst 1, 0, 0, 0, 0, 110), (.iadd, 0, 0, 0, 0, 111), (.putfield 0, 12, 24, 0, 1455, 112), (.nop, 3, 0, 0, 0, 115), (.goto 0, 1, 1, 0, 0, 115), (.nop, 4, 0, 0, 0, 118), (.aload 0, 0, 0, 0, 0, 118), (.getfield 0, 12, 24, 0, 1455, 119), (.aload 0, 0, 0, 0, 0, 122), (.getfield 0, 12, 22, 0, 1453, 123), (.if_icmp .ge 0, 1, 5, 0, 0, 126), (.aload 0, 0, 0, 0, 0, 129), (.aload 0, 0, 0, 0, 0, 130), (.getfield 0, 12, 24, 0, 1455, 131), (.invokevirtual 217, 2, 0, 12, 1624, 134), (.nop, 5, 0, 0, 0, 137), (.aload 0, 0, 0, 0, 0, 137), (.invokevirtual 216, 1, 1, 12, 1616, 138), (.ifCond .ne 0, 0, 5, 0, 0, 141), (.iconst (-1), 0, 0, 0, 0, 144), (.aload 0, 0, 0, 0, 0, 145), (.getfield 0, 12, 25, 0, 1456, 146), (.isub, 0, 0, 0, 0, 149), (.ireturn, 0, 0, 0, 0, 150), (.iconst 0, 0, 0, 0, 0, 151), (.istore 2, 0, 0, 0, 0, 152), (.nop, 6, 0, 0, 0, 153), (.iload 2, 0, 0, 0, 0, 153), (.aload 0, 0, 0, 0, 0, 154), (.getfield 0, 12, 22, 0, 1453, 155), (.if_icmp .ge 0, 0, 24, 0, 0, 158), (.aload 0, 0, 0, 0, 0, 161), (.getfield 0, 12, 14, 0, 1445, 162), (.iconst 10, 0, 0, 0, 0, 165), (.iload 1, 0, 0, 0, 0, 167), (.imul, 0, 0, 0, 0, 168), (.iload 2, 0, 0, 0, 0, 169), (.iadd, 0, 0, 0, 0, 170), (.aload 0, 0, 0, 0, 0, 171), (.getfield 0, 12, 16, 0, 1447, 172), (.iload 2, 0, 0, 0, 0, 175), (.baload, 21, 0, 0, 0, 176), (.iconst 63, 0, 0, 0, 0, 177), (.if_icmp .ne 0, 0, 2, 0, 0, 179), (.iconst 99, 0, 0, 0, 0, 182), (.goto 0, 0, 6, 0, 0, 184), (.aload 0, 0, 0, 0, 0, 187), (.getfield 0, 12, 16, 0, 1447, 188), (.iload 2, 0, 0, 0, 0, 191), (.baload, 21, 0, 0, 0, 192), (.iconst 65, 0, 0, 0, 0, 193), (.isub, 0, 0, 0, 0, 195), (.iastore, 0, 0, 0, 0, 196), (.iinc 2 1, 0, 0, 0, 0, 197), (.goto 0, 1, 6, 0, 0, 200), (.aload 0, 0, 0, 0, 0, 203), (.getfield 0, 12, 15, 0, 1446, 204), (.iload 1, 0, 0, 0, 0, 207), (.aload 0, 0, 0, 0, 0, 208), (.getfield 0, 12, 22, 0, 1453, 209), (.iastore, 0, 0, 0, 0, 212), (.aload 0, 0, 0, 0, 0, 213), (.getfield 0, 12, 22, 0, 1453, 214), (.ireturn, 0, 0, 0, 0, 217)], [([true, true, true], 0), ([true, true, false], 21), ([true, true, false], 56), ([true, true, false], 63), ([true, true, false], 65), ([true, true, false], 75), ([true, true, true], 86)])
def T_X12_isMenu : jT := ([(.iload 1, 0, 0, 0, 0, 0), (.iconst 0, 0, 0, 0, 0, 1), (.iconst 2, 0, 0, 0, 0, 2), (.invokestatic 206, 3, 1, 12, 1605, 3), (.ifCond .eq 0, 0, 7, 0, 0, 6), (.aload 0, 0, 0, 0, 0, 9), (.getfield 0, 12, 15, 0, 1446, 10), (.iload 1, 0, 0, 0, 0, 13), (.iaload, 0, 0, 0, 0, 14), (.ifCond .le 0, 0, 2, 0, 0, 15), (.iconst 1, 0, 0, 0, 0, 18), (.goto 0, 0, 1, 0, 0, 19), (.iconst 0, 0, 0, 0, 0, 22), (.ireturn, 1, 0, 0, 0, 23)], [([true, true], 0)])
def T_X12_isWhole : jT := ([(.aload 0, 0, 0, 0, 0, 0), (.iload 1, 0, 0, 0, 0, 1), (.invokevirtual 250, 2, 1, 12, 1773, 2), (.ifCond .ne 0, 0, 2, 0, 0, 5), (.iconst 0, 0, 0, 0, 0, 8), (.ireturn, 1, 0, 0, 0, 9), (.iconst 0, 0, 0, 0, 0, 10), (.istore 2, 0, 0, 0, 0, 11), (.nop, 1, 0, 0, 0, 12), (.iload 2, 0, 0, 0, 0, 12), (.aload 0, 0, 0, 0, 0, 13), (.getfield 0, 12, 15, 0, 1446, 14), (.iload 1, 0, 0, 0, 0, 17), (.iaload, 0, 0, 0, 0, 18), (.if_icmp .ge 0, 0, 14, 0, 0, 19), (.aload 0, 0, 0, 0, 0, 22), (.getfield 0, 12, 14, 0, 1445, 23), (.iconst 10, 0, 0, 0, 0, 26), (.iload 1, 0, 0, 0, 0, 28), (.imul, 0, 0, 0, 0, 29), (.iload 2, 0, 0, 0, 0, 30), (.iadd, 0, 0, 0, 0, 31), (.iaload, 0, 0, 0, 0, 32), (.iconst 99, 0, 0, 0, 0, 33), (.if_icmp .ne 0, 0, 2, 0, 0, 35), (.iconst 0, 0, 0, 0, 0, 38), (.ireturn, 1, 0, 0, 0, 39), (.iinc 2 1, 0, 0, 0, 0, 40), (.goto 0, 1, 1, 0, 0, 43), (.iconst 1, 0, 0, 0, 0, 46), (.ireturn, 1, 0, 0, 0, 47)], [([true, true, true], 0), ([true, true, true], 9)])
def T_X12_lookOn : jT := ([(.iconst 0, 0, 0, 0, 0, 0), (.istore 2, 0, 0, 0, 0, 1), (.nop, 1, 0, 0, 0, 2), (.iload 2, 0, 0, 0, 0, 2), (.aload 0, 0, 0, 0, 0, 3), (.getfield 0, 12, 15, 0, 1446, 4), (.iload 1, 0, 0, 0, 0, 7), (.iaload, 0, 0, 0, 0, 8), (.if_icmp .ge 0, 0, 74, 0, 0, 9), (.aload 0, 0, 0, 0, 0, 12), (.getfield 0, 12, 14, 0, 1445, 13), (.iconst 10, 0, 0, 0, 0, 16), (.iload 1, 0, 0, 0, 0, 18), (.imul, 0, 0, 0, 0, 19), (.iload 2, 0, 0, 0, 0, 20), (.iadd, 0, 0, 0, 0, 21), (.iaload, 0, 0, 0, 0, 22), (.istore 3, 0, 0, 0, 0, 23), (.aload 0, 0, 0, 0, 0, 24), (.iload 3, 0, 0, 0, 0, 25), (.iconst 99, 0, 0, 0, 0, 26), (.if_icmp .ne 0, 0, 2, 0, 0, 28), (.iconst (-1), 0, 0, 0, 0, 31), (.goto 0, 0, 7, 0, 0, 32), (.aload 0, 0, 0, 0, 0, 35), (.aload 0, 0, 0, 0, 0, 36), (.getfield 0, 12, 33, 0, 1464, 37), (.aload 0, 0, 0, 0, 0, 40), (.getfield 0, 12, 34, 0, 1465, 41), (.iload 3, 0, 0, 0, 0, 44), (.invokevirtual 242, 4, 1, 12, 1734, 45), (.putfield 0, 12, 30, 0, 1461, 48), (.aload 0, 0, 0, 0, 0, 51), (.getfield 0, 12, 30, 0, 1461, 52), (.ifCond .ge 0, 0, 2, 0, 0, 55), (.iload 2, 0, 0, 0, 0, 58), (.ireturn, 0, 0, 0, 0, 59), (.aload 0, 0, 0, 0, 0, 60), (.dup, 0, 0, 0, 0, 61), (.getfield 0, 12, 33, 0, 1464, 62), (.iconst 1, 0, 0, 0, 0, 65), (.iload 3, 0, 0, 0, 0, 66), (.ishl, 0, 0, 0, 0, 67), (.ior, 0, 0, 0, 0, 68), (.putfield 0, 12, 33, 0, 1464, 69), (.aload 0, 0, 0, 0, 0, 72), (.iload 3, 0, 0, 0, 0, 73), (.putfield 0, 12, 34, 0, 1465, 74), (.aload 0, 0, 0, 0, 0, 77), (.dup, 0, 0, 0, 0, 78), (.getfield 0, 12, 31, 0, 1462, 79), (.aload 0, 0, 0, 0, 0, 82), (.getfield 0, 12, 3, 0, 1434, 83), (.iload 3, 0, 0, 0, 0, 86), (.iaload, 0, 0, 0, 0, 87), (.iadd, 0, 0, 0, 0, 88), (.putfield 0, 12, 31, 0, 1462, 89), (.iconst 0, 0, 0, 0, 0, 92), (.istore 4, 0, 0, 0, 0, 93), (.nop, 2, 0, 0, 0, 95), (.iload 4, 0, 0, 0, 0, 95), (.aload 0, 0, 0, 0, 0, 97), (.getfield 0, 12, 6, 0, 1437, 98), (.if_icmp .ge 0, 0, 17, 0, 0, 101), (.aload 0, 0, 0, 0, 0, 104), (.dup, 0, 0, 0, 0, 105), (.getfield 0, 12, 32, 0, 1463, 106), (.aload 0, 0, 0, 0, 0, 109), (.iload 4, 0, 0, 0, 0, 110), (.iload 3, 0, 0, 0, 0, 112), (.invokevirtual 231, 3, 1, 12, 1681, 113), (.ifCond .eq 0, 0, 4, 0, 0, 116), (.iconst 1, 0, 0, 0, 0, 119), (.iload 4, 0, 0, 0, 0, 120), (.ishl, 0, 0, 0, 0, 122), (.goto 0, 0, 1, 0, 0, 123), (.iconst 0, 0, 0, 0, 0, 126), (.ior, 0, 0, 0, 0, 127), (.putfield 0, 12, 32, 0, 1463, 128), (.iinc 4 1, 0, 0, 0, 0, 131), (.goto 0, 1, 2, 0, 0, 134), (.iinc 2 1, 0, 0, 0, 0, 137), (.goto 0, 1, 1, 0, 0, 140), (.aload 0, 0, 0, 0, 0, 143), (.getfield 0, 12, 15, 0, 1446, 144), (.iload 1, 0, 0, 0, 0, 147), (.iaload, 0, 0, 0, 0, 148), (.ireturn, 0, 0, 0, 0, 149)], [([true, true, true, true, true], 0), ([true, true, true, false, false], 3), ([true, true, true, true, true], 60)])
def T_X12_lookFromNothing : jT := ([(.aload 0, 0, 0, 0, 0, 0), (.iconst 0, 0, 0, 0, 0, 1), (.putfield 0, 12, 30, 0, 1461, 2), (.aload 0, 0, 0, 0, 0, 5), (.iconst 0, 0, 0, 0, 0, 6), (.putfield 0, 12, 31, 0, 1462, 7), (.aload 0, 0, 0, 0, 0, 10), (.iconst 0, 0, 0, 0, 0, 11), (.putfield 0, 12, 32, 0, 1463, 12), (.aload 0, 0, 0, 0, 0, 15), (.iconst 0, 0, 0, 0, 0, 16), (.putfield 0, 12, 33, 0, 1464, 17), (.aload 0, 0, 0, 0, 0, 20), (.iconst (-1), 0, 0, 0, 0, 21), (.putfield 0, 12, 34, 0, 1465, 22), (.return_, 0, 0, 0, 0, 25)], [([true], 0)])
def T_X12_look : jT := ([(.aload 0, 0, 0, 0, 0, 0), (.iconst 0, 0, 0, 0, 0, 1), (.putfield 0, 12, 20, 0, 1451, 2), (.aload 0, 0, 0, 0, 0, 5), (.iload 1, 0, 0, 0, 0, 6), (.invokevirtual 250, 2, 1, 12, 1773, 7), (.ifCond .ne 0, 0, 2, 0, 0, 10), (.iconst (-3), 0, 0, 0, 0, 13), (.ireturn, 0, 0, 0, 0, 15), (.aload 0, 0, 0, 0, 0, 16), (.invokevirtual 253, 1, 0, 12, 1777, 17), (.aload 0, 0, 0, 0, 0, 20), (.iload 1, 0, 0, 0, 0, 21), (.invokevirtual 252, 2, 1, 12, 1781, 22), (.istore 2, 0, 0, 0, 0, 25), (.aload 0, 0, 0, 0, 0, 26), (.iconst 0, 0, 0, 0, 0, 27), (.putfield 0, 12, 19, 0, 1450, 28), (.aload 0, 0, 0, 0, 0, 31), (.aload 0, 0, 0, 0, 0, 32), (.getfield 0, 12, 30, 0, 1461, 33), (.invokevirtual 209, 2, 0, 12, 1785, 36), (.aload 0, 0, 0, 0, 0, 39), (.aload 0, 0, 0, 0, 0, 40), (.getfield 0, 12, 31, 0, 1462, 41), (.invokevirtual 209, 2, 0, 12, 1785, 44), (.aload 0, 0, 0, 0, 0, 47), (.aload 0, 0, 0, 0, 0, 48), (.getfield 0, 12, 32, 0, 1463, 49), (.invokevirtual 209, 2, 0, 12, 1785, 52), (.iload 2, 0, 0, 0, 0, 55), (.aload 0, 0, 0, 0, 0, 56), (.getfield 0, 12, 15, 0, 1446, 57), (.iload 1, 0, 0, 0, 0, 60), (.iaload, 0, 0, 0, 0, 61), (.if_icmp .ne 0, 0, 2, 0, 0, 62), (.iconst (-2), 0, 0, 0, 0, 65), (.goto 0, 0, 1, 0, 0, 67), (.iload 2, 0, 0, 0, 0, 70), (.ireturn, 0, 0, 0, 0, 71)], [([true, true, true], 0)])
def T_X12_swap : jT := ([(.aload 0, 0, 0, 0, 0, 0), (.iconst 0, 0, 0, 0, 0, 1), (.putfield 0, 12, 20, 0, 1451, 2), (.aload 0, 0, 0, 0, 0, 5), (.iload 1, 0, 0, 0, 0, 6), (.invokevirtual 250, 2, 1, 12, 1773, 7), (.ifCond .eq 0, 0, 23, 0, 0, 10), (.iload 2, 0, 0, 0, 0, 13), (.iconst 0, 0, 0, 0, 0, 14), (.aload 0, 0, 0, 0, 0, 15), (.getfield 0, 12, 15, 0, 1446, 16), (.iload 1, 0, 0, 0, 0, 19), (.iaload, 0, 0, 0, 0, 20), (.iconst 1, 0, 0, 0, 0, 21), (.isub, 0, 0, 0, 0, 22), (.invokestatic 206, 3, 1, 12, 1605, 23), (.ifCond .eq 0, 0, 13, 0, 0, 26), (.iload 3, 0, 0, 0, 0, 29), (.iconst 0, 0, 0, 0, 0, 30), (.aload 0, 0, 0, 0, 0, 31), (.getfield 0, 12, 15, 0, 1446, 32), (.iload 1, 0, 0, 0, 0, 35), (.iaload, 0, 0, 0, 0, 36), (.iconst 1, 0, 0, 0, 0, 37), (.isub, 0, 0, 0, 0, 38), (.invokestatic 206, 3, 1, 12, 1605, 39), (.ifCond .eq 0, 0, 3, 0, 0, 42), (.iload 2, 0, 0, 0, 0, 45), (.iload 3, 0, 0, 0, 0, 46), (.if_icmp .ne 0, 0, 2, 0, 0, 47), (.iconst 0, 0, 0, 0, 0, 50), (.ireturn, 1, 0, 0, 0, 51), (.aload 0, 0, 0, 0, 0, 52), (.getfield 0, 12, 14, 0, 1445, 53), (.iconst 10, 0, 0, 0, 0, 56), (.iload 1, 0, 0, 0, 0, 58), (.imul, 0, 0, 0, 0, 59), (.iload 2, 0, 0, 0, 0, 60), (.iadd, 0, 0, 0, 0, 61), (.iaload, 0, 0, 0, 0, 62), (.istore 4, 0, 0, 0, 0, 63), (.aload 0, 0, 0, 0, 0, 65), (.getfield 0, 12, 14, 0, 1445, 66), (.iconst 10, 0, 0, 0, 0, 69), (.iload 1, 0, 0, 0, 0, 71), (.imul, 0, 0, 0, 0, 72), (.iload 2, 0, 0, 0, 0, 73), (.iadd, 0, 0, 0, 0, 74), (.aload 0, 0, 0, 0, 0, 75), (.getfield 0, 12, 14, 0, 1445, 76), (.iconst 10, 0, 0, 0, 0, 79), (.iload 1, 0, 0, 0, 0, 81), (.imul, 0, 0, 0, 0, 82), (.iload 3, 0, 0, 0, 0, 83), (.iadd, 0, 0, 0, 0, 84), (.iaload, 0, 0, 0, 0, 85), (.iastore, 0, 0, 0, 0, 86), (.aload 0, 0, 0, 0, 0, 87), (.getfield 0, 12, 14, 0, 1445, 88), (.iconst 10, 0, 0, 0, 0, 91), (.iload 1, 0, 0, 0, 0, 93), (.imul, 0, 0, 0, 0, 94), (.iload 3, 0, 0, 0, 0, 95), (.iadd, 0, 0, 0, 0, 96), (.iload 4, 0, 0, 0, 0, 97), (.iastore, 0, 0, 0, 0, 99), (.iconst 1, 0, 0, 0, 0, 100), (.ireturn, 1, 0, 0, 0, 101)], [([true, true, true, true, true], 0)])
def T_X12_turn : jT := ([(.aload 0, 0, 0, 0, 0, 0), (.iconst 0, 0, 0, 0, 0, 1), (.putfield 0, 12, 20, 0, 1451, 2), (.aload 0, 0, 0, 0, 0, 5), (.iload 1, 0, 0, 0, 0, 6), (.invokevirtual 250, 2, 1, 12, 1773, 7), (.ifCond .ne 0, 0, 2, 0, 0, 10), (.iconst 0, 0, 0, 0, 0, 13), (.ireturn, 1, 0, 0, 0, 14), (.iconst 0, 0, 0, 0, 0, 15), (.istore 2, 0, 0, 0, 0, 16), (.aload 0, 0, 0, 0, 0, 17), (.getfield 0, 12, 15, 0, 1446, 18), (.iload 1, 0, 0, 0, 0, 21), (.iaload, 0, 0, 0, 0, 22), (.iconst 1, 0, 0, 0, 0, 23), (.isub, 0, 0, 0, 0, 24), (.istore 3, 0, 0, 0, 0, 25), (.nop, 1, 0, 0, 0, 26), (.iload 2, 0, 0, 0, 0, 26), (.iload 3, 0, 0, 0, 0, 27), (.if_icmp .ge 0, 0, 37, 0, 0, 28), (.aload 0, 0, 0, 0, 0, 31), (.getfield 0, 12, 14, 0, 1445, 32), (.iconst 10, 0, 0, 0, 0, 35), (.iload 1, 0, 0, 0, 0, 37), (.imul, 0, 0, 0, 0, 38), (.iload 2, 0, 0, 0, 0, 39), (.iadd, 0, 0, 0, 0, 40), (.iaload, 0, 0, 0, 0, 41), (.istore 4, 0, 0, 0, 0, 42), (.aload 0, 0, 0, 0, 0, 44), (.getfield 0, 12, 14, 0, 1445, 45), (.iconst 10, 0, 0, 0, 0, 48), (.iload 1, 0, 0, 0, 0, 50), (.imul, 0, 0, 0, 0, 51), (.iload 2, 0, 0, 0, 0, 52), (.iadd, 0, 0, 0, 0, 53), (.aload 0, 0, 0, 0, 0, 54), (.getfield 0, 12, 14, 0, 1445, 55), (.iconst 10, 0, 0, 0, 0, 58), (.iload 1, 0, 0, 0, 0, 60), (.imul, 0, 0, 0, 0, 61), (.iload 3, 0, 0, 0, 0, 62), (.iadd, 0, 0, 0, 0, 63), (.iaload, 0, 0, 0, 0, 64), (.iastore, 0, 0, 0, 0, 65), (.aload 0, 0, 0, 0, 0, 66), (.getfield 0, 12, 14, 0, 1445, 67), (.iconst 10, 0, 0, 0, 0, 70), (.iload 1, 0, 0, 0, 0, 72), (.imul, 0, 0, 0, 0, 73), (.iload 3, 0, 0, 0, 0, 74), (.iadd, 0, 0, 0, 0, 75), (.iload 4, 0, 0, 0, 0, 76), (.iastore, 0, 0, 0, 0, 78), (.iinc 2 1, 0, 0, 0, 0, 79), (.iinc 3 (-1), 0, 0, 0, 0, 82), (.goto 0, 1, 1, 0, 0, 85), (.iconst 1, 0, 0, 0, 0, 88), (.ireturn, 1, 0, 0, 0, 89)], [([true, true, true, true, true], 0), ([true, true, true, true, false], 19)])
def T_X12_joined : jT := ([(.aload 0, 0, 0, 0, 0, 0), (.iconst 0, 0, 0, 0, 0, 1), (.putfield 0, 12, 20, 0, 1451, 2), (.aload 0, 0, 0, 0, 0, 5), (.iload 1, 0, 0, 0, 0, 6), (.invokevirtual 251, 2, 1, 12, 1801, 7), (.ifCond .eq 0, 0, 4, 0, 0, 10), (.aload 0, 0, 0, 0, 0, 13), (.iload 2, 0, 0, 0, 0, 14), (.invokevirtual 251, 2, 1, 12, 1801, 15), (.ifCond .ne 0, 0, 2, 0, 0, 18), (.iconst (-3), 0, 0, 0, 0, 21), (.ireturn, 0, 0, 0, 0, 23), (.aload 0, 0, 0, 0, 0, 24), (.invokevirtual 253, 1, 0, 12, 1777, 25), (.aload 0, 0, 0, 0, 0, 28), (.iload 1, 0, 0, 0, 0, 29), (.invokevirtual 252, 2, 1, 12, 1781, 30), (.istore 3, 0, 0, 0, 0, 33), (.iload 3, 0, 0, 0, 0, 34), (.aload 0, 0, 0, 0, 0, 35), (.getfield 0, 12, 15, 0, 1446, 36), (.iload 1, 0, 0, 0, 0, 39), (.iaload, 0, 0, 0, 0, 40), (.if_icmp .ne 0, 0, 6, 0, 0, 41), (.iload 3, 0, 0, 0, 0, 44), (.aload 0, 0, 0, 0, 0, 45), (.iload 2, 0, 0, 0, 0, 46), (.invokevirtual 252, 2, 1, 12, 1781, 47), (.iadd, 0, 0, 0, 0, 50), (.istore 3, 0, 0, 0, 0, 51), (.aload 0, 0, 0, 0, 0, 52), (.iconst 0, 0, 0, 0, 0, 53), (.putfield 0, 12, 19, 0, 1450, 54), (.aload 0, 0, 0, 0, 0, 57), (.aload 0, 0, 0, 0, 0, 58), (.getfield 0, 12, 30, 0, 1461, 59), (.invokevirtual 209, 2, 0, 12, 1785, 62), (.aload 0, 0, 0, 0, 0, 65), (.getfield 0, 12, 30, 0, 1461, 66), (.ifCond .ne 0, 0, 2, 0, 0, 69), (.iconst (-2), 0, 0, 0, 0, 72), (.goto 0, 0, 1, 0, 0, 74), (.iload 3, 0, 0, 0, 0, 77), (.ireturn, 0, 0, 0, 0, 78)], [([true, true, true, true], 0)])
def T_X12_isLawful : jT := ([(.aload 0, 0, 0, 0, 0, 0), (.invokevirtual 253, 1, 0, 12, 1777, 1), (.aload 0, 0, 0, 0, 0, 4), (.iload 1, 0, 0, 0, 0, 5), (.invokevirtual 252, 2, 1, 12, 1781, 6), (.aload 0, 0, 0, 0, 0, 9), (.getfield 0, 12, 15, 0, 1446, 10), (.iload 1, 0, 0, 0, 0, 13), (.iaload, 0, 0, 0, 0, 14), (.if_icmp .ne 0, 0, 2, 0, 0, 15), (.iconst 1, 0, 0, 0, 0, 18), (.goto 0, 0, 1, 0, 0, 19), (.iconst 0, 0, 0, 0, 0, 22), (.ireturn, 1, 0, 0, 0, 23)], [([true, true], 0)])
def T_X12_falls : jT := ([(.aload 0, 0, 0, 0, 0, 0), (.iconst 0, 0, 0, 0, 0, 1), (.putfield 0, 12, 20, 0, 1451, 2), (.iconst 0, 0, 0, 0, 0, 5), (.iload 1, 0, 0, 0, 0, 6), (.invokestatic 235, 2, 1, 12, 1711, 7), (.ifCond .eq 0, 0, 8, 0, 0, 10), (.iconst 1, 0, 0, 0, 0, 13), (.iload 2, 0, 0, 0, 0, 14), (.invokestatic 235, 2, 1, 12, 1711, 15), (.ifCond .eq 0, 0, 4, 0, 0, 18), (.iconst 2, 0, 0, 0, 0, 21), (.iload 3, 0, 0, 0, 0, 22), (.invokestatic 235, 2, 1, 12, 1711, 23), (.ifCond .ne 0, 0, 2, 0, 0, 26), (.iconst (-1), 0, 0, 0, 0, 29), (.ireturn, 0, 0, 0, 0, 30), (.iconst 0, 0, 0, 0, 0, 31), (.istore 4, 0, 0, 0, 0, 32), (.iconst 0, 0, 0, 0, 0, 34), (.istore 5, 0, 0, 0, 0, 35), (.nop, 1, 0, 0, 0, 37), (.iload 5, 0, 0, 0, 0, 37), (.iconst 3, 0, 0, 0, 0, 39), (.if_icmp .ge 0, 0, 18, 0, 0, 40), (.iload 4, 0, 0, 0, 0, 43), (.aload 0, 0, 0, 0, 0, 45), (.iload 5, 0, 0, 0, 0, 46), (.invokevirtual 251, 2, 1, 12, 1801, 48), (.ifCond .eq 0, 0, 8, 0, 0, 51), (.aload 0, 0, 0, 0, 0, 54), (.iload 5, 0, 0, 0, 0, 55), (.invokevirtual 258, 2, 1, 12, 1809, 57), (.ifCond .eq 0, 0, 4, 0, 0, 60), (.iconst 1, 0, 0, 0, 0, 63), (.iload 5, 0, 0, 0, 0, 64), (.ishl, 0, 0, 0, 0, 66), (.goto 0, 0, 1, 0, 0, 67), (.iconst 0, 0, 0, 0, 0, 70), (.ior, 0, 0, 0, 0, 71), (.istore 4, 0, 0, 0, 0, 72), (.iinc 5 1, 0, 0, 0, 0, 74), (.goto 0, 1, 1, 0, 0, 77), (.aload 0, 0, 0, 0, 0, 80), (.getfield 0, 12, 9, 0, 1440, 81), (.istore 5, 0, 0, 0, 0, 84), (.aload 0, 0, 0, 0, 0, 86), (.getfield 0, 12, 10, 0, 1441, 87), (.istore 6, 0, 0, 0, 0, 90), (.aload 0, 0, 0, 0, 0, 92), (.getfield 0, 12, 11, 0, 1442, 93), (.istore 7, 0, 0, 0, 0, 96), (.aload 0, 0, 0, 0, 0, 98), (.iload 1, 0, 0, 0, 0, 99), (.putfield 0, 12, 9, 0, 1440, 100), (.aload 0, 0, 0, 0, 0, 103), (.iload 2, 0, 0, 0, 0, 104), (.putfield 0, 12, 10, 0, 1441, 105), (.aload 0, 0, 0, 0, 0, 108), (.iload 3, 0, 0, 0, 0, 109), (.putfield 0, 12, 11, 0, 1442, 110), (.iconst 0, 0, 0, 0, 0, 113), (.istore 8, 0, 0, 0, 0, 114), (.nop, 2, 0, 0, 0, 116), (.iload 8, 0, 0, 0, 0, 116), (.iconst 3, 0, 0, 0, 0, 118), (.if_icmp .ge 0, 0, 18, 0, 0, 119), (.iload 4, 0, 0, 0, 0, 122), (.iload 8, 0, 0, 0, 0, 124), (.invokestatic 207, 2, 1, 12, 1738, 126), (.ifCond .eq 0, 0, 12, 0, 0, 129), (.aload 0, 0, 0, 0, 0, 132), (.iload 8, 0, 0, 0, 0, 133), (.invokevirtual 258, 2, 1, 12, 1809, 135), (.ifCond .eq 0, 0, 8, 0, 0, 138), (.iload 4, 0, 0, 0, 0, 141), (.iconst 1, 0, 0, 0, 0, 143), (.iload 8, 0, 0, 0, 0, 144), (.ishl, 0, 0, 0, 0, 146), (.iconst (-1), 0, 0, 0, 0, 147), (.ixor, 0, 0, 0, 0, 148), (.iand, 0, 0, 0, 0, 149), (.istore 4, 0, 0, 0, 0, 150), (.iinc 8 1, 0, 0, 0, 0, 152), (.goto 0, 1, 2, 0, 0, 155), (.aload 0, 0, 0, 0, 0, 158), (.iload 5, 0, 0, 0, 0, 159), (.putfield 0, 12, 9, 0, 1440, 161), (.aload 0, 0, 0, 0, 0, 164), (.iload 6, 0, 0, 0, 0, 165), (.putfield 0, 12, 10, 0, 1441, 167), (.aload 0, 0, 0, 0, 0, 170), (.iload 7, 0, 0, 0, 0, 171), (.putfield 0, 12, 11, 0, 1442, 173), (.iload 4, 0, 0, 0, 0, 176), (.ireturn, 0, 0, 0, 0, 178)], [([true, true, true, true, true, true, true, true, true], 0), ([true, true, true, true, true, true, false, false, false], 22), ([true, false, false, false, true, true, true, true, true], 64)])
def T_X12_place : jT := ([(.iconst 11, 0, 0, 0, 0, 0), (.iload 0, 0, 0, 0, 0, 2), (.imul, 0, 0, 0, 0, 3), (.iload 1, 0, 0, 0, 0, 4), (.iconst (-1), 0, 0, 0, 0, 5), (.if_icmp .ne 0, 0, 2, 0, 0, 6), (.iconst 10, 0, 0, 0, 0, 9), (.goto 0, 0, 1, 0, 0, 11), (.iload 1, 0, 0, 0, 0, 14), (.iadd, 0, 0, 0, 0, 15), (.ireturn, 0, 0, 0, 0, 16)], [([true, true], 0)])
def T_X12_all : jT := ([(.iconst 1, 0, 0, 0, 0, 0), (.aload 0, 0, 0, 0, 0, 1), (.getfield 0, 12, 1, 0, 1432, 2), (.ishl, 0, 0, 0, 0, 5), (.iconst 1, 0, 0, 0, 0, 6), (.isub, 0, 0, 0, 0, 7), (.ireturn, 0, 0, 0, 0, 8)], [([true], 0)])
def T_X12_may : jT := ([(.aload 0, 0, 0, 0, 0, 0), (.iload 1, 0, 0, 0, 0, 1), (.iload 2, 0, 0, 0, 0, 2), (.iload 3, 0, 0, 0, 0, 3), (.invokevirtual 242, 4, 1, 12, 1734, 4), (.ifCond .ne 0, 0, 2, 0, 0, 7), (.iconst 1, 0, 0, 0, 0, 10), (.goto 0, 0, 1, 0, 0, 11), (.iconst 0, 0, 0, 0, 0, 14), (.ireturn, 1, 0, 0, 0, 15)], [([true, true, true, true], 0)])
def T_X12_isState : jT := ([(.iload 1, 0, 0, 0, 0, 0), (.iconst (-1), 0, 0, 0, 0, 1), (.if_icmp .ne 0, 0, 6, 0, 0, 2), (.iload 0, 0, 0, 0, 0, 5), (.ifCond .ne 0, 0, 2, 0, 0, 6), (.iconst 1, 0, 0, 0, 0, 9), (.goto 0, 0, 5, 0, 0, 10), (.iconst 0, 0, 0, 0, 0, 13), (.goto 0, 0, 3, 0, 0, 14), (.iload 0, 0, 0, 0, 0, 17), (.iload 1, 0, 0, 0, 0, 18), (.invokestatic 207, 2, 1, 12, 1738, 19), (.ireturn, 1, 0, 0, 0, 22)], [([true, true], 0)])
def T_X12_noEnds : jT := ([(.iconst 0, 0, 0, 0, 0, 0), (.istore 1, 0, 0, 0, 0, 1), (.nop, 1, 0, 0, 0, 2), (.iload 1, 0, 0, 0, 0, 2), (.iconst 11264, 0, 0, 0, 0, 3), (.if_icmp .ge 0, 0, 7, 0, 0, 6), (.aload 0, 0, 0, 0, 0, 9), (.getfield 0, 12, 35, 0, 1466, 10), (.iload 1, 0, 0, 0, 0, 13), (.iconst 0, 0, 0, 0, 0, 14), (.bastore, 22, 0, 0, 0, 15), (.iinc 1 1, 0, 0, 0, 0, 16), (.goto 0, 1, 1, 0, 0, 19), (.return_, 0, 0, 0, 0, 22)], [([true, true], 0), ([true, true], 3)])
def T_X12_findEnds : jT := ([(.aload 0, 0, 0, 0, 0, 0), (.invokevirtual 261, 1, 1, 12, 1817, 1), (.istore 2, 0, 0, 0, 0, 4), (.nop, 1, 0, 0, 0, 5), (.iload 2, 0, 0, 0, 0, 5), (.ifCond .lt 0, 0, 66, 0, 0, 6), (.iconst (-1), 0, 0, 0, 0, 9), (.istore 3, 0, 0, 0, 0, 10), (.nop, 2, 0, 0, 0, 11), (.iload 3, 0, 0, 0, 0, 11), (.aload 0, 0, 0, 0, 0, 12), (.getfield 0, 12, 1, 0, 1432, 13), (.if_icmp .ge 0, 0, 57, 0, 0, 16), (.iload 2, 0, 0, 0, 0, 19), (.iload 3, 0, 0, 0, 0, 20), (.invokestatic 263, 2, 1, 12, 1832, 21), (.ifCond .ne 0, 0, 1, 0, 0, 24), (.goto 0, 0, 50, 0, 0, 27), (.aload 0, 0, 0, 0, 0, 30), (.getfield 0, 12, 35, 0, 1466, 31), (.iload 2, 0, 0, 0, 0, 34), (.iload 3, 0, 0, 0, 0, 35), (.invokestatic 260, 2, 1, 12, 1829, 36), (.baload, 22, 0, 0, 0, 39), (.istore 4, 0, 0, 0, 0, 40), (.iconst 0, 0, 0, 0, 0, 42), (.istore 5, 0, 0, 0, 0, 43), (.nop, 3, 0, 0, 0, 45), (.iload 5, 0, 0, 0, 0, 45), (.aload 0, 0, 0, 0, 0, 47), (.getfield 0, 12, 1, 0, 1432, 48), (.if_icmp .ge 0, 0, 29, 0, 0, 51), (.iload 4, 0, 0, 0, 0, 54), (.ifCond .ne 0, 0, 27, 0, 0, 56), (.iload 1, 0, 0, 0, 0, 59), (.iload 5, 0, 0, 0, 0, 60), (.invokestatic 207, 2, 1, 12, 1738, 62), (.ifCond .eq 0, 0, 19, 0, 0, 65), (.aload 0, 0, 0, 0, 0, 68), (.iload 2, 0, 0, 0, 0, 69), (.iload 3, 0, 0, 0, 0, 70), (.iload 5, 0, 0, 0, 0, 71), (.invokevirtual 262, 4, 1, 12, 1835, 73), (.ifCond .eq 0, 0, 13, 0, 0, 76), (.aload 0, 0, 0, 0, 0, 79), (.getfield 0, 12, 36, 0, 1467, 80), (.iload 2, 0, 0, 0, 0, 83), (.iconst 1, 0, 0, 0, 0, 84), (.iload 5, 0, 0, 0, 0, 85), (.ishl, 0, 0, 0, 0, 87), (.ior, 0, 0, 0, 0, 88), (.iload 5, 0, 0, 0, 0, 89), (.invokestatic 260, 2, 1, 12, 1829, 91), (.baload, 22, 0, 0, 0, 94), (.ifCond .eq 0, 0, 2, 0, 0, 95), (.iconst 1, 0, 0, 0, 0, 98), (.goto 0, 0, 1, 0, 0, 99), (.iconst 0, 0, 0, 0, 0, 102), (.istore 4, 0, 0, 0, 0, 103), (.iinc 5 1, 0, 0, 0, 0, 105), (.goto 0, 1, 3, 0, 0, 108), (.aload 0, 0, 0, 0, 0, 111), (.getfield 0, 12, 36, 0, 1467, 112), (.iload 2, 0, 0, 0, 0, 115), (.iload 3, 0, 0, 0, 0, 116), (.invokestatic 260, 2, 1, 12, 1829, 117), (.iload 4, 0, 0, 0, 0, 120), (.bastore, 22, 0, 0, 0, 122), (.iinc 3 1, 0, 0, 0, 0, 123), (.goto 0, 1, 2, 0, 0, 126), (.iinc 2 (-1), 0, 0, 0, 0, 129), (.goto 0, 1, 1, 0, 0, 132), (.return_, 0, 0, 0, 0, 135)], [([true, true, true, true, true, true], 0), ([true, true, true, false, false, false], 4), ([true, true, true, true, false, false], 9), ([true, true, true, true, true, true], 28)])
def T_X12_tellWay : jT := ([(.iload 1, 0, 0, 0, 0, 0), (.istore 4, 0, 0, 0, 0, 1), (.iload 2, 0, 0, 0, 0, 3), (.istore 5, 0, 0, 0, 0, 4), (.nop, 1, 0, 0, 0, 6), (.aload 0, 0, 0, 0, 0, 6), (.getfield 0, 12, 35, 0, 1466, 7), (.iload 4, 0, 0, 0, 0, 10), (.iload 5, 0, 0, 0, 0, 12), (.invokestatic 260, 2, 1, 12, 1829, 14), (.baload, 22, 0, 0, 0, 17), (.ifCond .ne 0, 0, 38, 0, 0, 18), (.iconst 0, 0, 0, 0, 0, 21), (.istore 6, 0, 0, 0, 0, 22), (.nop, 2, 0, 0, 0, 24), (.iload 3, 0, 0, 0, 0, 24), (.iload 6, 0, 0, 0, 0, 25), (.invokestatic 207, 2, 1, 12, 1738, 27), (.ifCond .eq 0, 0, 17, 0, 0, 30), (.aload 0, 0, 0, 0, 0, 33), (.iload 4, 0, 0, 0, 0, 34), (.iload 5, 0, 0, 0, 0, 36), (.iload 6, 0, 0, 0, 0, 38), (.invokevirtual 262, 4, 1, 12, 1835, 40), (.ifCond .eq 0, 0, 11, 0, 0, 43), (.aload 0, 0, 0, 0, 0, 46), (.getfield 0, 12, 36, 0, 1467, 47), (.iload 4, 0, 0, 0, 0, 50), (.iconst 1, 0, 0, 0, 0, 52), (.iload 6, 0, 0, 0, 0, 53), (.ishl, 0, 0, 0, 0, 55), (.ior, 0, 0, 0, 0, 56), (.iload 6, 0, 0, 0, 0, 57), (.invokestatic 260, 2, 1, 12, 1829, 59), (.baload, 22, 0, 0, 0, 62), (.ifCond .ne 0, 0, 2, 0, 0, 63), (.iinc 6 1, 0, 0, 0, 0, 66), (.goto 0, 1, 2, 0, 0, 69), (.aload 0, 0, 0, 0, 0, 72), (.iload 6, 0, 0, 0, 0, 73), (.invokevirtual 209, 2, 0, 12, 1785, 75), (.iload 4, 0, 0, 0, 0, 78), (.iconst 1, 0, 0, 0, 0, 80), (.iload 6, 0, 0, 0, 0, 81), (.ishl, 0, 0, 0, 0, 83), (.ior, 0, 0, 0, 0, 84), (.istore 4, 0, 0, 0, 0, 85), (.iload 6, 0, 0, 0, 0, 87), (.istore 5, 0, 0, 0, 0, 89), (.goto 0, 1, 1, 0, 0, 91), (.return_, 0, 0, 0, 0, 94)], [([true, true, true, true, true, true, true], 0), ([true, false, false, true, true, true, false], 5), ([true, false, false, true, true, true, true], 15)])
def T_X12_findRows : jT := ([(.iconst 0, 0, 0, 0, 0, 0), (.istore 4, 0, 0, 0, 0, 1), (.nop, 1, 0, 0, 0, 3), (.iload 4, 0, 0, 0, 0, 3), (.iconst 11264, 0, 0, 0, 0, 5), (.if_icmp .ge 0, 0, 7, 0, 0, 8), (.aload 0, 0, 0, 0, 0, 11), (.getfield 0, 12, 37, 0, 1468, 12), (.iload 4, 0, 0, 0, 0, 15), (.sipush 0, 0, 0, 0, 0, 17), (.lastore, 0, 0, 0, 0, 18), (.iinc 4 1, 0, 0, 0, 0, 19), (.goto 0, 1, 1, 0, 0, 22), (.aload 0, 0, 0, 0, 0, 25), (.getfield 0, 12, 37, 0, 1468, 26), (.iload 1, 0, 0, 0, 0, 29), (.iload 2, 0, 0, 0, 0, 30), (.invokestatic 260, 2, 1, 12, 1829, 31), (.sipush 1, 0, 0, 0, 0, 34), (.lastore, 0, 0, 0, 0, 35), (.iconst 0, 0, 0, 0, 0, 36), (.istore 4, 0, 0, 0, 0, 37), (.nop, 2, 0, 0, 0, 39), (.iload 4, 0, 0, 0, 0, 39), (.aload 0, 0, 0, 0, 0, 41), (.invokevirtual 261, 1, 1, 12, 1817, 42), (.if_icmp .gt 0, 0, 61, 0, 0, 45), (.iconst (-1), 0, 0, 0, 0, 48), (.istore 5, 0, 0, 0, 0, 49), (.nop, 3, 0, 0, 0, 51), (.iload 5, 0, 0, 0, 0, 51), (.aload 0, 0, 0, 0, 0, 53), (.getfield 0, 12, 1, 0, 1432, 54), (.if_icmp .ge 0, 0, 52, 0, 0, 57), (.iload 4, 0, 0, 0, 0, 60), (.iload 5, 0, 0, 0, 0, 62), (.invokestatic 263, 2, 1, 12, 1832, 64), (.ifCond .eq 0, 0, 7, 0, 0, 67), (.aload 0, 0, 0, 0, 0, 70), (.getfield 0, 12, 37, 0, 1468, 71), (.iload 4, 0, 0, 0, 0, 74), (.iload 5, 0, 0, 0, 0, 76), (.invokestatic 260, 2, 1, 12, 1829, 78), (.laload, 0, 0, 0, 0, 81), (.goto 0, 0, 1, 0, 0, 82), (.sipush 0, 0, 0, 0, 0, 85), (.lstore 6, 0, 0, 0, 0, 86), (.iconst 0, 0, 0, 0, 0, 88), (.istore 8, 0, 0, 0, 0, 89), (.nop, 4, 0, 0, 0, 91), (.iload 8, 0, 0, 0, 0, 91), (.aload 0, 0, 0, 0, 0, 93), (.getfield 0, 12, 1, 0, 1432, 94), (.if_icmp .ge 0, 0, 30, 0, 0, 97), (.lload 6, 0, 0, 0, 0, 100), (.sipush 0, 0, 0, 0, 0, 102), (.lcmp, 0, 0, 0, 0, 103), (.ifCond .le 0, 0, 26, 0, 0, 104), (.iload 3, 0, 0, 0, 0, 107), (.iload 8, 0, 0, 0, 0, 108), (.invokestatic 207, 2, 1, 12, 1738, 110), (.ifCond .eq 0, 0, 20, 0, 0, 113), (.aload 0, 0, 0, 0, 0, 116), (.iload 4, 0, 0, 0, 0, 117), (.iload 5, 0, 0, 0, 0, 119), (.iload 8, 0, 0, 0, 0, 121), (.invokevirtual 262, 4, 1, 12, 1835, 123), (.ifCond .eq 0, 0, 14, 0, 0, 126), (.aload 0, 0, 0, 0, 0, 129), (.getfield 0, 12, 37, 0, 1468, 130), (.iload 4, 0, 0, 0, 0, 133), (.iconst 1, 0, 0, 0, 0, 135), (.iload 8, 0, 0, 0, 0, 136), (.ishl, 0, 0, 0, 0, 138), (.ior, 0, 0, 0, 0, 139), (.iload 8, 0, 0, 0, 0, 140), (.invokestatic 260, 2, 1, 12, 1829, 142), (.dup2, 0, 0, 0, 0, 145), (.laload, 0, 0, 0, 0, 146), (.lload 6, 0, 0, 0, 0, 147), (.ladd, 0, 0, 0, 0, 149), (.lastore, 0, 0, 0, 0, 150), (.iinc 8 1, 0, 0, 0, 0, 151), (.goto 0, 1, 4, 0, 0, 154), (.iinc 5 1, 0, 0, 0, 0, 157), (.goto 0, 1, 3, 0, 0, 160), (.iinc 4 1, 0, 0, 0, 0, 163), (.goto 0, 1, 2, 0, 0, 166), (.return_, 0, 0, 0, 0, 169)], [([true, true, true, true, true, true, true, true, true], 0), ([true, true, true, true, true, false, false, false, false], 3), ([true, false, false, true, true, false, false, false, false], 23), ([true, false, false, true, true, true, false, false, false], 30), ([true, false, false, true, true, true, true, false, true], 50)])
def T_X12_longestBy : jT := ([(.aload 0, 0, 0, 0, 0, 0), (.invokevirtual 243, 1, 1, 12, 1726, 1), (.istore 2, 0, 0, 0, 0, 4), (.aload 0, 0, 0, 0, 0, 5), (.invokevirtual 244, 1, 1, 12, 1730, 6), (.istore 3, 0, 0, 0, 0, 9), (.aload 0, 0, 0, 0, 0, 10), (.iload 2, 0, 0, 0, 0, 11), (.iload 3, 0, 0, 0, 0, 12), (.iload 1, 0, 0, 0, 0, 13), (.invokevirtual 267, 4, 0, 12, 1825, 14), (.iconst 0, 0, 0, 0, 0, 17), (.istore 4, 0, 0, 0, 0, 18), (.iconst 0, 0, 0, 0, 0, 20), (.istore 5, 0, 0, 0, 0, 21), (.nop, 1, 0, 0, 0, 23), (.iload 5, 0, 0, 0, 0, 23), (.aload 0, 0, 0, 0, 0, 25), (.invokevirtual 261, 1, 1, 12, 1817, 26), (.if_icmp .gt 0, 0, 32, 0, 0, 29), (.iconst 0, 0, 0, 0, 0, 32), (.istore 6, 0, 0, 0, 0, 33), (.nop, 2, 0, 0, 0, 35), (.iload 6, 0, 0, 0, 0, 35), (.aload 0, 0, 0, 0, 0, 37), (.getfield 0, 12, 1, 0, 1432, 38), (.if_icmp .ge 0, 0, 23, 0, 0, 41), (.iload 5, 0, 0, 0, 0, 44), (.iload 6, 0, 0, 0, 0, 46), (.invokestatic 207, 2, 1, 12, 1738, 48), (.ifCond .eq 0, 0, 17, 0, 0, 51), (.aload 0, 0, 0, 0, 0, 54), (.getfield 0, 12, 37, 0, 1468, 55), (.iload 5, 0, 0, 0, 0, 58), (.iload 6, 0, 0, 0, 0, 60), (.invokestatic 260, 2, 1, 12, 1829, 62), (.laload, 0, 0, 0, 0, 65), (.sipush 0, 0, 0, 0, 0, 66), (.lcmp, 0, 0, 0, 0, 67), (.ifCond .le 0, 0, 8, 0, 0, 68), (.iload 4, 0, 0, 0, 0, 71), (.iload 5, 0, 0, 0, 0, 73), (.invokestatic 0, 1, 1, 0, 1668, 75), (.aload 0, 0, 0, 0, 0, 78), (.getfield 0, 12, 13, 0, 1444, 79), (.isub, 0, 0, 0, 0, 82), (.lmul, 0, 0, 0, 1694, 83), (.istore 4, 0, 0, 0, 0, 86), (.iinc 6 1, 0, 0, 0, 0, 88), (.goto 0, 1, 2, 0, 0, 91), (.iinc 5 1, 0, 0, 0, 0, 94), (.goto 0, 1, 1, 0, 0, 97), (.aload 0, 0, 0, 0, 0, 100), (.invokevirtual 264, 1, 0, 12, 1839, 101), (.iconst 0, 0, 0, 0, 0, 104), (.istore 5, 0, 0, 0, 0, 105), (.nop, 3, 0, 0, 0, 107), (.iload 5, 0, 0, 0, 0, 107), (.aload 0, 0, 0, 0, 0, 109), (.invokevirtual 261, 1, 1, 12, 1817, 110), (.if_icmp .gt 0, 0, 40, 0, 0, 113), (.iconst (-1), 0, 0, 0, 0, 116), (.istore 6, 0, 0, 0, 0, 117), (.nop, 4, 0, 0, 0, 119), (.iload 6, 0, 0, 0, 0, 119), (.aload 0, 0, 0, 0, 0, 121), (.getfield 0, 12, 1, 0, 1432, 122), (.if_icmp .ge 0, 0, 31, 0, 0, 125), (.iload 5, 0, 0, 0, 0, 128), (.iload 6, 0, 0, 0, 0, 130), (.invokestatic 263, 2, 1, 12, 1832, 132), (.ifCond .eq 0, 0, 25, 0, 0, 135), (.aload 0, 0, 0, 0, 0, 138), (.getfield 0, 12, 37, 0, 1468, 139), (.iload 5, 0, 0, 0, 0, 142), (.iload 6, 0, 0, 0, 0, 144), (.invokestatic 260, 2, 1, 12, 1829, 146), (.laload, 0, 0, 0, 0, 149), (.sipush 0, 0, 0, 0, 0, 150), (.lcmp, 0, 0, 0, 0, 151), (.ifCond .le 0, 0, 16, 0, 0, 152), (.aload 0, 0, 0, 0, 0, 155), (.getfield 0, 12, 35, 0, 1466, 156), (.iload 5, 0, 0, 0, 0, 159), (.iload 6, 0, 0, 0, 0, 161), (.invokestatic 260, 2, 1, 12, 1829, 163), (.iload 5, 0, 0, 0, 0, 166), (.invokestatic 0, 1, 1, 0, 1668, 168), (.aload 0, 0, 0, 0, 0, 171), (.getfield 0, 12, 13, 0, 1444, 172), (.isub, 0, 0, 0, 0, 175), (.iload 4, 0, 0, 0, 0, 176), (.if_icmp .ne 0, 0, 2, 0, 0, 178), (.iconst 1, 0, 0, 0, 0, 181), (.goto 0, 0, 1, 0, 0, 182), (.iconst 0, 0, 0, 0, 0, 185), (.bastore, 22, 0, 0, 0, 186), (.iinc 6 1, 0, 0, 0, 0, 187), (.goto 0, 1, 4, 0, 0, 190), (.iinc 5 1, 0, 0, 0, 0, 193), (.goto 0, 1, 3, 0, 0, 196), (.aload 0, 0, 0, 0, 0, 199), (.iload 1, 0, 0, 0, 0, 200), (.invokevirtual 265, 2, 0, 12, 1843, 201), (.aload 0, 0, 0, 0, 0, 204), (.iconst 0, 0, 0, 0, 0, 205), (.putfield 0, 12, 19, 0, 1450, 206), (.aload 0, 0, 0, 0, 0, 209), (.iload 2, 0, 0, 0, 0, 210), (.iload 3, 0, 0, 0, 0, 211), (.iload 1, 0, 0, 0, 0, 212), (.invokevirtual 266, 4, 0, 12, 1847, 213), (.iload 4, 0, 0, 0, 0, 216), (.ireturn, 0, 0, 0, 0, 218)], [([true, true, true, true, true, true, true], 0), ([true, true, true, true, true, true, false], 16), ([true, true, true, true, true, true, true], 23), ([true, true, true, true, true, true, false], 57), ([true, true, true, true, true, true, true], 64)])
def T_X12_longest : jT := ([(.aload 0, 0, 0, 0, 0, 0), (.iconst 0, 0, 0, 0, 0, 1), (.putfield 0, 12, 20, 0, 1451, 2), (.aload 0, 0, 0, 0, 0, 5), (.aload 0, 0, 0, 0, 0, 6), (.invokevirtual 261, 1, 1, 12, 1817, 7), (.invokevirtual 268, 2, 1, 12, 1821, 10), (.ireturn, 0, 0, 0, 0, 13)], [([true], 0)])
def T_X12_ways : jT := ([(.aload 0, 0, 0, 0, 0, 0), (.iconst 0, 0, 0, 0, 0, 1), (.putfield 0, 12, 20, 0, 1451, 2), (.iload 1, 0, 0, 0, 0, 5), (.iconst 0, 0, 0, 0, 0, 6), (.iconst 10, 0, 0, 0, 0, 7), (.invokestatic 206, 3, 1, 12, 1605, 9), (.ifCond .ne 0, 0, 2, 0, 0, 12), (.sipush (-1), 0, 0, 0, 1855, 15), (.lreturn, 0, 0, 0, 0, 18), (.aload 0, 0, 0, 0, 0, 19), (.aload 0, 0, 0, 0, 0, 20), (.invokevirtual 243, 1, 1, 12, 1726, 21), (.aload 0, 0, 0, 0, 0, 24), (.invokevirtual 244, 1, 1, 12, 1730, 25), (.aload 0, 0, 0, 0, 0, 28), (.invokevirtual 261, 1, 1, 12, 1817, 29), (.invokevirtual 267, 4, 0, 12, 1825, 32), (.sipush 0, 0, 0, 0, 0, 35), (.lstore 2, 0, 0, 0, 0, 36), (.iconst 0, 0, 0, 0, 0, 37), (.istore 4, 0, 0, 0, 0, 38), (.nop, 1, 0, 0, 0, 40), (.iload 4, 0, 0, 0, 0, 40), (.aload 0, 0, 0, 0, 0, 42), (.invokevirtual 261, 1, 1, 12, 1817, 43), (.if_icmp .gt 0, 0, 31, 0, 0, 46), (.iconst (-1), 0, 0, 0, 0, 49), (.istore 5, 0, 0, 0, 0, 50), (.nop, 2, 0, 0, 0, 52), (.iload 5, 0, 0, 0, 0, 52), (.aload 0, 0, 0, 0, 0, 54), (.getfield 0, 12, 1, 0, 1432, 55), (.if_icmp .ge 0, 0, 22, 0, 0, 58), (.iload 4, 0, 0, 0, 0, 61), (.iload 5, 0, 0, 0, 0, 63), (.invokestatic 263, 2, 1, 12, 1832, 65), (.ifCond .eq 0, 0, 16, 0, 0, 68), (.iload 4, 0, 0, 0, 0, 71), (.invokestatic 0, 1, 1, 0, 1668, 73), (.aload 0, 0, 0, 0, 0, 76), (.getfield 0, 12, 13, 0, 1444, 77), (.iload 1, 0, 0, 0, 0, 80), (.iadd, 0, 0, 0, 0, 81), (.if_icmp .ne 0, 0, 9, 0, 0, 82), (.lload 2, 0, 0, 0, 0, 85), (.aload 0, 0, 0, 0, 0, 86), (.getfield 0, 12, 37, 0, 1468, 87), (.iload 4, 0, 0, 0, 0, 90), (.iload 5, 0, 0, 0, 0, 92), (.invokestatic 260, 2, 1, 12, 1829, 94), (.laload, 0, 0, 0, 0, 97), (.ladd, 0, 0, 0, 0, 98), (.lstore 2, 0, 0, 0, 0, 99), (.iinc 5 1, 0, 0, 0, 0, 100), (.goto 0, 1, 2, 0, 0, 103), (.iinc 4 1, 0, 0, 0, 0, 106), (.goto 0, 1, 1, 0, 0, 109), (.lload 2, 0, 0, 0, 0, 112), (.lreturn, 0, 0, 0, 0, 113)], [([true, true, true, true, true, true], 0), ([true, true, true, false, true, false], 23), ([true, true, true, false, true, true], 30)])
def T_X12_tellFrom : jT := ([(.aload 0, 0, 0, 0, 0, 0), (.aload 0, 0, 0, 0, 0, 1), (.invokevirtual 261, 1, 1, 12, 1817, 2), (.invokevirtual 265, 2, 0, 12, 1843, 5), (.aload 0, 0, 0, 0, 0, 8), (.iconst 0, 0, 0, 0, 0, 9), (.iconst (-1), 0, 0, 0, 0, 10), (.iload 1, 0, 0, 0, 0, 11), (.invokevirtual 262, 4, 1, 12, 1835, 12), (.ifCond .eq 0, 0, 9, 0, 0, 15), (.aload 0, 0, 0, 0, 0, 18), (.getfield 0, 12, 36, 0, 1467, 19), (.iconst 1, 0, 0, 0, 0, 22), (.iload 1, 0, 0, 0, 0, 23), (.ishl, 0, 0, 0, 0, 24), (.iload 1, 0, 0, 0, 0, 25), (.invokestatic 260, 2, 1, 12, 1829, 26), (.baload, 22, 0, 0, 0, 29), (.ifCond .ne 0, 0, 2, 0, 0, 30), (.iconst 0, 0, 0, 0, 0, 33), (.ireturn, 1, 0, 0, 0, 34), (.aload 0, 0, 0, 0, 0, 35), (.iconst 0, 0, 0, 0, 0, 36), (.putfield 0, 12, 19, 0, 1450, 37), (.aload 0, 0, 0, 0, 0, 40), (.iload 1, 0, 0, 0, 0, 41), (.invokevirtual 209, 2, 0, 12, 1785, 42), (.aload 0, 0, 0, 0, 0, 45), (.iconst 1, 0, 0, 0, 0, 46), (.iload 1, 0, 0, 0, 0, 47), (.ishl, 0, 0, 0, 0, 48), (.iload 1, 0, 0, 0, 0, 49), (.aload 0, 0, 0, 0, 0, 50), (.invokevirtual 261, 1, 1, 12, 1817, 51), (.invokevirtual 266, 4, 0, 12, 1847, 54), (.iconst 1, 0, 0, 0, 0, 57), (.ireturn, 1, 0, 0, 0, 58)], [([true, true, true], 0)])
def T_X12_betweenBy : jT := ([(.aload 0, 0, 0, 0, 0, 0), (.iload 1, 0, 0, 0, 0, 1), (.invokevirtual 210, 2, 1, 12, 1673, 2), (.ifCond .eq 0, 0, 4, 0, 0, 5), (.aload 0, 0, 0, 0, 0, 8), (.iload 2, 0, 0, 0, 0, 9), (.invokevirtual 210, 2, 1, 12, 1673, 10), (.ifCond .ne 0, 0, 2, 0, 0, 13), (.iconst (-1), 0, 0, 0, 0, 16), (.ireturn, 0, 0, 0, 0, 17), (.iconst 0, 0, 0, 0, 0, 18), (.istore 4, 0, 0, 0, 0, 19), (.nop, 1, 0, 0, 0, 21), (.iload 4, 0, 0, 0, 0, 21), (.aload 0, 0, 0, 0, 0, 23), (.getfield 0, 12, 1, 0, 1432, 24), (.if_icmp .ge 0, 0, 56, 0, 0, 27), (.iload 3, 0, 0, 0, 0, 30), (.ifCond .eq 0, 0, 5, 0, 0, 31), (.aload 0, 0, 0, 0, 0, 34), (.getfield 0, 12, 1, 0, 1432, 35), (.iload 4, 0, 0, 0, 0, 38), (.isub, 0, 0, 0, 0, 40), (.goto 0, 0, 3, 0, 0, 41), (.iload 4, 0, 0, 0, 0, 44), (.iconst 1, 0, 0, 0, 0, 46), (.iadd, 0, 0, 0, 0, 47), (.istore 5, 0, 0, 0, 0, 48), (.aload 0, 0, 0, 0, 0, 50), (.invokevirtual 264, 1, 0, 12, 1839, 51), (.iconst 0, 0, 0, 0, 0, 54), (.istore 6, 0, 0, 0, 0, 55), (.nop, 2, 0, 0, 0, 57), (.iload 6, 0, 0, 0, 0, 57), (.aload 0, 0, 0, 0, 0, 59), (.invokevirtual 261, 1, 1, 12, 1817, 60), (.if_icmp .gt 0, 0, 27, 0, 0, 63), (.iload 6, 0, 0, 0, 0, 66), (.iload 2, 0, 0, 0, 0, 68), (.invokestatic 207, 2, 1, 12, 1738, 69), (.ifCond .eq 0, 0, 21, 0, 0, 72), (.iload 6, 0, 0, 0, 0, 75), (.iload 1, 0, 0, 0, 0, 77), (.invokestatic 207, 2, 1, 12, 1738, 78), (.ifCond .eq 0, 0, 17, 0, 0, 81), (.iload 6, 0, 0, 0, 0, 84), (.invokestatic 0, 1, 1, 0, 1668, 86), (.iload 5, 0, 0, 0, 0, 89), (.if_icmp .ne 0, 0, 13, 0, 0, 91), (.iload 1, 0, 0, 0, 0, 94), (.iload 2, 0, 0, 0, 0, 95), (.if_icmp .ne 0, 0, 3, 0, 0, 96), (.iload 5, 0, 0, 0, 0, 99), (.iconst 1, 0, 0, 0, 0, 101), (.if_icmp .ne 0, 0, 7, 0, 0, 102), (.aload 0, 0, 0, 0, 0, 105), (.getfield 0, 12, 35, 0, 1466, 106), (.iload 6, 0, 0, 0, 0, 109), (.iload 2, 0, 0, 0, 0, 111), (.invokestatic 260, 2, 1, 12, 1829, 112), (.iconst 1, 0, 0, 0, 0, 115), (.bastore, 22, 0, 0, 0, 116), (.iinc 6 1, 0, 0, 0, 0, 117), (.goto 0, 1, 2, 0, 0, 120), (.aload 0, 0, 0, 0, 0, 123), (.iload 1, 0, 0, 0, 0, 124), (.iload 5, 0, 0, 0, 0, 125), (.invokevirtual 271, 3, 1, 12, 1864, 127), (.ifCond .eq 0, 0, 2, 0, 0, 130), (.iload 5, 0, 0, 0, 0, 133), (.ireturn, 0, 0, 0, 0, 135), (.iinc 4 1, 0, 0, 0, 0, 136), (.goto 0, 1, 1, 0, 0, 139), (.iconst (-2), 0, 0, 0, 0, 142), (.ireturn, 0, 0, 0, 0, 144)], [([true, true, true, true, true, true, true], 0), ([true, true, true, true, true, false, false], 13), ([true, true, true, true, true, true, true], 33)])
def T_X12_between : jT := ([(.aload 0, 0, 0, 0, 0, 0), (.iconst 0, 0, 0, 0, 0, 1), (.putfield 0, 12, 20, 0, 1451, 2), (.aload 0, 0, 0, 0, 0, 5), (.iload 1, 0, 0, 0, 0, 6), (.iload 2, 0, 0, 0, 0, 7), (.iconst 1, 0, 0, 0, 0, 8), (.invokevirtual 272, 4, 1, 12, 1860, 9), (.ireturn, 0, 0, 0, 0, 12)], [([true, true, true], 0)])
def T_X12_shortest : jT := ([(.aload 0, 0, 0, 0, 0, 0), (.iconst 0, 0, 0, 0, 0, 1), (.putfield 0, 12, 20, 0, 1451, 2), (.aload 0, 0, 0, 0, 0, 5), (.iload 1, 0, 0, 0, 0, 6), (.iload 2, 0, 0, 0, 0, 7), (.iconst 0, 0, 0, 0, 0, 8), (.invokevirtual 272, 4, 1, 12, 1860, 9), (.ireturn, 0, 0, 0, 0, 12)], [([true, true, true], 0)])
def T_X12_bears : jT := ([(.aload 0, 0, 0, 0, 0, 0), (.iconst 0, 0, 0, 0, 0, 1), (.putfield 0, 12, 20, 0, 1451, 2), (.aload 0, 0, 0, 0, 0, 5), (.iload 1, 0, 0, 0, 0, 6), (.invokevirtual 211, 2, 1, 12, 1699, 7), (.ifCond .ne 0, 0, 2, 0, 0, 10), (.iconst (-1), 0, 0, 0, 0, 13), (.ireturn, 0, 0, 0, 0, 14), (.iconst 0, 0, 0, 0, 0, 15), (.istore 2, 0, 0, 0, 0, 16), (.iconst 0, 0, 0, 0, 0, 17), (.istore 3, 0, 0, 0, 0, 18), (.nop, 1, 0, 0, 0, 19), (.iload 3, 0, 0, 0, 0, 19), (.aload 0, 0, 0, 0, 0, 20), (.getfield 0, 12, 1, 0, 1432, 21), (.if_icmp .ge 0, 0, 15, 0, 0, 24), (.iload 2, 0, 0, 0, 0, 27), (.aload 0, 0, 0, 0, 0, 28), (.iload 1, 0, 0, 0, 0, 29), (.iload 3, 0, 0, 0, 0, 30), (.invokevirtual 231, 3, 1, 12, 1681, 31), (.ifCond .eq 0, 0, 2, 0, 0, 34), (.iconst 0, 0, 0, 0, 0, 37), (.goto 0, 0, 3, 0, 0, 38), (.iconst 1, 0, 0, 0, 0, 41), (.iload 3, 0, 0, 0, 0, 42), (.ishl, 0, 0, 0, 0, 43), (.ior, 0, 0, 0, 0, 44), (.istore 2, 0, 0, 0, 0, 45), (.iinc 3 1, 0, 0, 0, 0, 46), (.goto 0, 1, 1, 0, 0, 49), (.aload 0, 0, 0, 0, 0, 52), (.iload 2, 0, 0, 0, 0, 53), (.invokevirtual 268, 2, 1, 12, 1821, 54), (.ireturn, 0, 0, 0, 0, 57)], [([true, true, true, true], 0), ([true, true, true, true], 14)])
def T_X12_besides : jT := ([(.iconst 0, 0, 0, 0, 0, 0), (.istore 2, 0, 0, 0, 0, 1), (.iconst 0, 0, 0, 0, 0, 2), (.istore 3, 0, 0, 0, 0, 3), (.nop, 1, 0, 0, 0, 4), (.iload 3, 0, 0, 0, 0, 4), (.aload 0, 0, 0, 0, 0, 5), (.getfield 0, 12, 1, 0, 1432, 6), (.if_icmp .ge 0, 0, 20, 0, 0, 9), (.iload 2, 0, 0, 0, 0, 12), (.iload 3, 0, 0, 0, 0, 13), (.iload 1, 0, 0, 0, 0, 14), (.if_icmp .eq 0, 0, 11, 0, 0, 15), (.aload 0, 0, 0, 0, 0, 18), (.iload 1, 0, 0, 0, 0, 19), (.iload 3, 0, 0, 0, 0, 20), (.invokevirtual 239, 3, 1, 12, 1741, 21), (.aload 0, 0, 0, 0, 0, 24), (.getfield 0, 12, 9, 0, 1440, 25), (.if_icmp .lt 0, 0, 4, 0, 0, 28), (.iconst 1, 0, 0, 0, 0, 31), (.iload 3, 0, 0, 0, 0, 32), (.ishl, 0, 0, 0, 0, 33), (.goto 0, 0, 1, 0, 0, 34), (.iconst 0, 0, 0, 0, 0, 37), (.ior, 0, 0, 0, 0, 38), (.istore 2, 0, 0, 0, 0, 39), (.iinc 3 1, 0, 0, 0, 0, 40), (.goto 0, 1, 1, 0, 0, 43), (.iload 2, 0, 0, 0, 0, 46), (.ireturn, 0, 0, 0, 0, 47)], [([true, true, true, true], 0), ([true, true, true, true], 5)])
def T_X12_beside : jT := ([(.aload 0, 0, 0, 0, 0, 0), (.iconst 0, 0, 0, 0, 0, 1), (.putfield 0, 12, 20, 0, 1451, 2), (.aload 0, 0, 0, 0, 0, 5), (.iload 1, 0, 0, 0, 0, 6), (.invokevirtual 210, 2, 1, 12, 1673, 7), (.ifCond .eq 0, 0, 4, 0, 0, 10), (.aload 0, 0, 0, 0, 0, 13), (.iload 1, 0, 0, 0, 0, 14), (.invokevirtual 276, 2, 1, 12, 1880, 15), (.goto 0, 0, 1, 0, 0, 18), (.iconst (-1), 0, 0, 0, 0, 21), (.ireturn, 0, 0, 0, 0, 22)], [([true, true], 0)])
def T_X12_parts : jT := ([(.aload 0, 0, 0, 0, 0, 0), (.iconst 0, 0, 0, 0, 0, 1), (.putfield 0, 12, 20, 0, 1451, 2), (.aload 0, 0, 0, 0, 0, 5), (.invokevirtual 261, 1, 1, 12, 1817, 6), (.istore 1, 0, 0, 0, 0, 9), (.iconst 0, 0, 0, 0, 0, 10), (.istore 2, 0, 0, 0, 0, 11), (.aload 0, 0, 0, 0, 0, 12), (.iconst 0, 0, 0, 0, 0, 13), (.putfield 0, 12, 19, 0, 1450, 14), (.nop, 1, 0, 0, 0, 17), (.iload 1, 0, 0, 0, 0, 17), (.ifCond .eq 0, 0, 44, 0, 0, 18), (.iload 1, 0, 0, 0, 0, 21), (.iload 1, 0, 0, 0, 0, 22), (.ineg, 0, 0, 0, 0, 23), (.iand, 0, 0, 0, 0, 24), (.istore 3, 0, 0, 0, 0, 25), (.iconst 0, 0, 0, 0, 0, 26), (.istore 4, 0, 0, 0, 0, 27), (.nop, 2, 0, 0, 0, 29), (.iload 3, 0, 0, 0, 0, 29), (.iload 4, 0, 0, 0, 0, 30), (.if_icmp .eq 0, 0, 22, 0, 0, 32), (.iload 3, 0, 0, 0, 0, 35), (.istore 4, 0, 0, 0, 0, 36), (.iconst 0, 0, 0, 0, 0, 38), (.istore 5, 0, 0, 0, 0, 39), (.nop, 3, 0, 0, 0, 41), (.iload 5, 0, 0, 0, 0, 41), (.aload 0, 0, 0, 0, 0, 43), (.getfield 0, 12, 1, 0, 1432, 44), (.if_icmp .ge 0, 0, 12, 0, 0, 47), (.iload 4, 0, 0, 0, 0, 50), (.iload 5, 0, 0, 0, 0, 52), (.invokestatic 207, 2, 1, 12, 1738, 54), (.ifCond .eq 0, 0, 6, 0, 0, 57), (.iload 3, 0, 0, 0, 0, 60), (.aload 0, 0, 0, 0, 0, 61), (.iload 5, 0, 0, 0, 0, 62), (.invokevirtual 276, 2, 1, 12, 1880, 64), (.ior, 0, 0, 0, 0, 67), (.istore 3, 0, 0, 0, 0, 68), (.iinc 5 1, 0, 0, 0, 0, 69), (.goto 0, 1, 3, 0, 0, 72), (.goto 0, 1, 2, 0, 0, 75), (.aload 0, 0, 0, 0, 0, 78), (.iload 3, 0, 0, 0, 0, 79), (.invokevirtual 209, 2, 0, 12, 1785, 80), (.iinc 2 1, 0, 0, 0, 0, 83), (.iload 1, 0, 0, 0, 0, 86), (.iload 3, 0, 0, 0, 0, 87), (.iconst (-1), 0, 0, 0, 0, 88), (.ixor, 0, 0, 0, 0, 89), (.iand, 0, 0, 0, 0, 90), (.istore 1, 0, 0, 0, 0, 91), (.goto 0, 1, 1, 0, 0, 92), (.iload 2, 0, 0, 0, 0, 95), (.ireturn, 0, 0, 0, 0, 96)], [([true, true, true, true, true, true], 0), ([true, true, true, false, false, false], 12), ([true, true, true, true, true, false], 22), ([true, true, true, true, true, true], 30)])
def T_X12_rare : jT := ([(.aload 0, 0, 0, 0, 0, 0), (.iconst 0, 0, 0, 0, 0, 1), (.putfield 0, 12, 20, 0, 1451, 2), (.aload 0, 0, 0, 0, 0, 5), (.getfield 0, 12, 1, 0, 1432, 6), (.ifCond .ne 0, 0, 2, 0, 0, 9), (.iconst (-2), 0, 0, 0, 0, 12), (.ireturn, 0, 0, 0, 0, 14), (.iconst (-1), 0, 0, 0, 0, 15), (.istore 1, 0, 0, 0, 0, 16), (.iconst 0, 0, 0, 0, 0, 17), (.istore 2, 0, 0, 0, 0, 18), (.iconst 0, 0, 0, 0, 0, 19), (.istore 3, 0, 0, 0, 0, 20), (.nop, 1, 0, 0, 0, 21), (.iload 3, 0, 0, 0, 0, 21), (.iconst 8, 0, 0, 0, 0, 22), (.if_icmp .ge 0, 0, 43, 0, 0, 24), (.iconst 0, 0, 0, 0, 0, 27), (.istore 4, 0, 0, 0, 0, 28), (.iconst 0, 0, 0, 0, 0, 30), (.istore 5, 0, 0, 0, 0, 31), (.nop, 2, 0, 0, 0, 33), (.iload 5, 0, 0, 0, 0, 33), (.aload 0, 0, 0, 0, 0, 35), (.getfield 0, 12, 1, 0, 1432, 36), (.if_icmp .ge 0, 0, 17, 0, 0, 39), (.iload 4, 0, 0, 0, 0, 42), (.aload 0, 0, 0, 0, 0, 44), (.getfield 0, 12, 2, 0, 1433, 45), (.iload 5, 0, 0, 0, 0, 48), (.iaload, 0, 0, 0, 0, 50), (.iload 3, 0, 0, 0, 0, 51), (.invokestatic 207, 2, 1, 12, 1738, 52), (.ifCond .eq 0, 0, 4, 0, 0, 55), (.iconst 1, 0, 0, 0, 0, 58), (.iload 5, 0, 0, 0, 0, 59), (.ishl, 0, 0, 0, 0, 61), (.goto 0, 0, 1, 0, 0, 62), (.iconst 0, 0, 0, 0, 0, 65), (.ior, 0, 0, 0, 0, 66), (.istore 4, 0, 0, 0, 0, 67), (.iinc 5 1, 0, 0, 0, 0, 69), (.goto 0, 1, 2, 0, 0, 72), (.iload 4, 0, 0, 0, 0, 75), (.ifCond .eq 0, 0, 13, 0, 0, 77), (.iload 1, 0, 0, 0, 0, 80), (.iconst (-1), 0, 0, 0, 0, 81), (.if_icmp .eq 0, 0, 6, 0, 0, 82), (.iload 4, 0, 0, 0, 0, 85), (.invokestatic 0, 1, 1, 0, 1668, 87), (.iload 2, 0, 0, 0, 0, 90), (.invokestatic 0, 1, 1, 0, 1668, 91), (.if_icmp .lt 0, 0, 1, 0, 0, 94), (.goto 0, 0, 4, 0, 0, 97), (.iload 3, 0, 0, 0, 0, 100), (.istore 1, 0, 0, 0, 0, 101), (.iload 4, 0, 0, 0, 0, 102), (.istore 2, 0, 0, 0, 0, 104), (.iinc 3 1, 0, 0, 0, 0, 105), (.goto 0, 1, 1, 0, 0, 108), (.aload 0, 0, 0, 0, 0, 111), (.iconst 0, 0, 0, 0, 0, 112), (.putfield 0, 12, 19, 0, 1450, 113), (.aload 0, 0, 0, 0, 0, 116), (.iload 2, 0, 0, 0, 0, 117), (.invokevirtual 209, 2, 0, 12, 1785, 118), (.iload 1, 0, 0, 0, 0, 121), (.ireturn, 0, 0, 0, 0, 122)], [([true, true, true, true, true, true], 0), ([true, true, true, true, false, false], 15), ([true, true, true, true, true, true], 23)])
def T_X12_round : jT := ([(.aload 0, 0, 0, 0, 0, 0), (.iconst 0, 0, 0, 0, 0, 1), (.putfield 0, 12, 20, 0, 1451, 2), (.aload 0, 0, 0, 0, 0, 5), (.getfield 0, 12, 1, 0, 1432, 6), (.istore 1, 0, 0, 0, 0, 9), (.nop, 1, 0, 0, 0, 10), (.iload 1, 0, 0, 0, 0, 10), (.iconst 3, 0, 0, 0, 0, 11), (.if_icmp .lt 0, 0, 63, 0, 0, 12), (.iconst 0, 0, 0, 0, 0, 15), (.istore 2, 0, 0, 0, 0, 16), (.nop, 2, 0, 0, 0, 17), (.iload 2, 0, 0, 0, 0, 17), (.aload 0, 0, 0, 0, 0, 18), (.getfield 0, 12, 1, 0, 1432, 19), (.if_icmp .ge 0, 0, 54, 0, 0, 22), (.aload 0, 0, 0, 0, 0, 25), (.invokevirtual 264, 1, 0, 12, 1839, 26), (.iconst 0, 0, 0, 0, 0, 29), (.istore 3, 0, 0, 0, 0, 30), (.nop, 3, 0, 0, 0, 31), (.iload 3, 0, 0, 0, 0, 31), (.aload 0, 0, 0, 0, 0, 32), (.invokevirtual 261, 1, 1, 12, 1817, 33), (.if_icmp .gt 0, 0, 36, 0, 0, 36), (.iconst 0, 0, 0, 0, 0, 39), (.istore 4, 0, 0, 0, 0, 40), (.nop, 4, 0, 0, 0, 42), (.iload 4, 0, 0, 0, 0, 42), (.aload 0, 0, 0, 0, 0, 44), (.getfield 0, 12, 1, 0, 1432, 45), (.if_icmp .ge 0, 0, 27, 0, 0, 48), (.iload 3, 0, 0, 0, 0, 51), (.iload 4, 0, 0, 0, 0, 52), (.invokestatic 207, 2, 1, 12, 1738, 54), (.ifCond .eq 0, 0, 21, 0, 0, 57), (.iload 4, 0, 0, 0, 0, 60), (.iload 2, 0, 0, 0, 0, 62), (.if_icmp .eq 0, 0, 18, 0, 0, 63), (.iload 3, 0, 0, 0, 0, 66), (.invokestatic 0, 1, 1, 0, 1668, 67), (.iload 1, 0, 0, 0, 0, 70), (.if_icmp .ne 0, 0, 14, 0, 0, 71), (.aload 0, 0, 0, 0, 0, 74), (.iload 4, 0, 0, 0, 0, 75), (.iload 2, 0, 0, 0, 0, 77), (.invokevirtual 239, 3, 1, 12, 1741, 78), (.aload 0, 0, 0, 0, 0, 81), (.getfield 0, 12, 9, 0, 1440, 82), (.if_icmp .lt 0, 0, 7, 0, 0, 85), (.aload 0, 0, 0, 0, 0, 88), (.getfield 0, 12, 35, 0, 1466, 89), (.iload 3, 0, 0, 0, 0, 92), (.iload 4, 0, 0, 0, 0, 93), (.invokestatic 260, 2, 1, 12, 1829, 95), (.iconst 1, 0, 0, 0, 0, 98), (.bastore, 22, 0, 0, 0, 99), (.iinc 4 1, 0, 0, 0, 0, 100), (.goto 0, 1, 4, 0, 0, 103), (.iinc 3 1, 0, 0, 0, 0, 106), (.goto 0, 1, 3, 0, 0, 109), (.aload 0, 0, 0, 0, 0, 112), (.iload 2, 0, 0, 0, 0, 113), (.iload 1, 0, 0, 0, 0, 114), (.invokevirtual 271, 3, 1, 12, 1864, 115), (.ifCond .eq 0, 0, 2, 0, 0, 118), (.iload 1, 0, 0, 0, 0, 121), (.ireturn, 0, 0, 0, 0, 122), (.iinc 2 1, 0, 0, 0, 0, 123), (.goto 0, 1, 2, 0, 0, 126), (.iinc 1 (-1), 0, 0, 0, 0, 129), (.goto 0, 1, 1, 0, 0, 132), (.iconst (-2), 0, 0, 0, 0, 135), (.ireturn, 0, 0, 0, 0, 137)], [([true, true, true, true, true], 0), ([true, true, false, false, false], 7), ([true, true, true, false, false], 13), ([true, true, true, true, false], 22), ([true, true, true, true, true], 29)])
def T_X12_shut : jT := ([(.aload 0, 0, 0, 0, 0, 0), (.iconst 0, 0, 0, 0, 0, 1), (.putfield 0, 12, 20, 0, 1451, 2), (.iload 1, 0, 0, 0, 0, 5), (.iconst 0, 0, 0, 0, 0, 6), (.iconst 9, 0, 0, 0, 0, 7), (.invokestatic 206, 3, 1, 12, 1605, 9), (.ifCond .ne 0, 0, 2, 0, 0, 12), (.iconst (-1), 0, 0, 0, 0, 15), (.ireturn, 0, 0, 0, 0, 16), (.aload 0, 0, 0, 0, 0, 17), (.iconst 0, 0, 0, 0, 0, 18), (.iconst (-1), 0, 0, 0, 0, 19), (.aload 0, 0, 0, 0, 0, 20), (.invokevirtual 261, 1, 1, 12, 1817, 21), (.invokevirtual 267, 4, 0, 12, 1825, 24), (.aload 0, 0, 0, 0, 0, 27), (.invokevirtual 261, 1, 1, 12, 1817, 28), (.istore 2, 0, 0, 0, 0, 31), (.iconst 0, 0, 0, 0, 0, 32), (.istore 3, 0, 0, 0, 0, 33), (.nop, 1, 0, 0, 0, 34), (.iload 3, 0, 0, 0, 0, 34), (.aload 0, 0, 0, 0, 0, 35), (.invokevirtual 261, 1, 1, 12, 1817, 36), (.if_icmp .gt 0, 0, 34, 0, 0, 39), (.iconst 0, 0, 0, 0, 0, 42), (.istore 4, 0, 0, 0, 0, 43), (.nop, 2, 0, 0, 0, 45), (.iload 4, 0, 0, 0, 0, 45), (.aload 0, 0, 0, 0, 0, 47), (.getfield 0, 12, 1, 0, 1432, 48), (.if_icmp .ge 0, 0, 25, 0, 0, 51), (.iload 3, 0, 0, 0, 0, 54), (.iload 4, 0, 0, 0, 0, 55), (.invokestatic 207, 2, 1, 12, 1738, 57), (.ifCond .eq 0, 0, 19, 0, 0, 60), (.aload 0, 0, 0, 0, 0, 63), (.getfield 0, 12, 37, 0, 1468, 64), (.iload 3, 0, 0, 0, 0, 67), (.iload 4, 0, 0, 0, 0, 68), (.invokestatic 260, 2, 1, 12, 1829, 70), (.laload, 0, 0, 0, 0, 73), (.sipush 0, 0, 0, 0, 0, 74), (.lcmp, 0, 0, 0, 0, 75), (.ifCond .le 0, 0, 10, 0, 0, 76), (.iload 3, 0, 0, 0, 0, 79), (.invokestatic 0, 1, 1, 0, 1668, 80), (.iload 1, 0, 0, 0, 0, 83), (.if_icmp .le 0, 0, 6, 0, 0, 84), (.iload 2, 0, 0, 0, 0, 87), (.iload 3, 0, 0, 0, 0, 88), (.iconst (-1), 0, 0, 0, 0, 89), (.ixor, 0, 0, 0, 0, 90), (.iand, 0, 0, 0, 0, 91), (.istore 2, 0, 0, 0, 0, 92), (.iinc 4 1, 0, 0, 0, 0, 93), (.goto 0, 1, 2, 0, 0, 96), (.iinc 3 1, 0, 0, 0, 0, 99), (.goto 0, 1, 1, 0, 0, 102), (.iload 2, 0, 0, 0, 0, 105), (.ireturn, 0, 0, 0, 0, 106)], [([true, true, true, true, true], 0), ([true, true, true, true, false], 22), ([true, true, true, true, true], 29)])
def T_X12_joyIn : jT := ([(.iconst 0, 0, 0, 0, 0, 0), (.istore 3, 0, 0, 0, 0, 1), (.iconst 0, 0, 0, 0, 0, 2), (.istore 4, 0, 0, 0, 0, 3), (.nop, 1, 0, 0, 0, 5), (.iload 4, 0, 0, 0, 0, 5), (.aload 0, 0, 0, 0, 0, 7), (.getfield 0, 12, 1, 0, 1432, 8), (.if_icmp .ge 0, 0, 15, 0, 0, 11), (.iload 3, 0, 0, 0, 0, 14), (.iload 1, 0, 0, 0, 0, 15), (.iload 4, 0, 0, 0, 0, 16), (.invokestatic 207, 2, 1, 12, 1738, 18), (.ifCond .eq 0, 0, 5, 0, 0, 21), (.aload 0, 0, 0, 0, 0, 24), (.iload 2, 0, 0, 0, 0, 25), (.iload 4, 0, 0, 0, 0, 26), (.invokevirtual 229, 3, 1, 12, 1689, 28), (.goto 0, 0, 1, 0, 0, 31), (.iconst 0, 0, 0, 0, 0, 34), (.iadd, 0, 0, 0, 0, 35), (.istore 3, 0, 0, 0, 0, 36), (.iinc 4 1, 0, 0, 0, 0, 37), (.goto 0, 1, 1, 0, 0, 40), (.iload 3, 0, 0, 0, 0, 43), (.ireturn, 0, 0, 0, 0, 44)], [([true, true, true, true, true], 0), ([true, true, true, true, true], 5)])
def T_X12_costIn : jT := ([(.iconst 0, 0, 0, 0, 0, 0), (.istore 2, 0, 0, 0, 0, 1), (.iconst 0, 0, 0, 0, 0, 2), (.istore 3, 0, 0, 0, 0, 3), (.nop, 1, 0, 0, 0, 4), (.iload 3, 0, 0, 0, 0, 4), (.aload 0, 0, 0, 0, 0, 5), (.getfield 0, 12, 1, 0, 1432, 6), (.if_icmp .ge 0, 0, 15, 0, 0, 9), (.iload 2, 0, 0, 0, 0, 12), (.iload 1, 0, 0, 0, 0, 13), (.iload 3, 0, 0, 0, 0, 14), (.invokestatic 207, 2, 1, 12, 1738, 15), (.ifCond .eq 0, 0, 5, 0, 0, 18), (.aload 0, 0, 0, 0, 0, 21), (.getfield 0, 12, 3, 0, 1434, 22), (.iload 3, 0, 0, 0, 0, 25), (.iaload, 0, 0, 0, 0, 26), (.goto 0, 0, 1, 0, 0, 27), (.iconst 0, 0, 0, 0, 0, 30), (.iadd, 0, 0, 0, 0, 31), (.istore 2, 0, 0, 0, 0, 32), (.iinc 3 1, 0, 0, 0, 0, 33), (.goto 0, 1, 1, 0, 0, 36), (.iload 2, 0, 0, 0, 0, 39), (.ireturn, 0, 0, 0, 0, 40)], [([true, true, true, true], 0), ([true, true, true, true], 5)])
def T_X12_scoreOf : jT := ([(.iload 2, 0, 0, 0, 0, 0), (.iconst 2, 0, 0, 0, 0, 1), (.if_icmp .ne 0, 0, 5, 0, 0, 2), (.aload 0, 0, 0, 0, 0, 5), (.iload 1, 0, 0, 0, 0, 6), (.invokevirtual 283, 2, 1, 12, 1913, 7), (.ineg, 0, 0, 0, 0, 10), (.ireturn, 0, 0, 0, 0, 11), (.iload 2, 0, 0, 0, 0, 12), (.iconst 3, 0, 0, 0, 0, 13), (.if_icmp .ne 0, 0, 4, 0, 0, 14), (.aload 0, 0, 0, 0, 0, 17), (.iload 1, 0, 0, 0, 0, 18), (.invokevirtual 283, 2, 1, 12, 1913, 19), (.ireturn, 0, 0, 0, 0, 22), (.iconst 0, 0, 0, 0, 0, 23), (.istore 3, 0, 0, 0, 0, 24), (.iconst 1000000, 0, 0, 0, 1921, 25), (.istore 4, 0, 0, 0, 0, 28), (.iconst 0, 0, 0, 0, 0, 30), (.istore 5, 0, 0, 0, 0, 31), (.nop, 1, 0, 0, 0, 33), (.iload 5, 0, 0, 0, 0, 33), (.aload 0, 0, 0, 0, 0, 35), (.getfield 0, 12, 6, 0, 1437, 36), (.if_icmp .ge 0, 0, 15, 0, 0, 39), (.aload 0, 0, 0, 0, 0, 42), (.iload 1, 0, 0, 0, 0, 43), (.iload 5, 0, 0, 0, 0, 44), (.invokevirtual 282, 3, 1, 12, 1922, 46), (.istore 6, 0, 0, 0, 0, 49), (.iload 3, 0, 0, 0, 0, 51), (.iload 6, 0, 0, 0, 0, 52), (.iadd, 0, 0, 0, 0, 54), (.istore 3, 0, 0, 0, 0, 55), (.iload 4, 0, 0, 0, 0, 56), (.iload 6, 0, 0, 0, 0, 58), (.lsub, 0, 0, 0, 1693, 60), (.istore 4, 0, 0, 0, 0, 63), (.iinc 5 1, 0, 0, 0, 0, 65), (.goto 0, 1, 1, 0, 0, 68), (.iload 2, 0, 0, 0, 0, 71), (.ifCond .ne 0, 0, 2, 0, 0, 72), (.iload 3, 0, 0, 0, 0, 75), (.goto 0, 0, 1, 0, 0, 76), (.iload 4, 0, 0, 0, 0, 79), (.ireturn, 0, 0, 0, 0, 81)], [([true, true, true, true, true, true, true], 0), ([true, true, true, true, true, true, false], 22)])
def T_X12_findBest : jT := ([(.aload 0, 0, 0, 0, 0, 0), (.invokevirtual 243, 1, 1, 12, 1726, 1), (.istore 5, 0, 0, 0, 0, 4), (.aload 0, 0, 0, 0, 0, 6), (.iload 5, 0, 0, 0, 0, 7), (.aload 0, 0, 0, 0, 0, 9), (.invokevirtual 244, 1, 1, 12, 1730, 10), (.iload 4, 0, 0, 0, 0, 13), (.invokevirtual 267, 4, 0, 12, 1825, 15), (.iconst 0, 0, 0, 0, 0, 18), (.istore 6, 0, 0, 0, 0, 19), (.iconst 0, 0, 0, 0, 0, 21), (.istore 7, 0, 0, 0, 0, 22), (.nop, 1, 0, 0, 0, 24), (.iload 7, 0, 0, 0, 0, 24), (.aload 0, 0, 0, 0, 0, 26), (.invokevirtual 261, 1, 1, 12, 1817, 27), (.if_icmp .gt 0, 0, 83, 0, 0, 30), (.aload 0, 0, 0, 0, 0, 33), (.getfield 0, 12, 38, 0, 1469, 34), (.iload 7, 0, 0, 0, 0, 37), (.iconst (-1000001), 0, 0, 0, 1912, 39), (.iastore, 0, 0, 0, 0, 42), (.iconst 0, 0, 0, 0, 0, 43), (.istore 8, 0, 0, 0, 0, 44), (.iconst (-1), 0, 0, 0, 0, 46), (.istore 9, 0, 0, 0, 0, 47), (.nop, 2, 0, 0, 0, 49), (.iload 9, 0, 0, 0, 0, 49), (.aload 0, 0, 0, 0, 0, 51), (.getfield 0, 12, 1, 0, 1432, 52), (.if_icmp .ge 0, 0, 21, 0, 0, 55), (.iload 8, 0, 0, 0, 0, 58), (.ifCond .ne 0, 0, 13, 0, 0, 60), (.iload 7, 0, 0, 0, 0, 63), (.iload 9, 0, 0, 0, 0, 65), (.invokestatic 263, 2, 1, 12, 1832, 67), (.ifCond .eq 0, 0, 11, 0, 0, 70), (.aload 0, 0, 0, 0, 0, 73), (.getfield 0, 12, 37, 0, 1468, 74), (.iload 7, 0, 0, 0, 0, 77), (.iload 9, 0, 0, 0, 0, 79), (.invokestatic 260, 2, 1, 12, 1829, 81), (.laload, 0, 0, 0, 0, 84), (.sipush 0, 0, 0, 0, 0, 85), (.lcmp, 0, 0, 0, 0, 86), (.ifCond .le 0, 0, 2, 0, 0, 87), (.iconst 1, 0, 0, 0, 0, 90), (.goto 0, 0, 1, 0, 0, 91), (.iconst 0, 0, 0, 0, 0, 94), (.istore 8, 0, 0, 0, 0, 95), (.iinc 9 1, 0, 0, 0, 0, 97), (.goto 0, 1, 2, 0, 0, 100), (.iload 7, 0, 0, 0, 0, 103), (.iload 5, 0, 0, 0, 0, 105), (.iconst (-1), 0, 0, 0, 0, 107), (.ixor, 0, 0, 0, 0, 108), (.iand, 0, 0, 0, 0, 109), (.istore 9, 0, 0, 0, 0, 110), (.iload 8, 0, 0, 0, 0, 112), (.ifCond .eq 0, 0, 38, 0, 0, 114), (.iload 7, 0, 0, 0, 0, 117), (.invokestatic 0, 1, 1, 0, 1668, 119), (.aload 0, 0, 0, 0, 0, 122), (.getfield 0, 12, 13, 0, 1444, 123), (.iload 1, 0, 0, 0, 0, 126), (.iadd, 0, 0, 0, 0, 127), (.if_icmp .ne 0, 0, 31, 0, 0, 128), (.aload 0, 0, 0, 0, 0, 131), (.iload 9, 0, 0, 0, 0, 132), (.invokevirtual 283, 2, 1, 12, 1913, 134), (.iload 2, 0, 0, 0, 0, 137), (.if_icmp .le 0, 0, 1, 0, 0, 138), (.goto 0, 0, 25, 0, 0, 141), (.aload 0, 0, 0, 0, 0, 144), (.getfield 0, 12, 38, 0, 1469, 145), (.iload 7, 0, 0, 0, 0, 148), (.aload 0, 0, 0, 0, 0, 150), (.iload 9, 0, 0, 0, 0, 151), (.iload 3, 0, 0, 0, 0, 153), (.invokevirtual 284, 3, 1, 12, 1917, 154), (.iastore, 0, 0, 0, 0, 157), (.iload 6, 0, 0, 0, 0, 158), (.ifCond .eq 0, 0, 7, 0, 0, 160), (.aload 0, 0, 0, 0, 0, 163), (.getfield 0, 12, 38, 0, 1469, 164), (.iload 7, 0, 0, 0, 0, 167), (.iaload, 0, 0, 0, 0, 169), (.aload 0, 0, 0, 0, 0, 170), (.getfield 0, 12, 39, 0, 1470, 171), (.if_icmp .le 0, 0, 6, 0, 0, 174), (.aload 0, 0, 0, 0, 0, 177), (.aload 0, 0, 0, 0, 0, 178), (.getfield 0, 12, 38, 0, 1469, 179), (.iload 7, 0, 0, 0, 0, 182), (.iaload, 0, 0, 0, 0, 184), (.putfield 0, 12, 39, 0, 1470, 185), (.iconst 1, 0, 0, 0, 0, 188), (.istore 6, 0, 0, 0, 0, 189), (.iinc 7 1, 0, 0, 0, 0, 191), (.goto 0, 1, 1, 0, 0, 194), (.iload 6, 0, 0, 0, 0, 197), (.ifCond .ne 0, 0, 2, 0, 0, 199), (.iconst 0, 0, 0, 0, 0, 202), (.ireturn, 1, 0, 0, 0, 203), (.aload 0, 0, 0, 0, 0, 204), (.invokevirtual 264, 1, 0, 12, 1839, 205), (.iconst 0, 0, 0, 0, 0, 208), (.istore 7, 0, 0, 0, 0, 209), (.nop, 3, 0, 0, 0, 211), (.iload 7, 0, 0, 0, 0, 211), (.aload 0, 0, 0, 0, 0, 213), (.invokevirtual 261, 1, 1, 12, 1817, 214), (.if_icmp .gt 0, 0, 41, 0, 0, 217), (.aload 0, 0, 0, 0, 0, 220), (.getfield 0, 12, 38, 0, 1469, 221), (.iload 7, 0, 0, 0, 0, 224), (.iaload, 0, 0, 0, 0, 226), (.aload 0, 0, 0, 0, 0, 227), (.getfield 0, 12, 39, 0, 1470, 228), (.if_icmp .eq 0, 0, 1, 0, 0, 231), (.goto 0, 0, 31, 0, 0, 234), (.iconst (-1), 0, 0, 0, 0, 237), (.istore 8, 0, 0, 0, 0, 238), (.nop, 4, 0, 0, 0, 240), (.iload 8, 0, 0, 0, 0, 240), (.aload 0, 0, 0, 0, 0, 242), (.getfield 0, 12, 1, 0, 1432, 243), (.if_icmp .ge 0, 0, 24, 0, 0, 246), (.aload 0, 0, 0, 0, 0, 249), (.getfield 0, 12, 35, 0, 1466, 250), (.iload 7, 0, 0, 0, 0, 253), (.iload 8, 0, 0, 0, 0, 255), (.invokestatic 260, 2, 1, 12, 1829, 257), (.iload 7, 0, 0, 0, 0, 260), (.iload 8, 0, 0, 0, 0, 262), (.invokestatic 263, 2, 1, 12, 1832, 264), (.ifCond .eq 0, 0, 11, 0, 0, 267), (.aload 0, 0, 0, 0, 0, 270), (.getfield 0, 12, 37, 0, 1468, 271), (.iload 7, 0, 0, 0, 0, 274), (.iload 8, 0, 0, 0, 0, 276), (.invokestatic 260, 2, 1, 12, 1829, 278), (.laload, 0, 0, 0, 0, 281), (.sipush 0, 0, 0, 0, 0, 282), (.lcmp, 0, 0, 0, 0, 283), (.ifCond .le 0, 0, 2, 0, 0, 284), (.iconst 1, 0, 0, 0, 0, 287), (.goto 0, 0, 1, 0, 0, 288), (.iconst 0, 0, 0, 0, 0, 291), (.bastore, 22, 0, 0, 0, 292), (.iinc 8 1, 0, 0, 0, 0, 293), (.goto 0, 1, 4, 0, 0, 296), (.iinc 7 1, 0, 0, 0, 0, 299), (.goto 0, 1, 3, 0, 0, 302), (.aload 0, 0, 0, 0, 0, 305), (.iload 4, 0, 0, 0, 0, 306), (.invokevirtual 265, 2, 0, 12, 1843, 308), (.iconst 1, 0, 0, 0, 0, 311), (.ireturn, 1, 0, 0, 0, 312)], [([true, true, true, true, true, true, true, true, true, true], 0), ([true, true, true, true, true, true, true, true, false, false], 14), ([true, true, true, true, true, true, true, true, true, true], 28), ([true, false, false, false, true, false, false, true, false, false], 110), ([true, false, false, false, true, false, false, true, true, false], 125)])
def T_X12_tellBest : jT := ([(.iload 1, 0, 0, 0, 0, 0), (.iconst 0, 0, 0, 0, 0, 1), (.iconst 10, 0, 0, 0, 0, 2), (.invokestatic 206, 3, 1, 12, 1605, 4), (.ifCond .eq 0, 0, 5, 0, 0, 7), (.iload 2, 0, 0, 0, 0, 10), (.iconst 0, 0, 0, 0, 0, 11), (.iconst 999, 0, 0, 0, 0, 12), (.invokestatic 206, 3, 1, 12, 1605, 15), (.ifCond .ne 0, 0, 2, 0, 0, 18), (.iconst (-1), 0, 0, 0, 0, 21), (.ireturn, 0, 0, 0, 0, 22), (.iload 3, 0, 0, 0, 0, 23), (.iconst 1, 0, 0, 0, 0, 24), (.if_icmp .ne 0, 0, 3, 0, 0, 25), (.aload 0, 0, 0, 0, 0, 28), (.getfield 0, 12, 6, 0, 1437, 29), (.ifCond .eq 0, 0, 8, 0, 0, 32), (.aload 0, 0, 0, 0, 0, 35), (.iload 1, 0, 0, 0, 0, 36), (.iload 2, 0, 0, 0, 0, 37), (.iload 3, 0, 0, 0, 0, 38), (.aload 0, 0, 0, 0, 0, 39), (.invokevirtual 261, 1, 1, 12, 1817, 40), (.invokevirtual 285, 5, 1, 12, 1908, 43), (.ifCond .ne 0, 0, 2, 0, 0, 46), (.iconst (-2), 0, 0, 0, 0, 49), (.ireturn, 0, 0, 0, 0, 51), (.aload 0, 0, 0, 0, 0, 52), (.iconst 0, 0, 0, 0, 0, 53), (.putfield 0, 12, 19, 0, 1450, 54), (.aload 0, 0, 0, 0, 0, 57), (.aload 0, 0, 0, 0, 0, 58), (.getfield 0, 12, 39, 0, 1470, 59), (.invokevirtual 209, 2, 0, 12, 1785, 62), (.aload 0, 0, 0, 0, 0, 65), (.aload 0, 0, 0, 0, 0, 66), (.invokevirtual 243, 1, 1, 12, 1726, 67), (.aload 0, 0, 0, 0, 0, 70), (.invokevirtual 244, 1, 1, 12, 1730, 71), (.aload 0, 0, 0, 0, 0, 74), (.invokevirtual 261, 1, 1, 12, 1817, 75), (.invokevirtual 266, 4, 0, 12, 1847, 78), (.iconst 1, 0, 0, 0, 0, 81), (.ireturn, 0, 0, 0, 0, 82)], [([true, true, true, true], 0)])
def T_X12_best : jT := ([(.aload 0, 0, 0, 0, 0, 0), (.iconst 0, 0, 0, 0, 0, 1), (.putfield 0, 12, 20, 0, 1451, 2), (.aload 0, 0, 0, 0, 0, 5), (.iload 1, 0, 0, 0, 0, 6), (.iload 2, 0, 0, 0, 0, 7), (.iconst 0, 0, 0, 0, 0, 8), (.invokevirtual 286, 4, 1, 12, 1904, 9), (.ireturn, 0, 0, 0, 0, 12)], [([true, true, true], 0)])
def T_X12_fair : jT := ([(.aload 0, 0, 0, 0, 0, 0), (.iconst 0, 0, 0, 0, 0, 1), (.putfield 0, 12, 20, 0, 1451, 2), (.aload 0, 0, 0, 0, 0, 5), (.iload 1, 0, 0, 0, 0, 6), (.iload 2, 0, 0, 0, 0, 7), (.iconst 1, 0, 0, 0, 0, 8), (.invokevirtual 286, 4, 1, 12, 1904, 9), (.ireturn, 0, 0, 0, 0, 12)], [([true, true, true], 0)])
def T_X12_tellCost : jT := ([(.iload 1, 0, 0, 0, 0, 0), (.iconst 0, 0, 0, 0, 0, 1), (.iconst 10, 0, 0, 0, 0, 2), (.invokestatic 206, 3, 1, 12, 1605, 4), (.ifCond .ne 0, 0, 2, 0, 0, 7), (.iconst (-1), 0, 0, 0, 0, 10), (.ireturn, 0, 0, 0, 0, 11), (.aload 0, 0, 0, 0, 0, 12), (.iload 1, 0, 0, 0, 0, 13), (.iconst 1000000, 0, 0, 0, 1921, 14), (.iload 2, 0, 0, 0, 0, 17), (.iload 3, 0, 0, 0, 0, 18), (.invokevirtual 285, 5, 1, 12, 1908, 19), (.ifCond .ne 0, 0, 2, 0, 0, 22), (.iconst (-2), 0, 0, 0, 0, 25), (.ireturn, 0, 0, 0, 0, 27), (.aload 0, 0, 0, 0, 0, 28), (.iconst 0, 0, 0, 0, 0, 29), (.putfield 0, 12, 19, 0, 1450, 30), (.aload 0, 0, 0, 0, 0, 33), (.aload 0, 0, 0, 0, 0, 34), (.invokevirtual 243, 1, 1, 12, 1726, 35), (.aload 0, 0, 0, 0, 0, 38), (.invokevirtual 244, 1, 1, 12, 1730, 39), (.iload 3, 0, 0, 0, 0, 42), (.invokevirtual 266, 4, 0, 12, 1847, 43), (.aload 0, 0, 0, 0, 0, 46), (.getfield 0, 12, 39, 0, 1470, 47), (.lneg, 0, 0, 0, 1938, 50), (.ireturn, 0, 0, 0, 0, 53)], [([true, true, true, true], 0)])
def T_X12_cheap : jT := ([(.aload 0, 0, 0, 0, 0, 0), (.iconst 0, 0, 0, 0, 0, 1), (.putfield 0, 12, 20, 0, 1451, 2), (.iconst 0, 0, 0, 0, 0, 5), (.istore 2, 0, 0, 0, 0, 6), (.iconst 0, 0, 0, 0, 0, 7), (.istore 3, 0, 0, 0, 0, 8), (.nop, 1, 0, 0, 0, 9), (.iload 3, 0, 0, 0, 0, 9), (.aload 0, 0, 0, 0, 0, 10), (.getfield 0, 12, 1, 0, 1432, 11), (.if_icmp .ge 0, 0, 34, 0, 0, 14), (.iconst 0, 0, 0, 0, 0, 17), (.istore 4, 0, 0, 0, 0, 18), (.iconst 0, 0, 0, 0, 0, 20), (.istore 5, 0, 0, 0, 0, 21), (.nop, 2, 0, 0, 0, 23), (.iload 5, 0, 0, 0, 0, 23), (.aload 0, 0, 0, 0, 0, 25), (.getfield 0, 12, 6, 0, 1437, 26), (.if_icmp .ge 0, 0, 13, 0, 0, 29), (.iload 4, 0, 0, 0, 0, 32), (.ifCond .ne 0, 0, 5, 0, 0, 34), (.aload 0, 0, 0, 0, 0, 37), (.iload 5, 0, 0, 0, 0, 38), (.iload 3, 0, 0, 0, 0, 40), (.invokevirtual 231, 3, 1, 12, 1681, 41), (.ifCond .eq 0, 0, 2, 0, 0, 44), (.iconst 1, 0, 0, 0, 0, 47), (.goto 0, 0, 1, 0, 0, 48), (.iconst 0, 0, 0, 0, 0, 51), (.istore 4, 0, 0, 0, 0, 52), (.iinc 5 1, 0, 0, 0, 0, 54), (.goto 0, 1, 2, 0, 0, 57), (.iload 2, 0, 0, 0, 0, 60), (.iload 4, 0, 0, 0, 0, 61), (.ifCond .eq 0, 0, 2, 0, 0, 63), (.iconst 0, 0, 0, 0, 0, 66), (.goto 0, 0, 3, 0, 0, 67), (.iconst 1, 0, 0, 0, 0, 70), (.iload 3, 0, 0, 0, 0, 71), (.ishl, 0, 0, 0, 0, 72), (.ior, 0, 0, 0, 0, 73), (.istore 2, 0, 0, 0, 0, 74), (.iinc 3 1, 0, 0, 0, 0, 75), (.goto 0, 1, 1, 0, 0, 78), (.aload 0, 0, 0, 0, 0, 81), (.iload 1, 0, 0, 0, 0, 82), (.iconst 2, 0, 0, 0, 0, 83), (.iload 2, 0, 0, 0, 0, 84), (.invokevirtual 289, 4, 1, 12, 1934, 85), (.ireturn, 0, 0, 0, 0, 88)], [([true, true, true, true, true, true], 0), ([true, true, true, true, false, false], 8), ([true, true, true, true, true, true], 17)])
def T_X12_dear : jT := ([(.aload 0, 0, 0, 0, 0, 0), (.iconst 0, 0, 0, 0, 0, 1), (.putfield 0, 12, 20, 0, 1451, 2), (.aload 0, 0, 0, 0, 0, 5), (.iload 1, 0, 0, 0, 0, 6), (.iconst 3, 0, 0, 0, 0, 7), (.aload 0, 0, 0, 0, 0, 8), (.invokevirtual 261, 1, 1, 12, 1817, 9), (.invokevirtual 289, 4, 1, 12, 1934, 12), (.ireturn, 0, 0, 0, 0, 15)], [([true, true], 0)])
def T_X12_findGame : jT := ([(.aload 0, 0, 0, 0, 0, 0), (.invokevirtual 261, 1, 1, 12, 1817, 1), (.istore 1, 0, 0, 0, 0, 4), (.nop, 1, 0, 0, 0, 5), (.iload 1, 0, 0, 0, 0, 5), (.ifCond .lt 0, 0, 19, 0, 0, 6), (.iconst (-1), 0, 0, 0, 0, 9), (.istore 2, 0, 0, 0, 0, 10), (.nop, 2, 0, 0, 0, 11), (.iload 2, 0, 0, 0, 0, 11), (.aload 0, 0, 0, 0, 0, 12), (.getfield 0, 12, 1, 0, 1432, 13), (.if_icmp .ge 0, 0, 10, 0, 0, 16), (.iload 1, 0, 0, 0, 0, 19), (.iload 2, 0, 0, 0, 0, 20), (.invokestatic 263, 2, 1, 12, 1832, 21), (.ifCond .eq 0, 0, 4, 0, 0, 24), (.aload 0, 0, 0, 0, 0, 27), (.iload 1, 0, 0, 0, 0, 28), (.iload 2, 0, 0, 0, 0, 29), (.invokevirtual 293, 3, 0, 12, 1951, 30), (.iinc 2 1, 0, 0, 0, 0, 33), (.goto 0, 1, 2, 0, 0, 36), (.iinc 1 (-1), 0, 0, 0, 0, 39), (.goto 0, 1, 1, 0, 0, 42), (.return_, 0, 0, 0, 0, 45)], [([true, true, true], 0), ([true, true, false], 4), ([true, true, true], 9)])
def T_X12_findTurn : jT := ([(.iload 1, 0, 0, 0, 0, 0), (.iload 2, 0, 0, 0, 0, 1), (.invokestatic 260, 2, 1, 12, 1829, 2), (.istore 3, 0, 0, 0, 0, 5), (.aload 0, 0, 0, 0, 0, 6), (.getfield 0, 12, 40, 0, 1471, 7), (.iload 3, 0, 0, 0, 0, 10), (.iconst 0, 0, 0, 0, 0, 11), (.bastore, 22, 0, 0, 0, 12), (.iconst 0, 0, 0, 0, 0, 13), (.istore 4, 0, 0, 0, 0, 14), (.nop, 1, 0, 0, 0, 16), (.iload 4, 0, 0, 0, 0, 16), (.aload 0, 0, 0, 0, 0, 18), (.getfield 0, 12, 1, 0, 1432, 19), (.if_icmp .ge 0, 0, 25, 0, 0, 22), (.aload 0, 0, 0, 0, 0, 25), (.iload 1, 0, 0, 0, 0, 26), (.iload 2, 0, 0, 0, 0, 27), (.iload 4, 0, 0, 0, 0, 28), (.invokevirtual 262, 4, 1, 12, 1835, 30), (.ifCond .eq 0, 1, 2, 0, 0, 33), (.aload 0, 0, 0, 0, 0, 36), (.getfield 0, 12, 40, 0, 1471, 37), (.iload 1, 0, 0, 0, 0, 40), (.iconst 1, 0, 0, 0, 0, 41), (.iload 4, 0, 0, 0, 0, 42), (.ishl, 0, 0, 0, 0, 44), (.ior, 0, 0, 0, 0, 45), (.iload 4, 0, 0, 0, 0, 46), (.invokestatic 260, 2, 1, 12, 1829, 48), (.baload, 22, 0, 0, 0, 51), (.ifCond .ne 0, 1, 2, 0, 0, 52), (.aload 0, 0, 0, 0, 0, 55), (.getfield 0, 12, 40, 0, 1471, 56), (.iload 3, 0, 0, 0, 0, 59), (.iconst 1, 0, 0, 0, 0, 60), (.bastore, 22, 0, 0, 0, 61), (.nop, 2, 0, 0, 0, 62), (.iinc 4 1, 0, 0, 0, 0, 62), (.goto 0, 1, 1, 0, 0, 65), (.aload 0, 0, 0, 0, 0, 68), (.getfield 0, 12, 42, 0, 1473, 69), (.iload 3, 0, 0, 0, 0, 72), (.iconst (-1), 0, 0, 0, 0, 73), (.iastore, 0, 0, 0, 0, 74), (.aload 0, 0, 0, 0, 0, 75), (.getfield 0, 12, 41, 0, 1472, 76), (.iload 3, 0, 0, 0, 0, 79), (.iconst 0, 0, 0, 0, 0, 80), (.iastore, 0, 0, 0, 0, 81), (.iconst 0, 0, 0, 0, 0, 82), (.istore 4, 0, 0, 0, 0, 83), (.nop, 3, 0, 0, 0, 85), (.iload 4, 0, 0, 0, 0, 85), (.aload 0, 0, 0, 0, 0, 87), (.getfield 0, 12, 1, 0, 1432, 88), (.if_icmp .ge 0, 0, 82, 0, 0, 91), (.aload 0, 0, 0, 0, 0, 94), (.iload 1, 0, 0, 0, 0, 95), (.iload 2, 0, 0, 0, 0, 96), (.iload 4, 0, 0, 0, 0, 97), (.invokevirtual 262, 4, 1, 12, 1835, 99), (.ifCond .ne 0, 0, 1, 0, 0, 102), (.goto 0, 1, 6, 0, 0, 105), (.iload 1, 0, 0, 0, 0, 108), (.iconst 1, 0, 0, 0, 0, 109), (.iload 4, 0, 0, 0, 0, 110), (.ishl, 0, 0, 0, 0, 112), (.ior, 0, 0, 0, 0, 113), (.iload 4, 0, 0, 0, 0, 114), (.invokestatic 260, 2, 1, 12, 1829, 116), (.istore 5, 0, 0, 0, 0, 119), (.aload 0, 0, 0, 0, 0, 121), (.getfield 0, 12, 40, 0, 1471, 122), (.iload 3, 0, 0, 0, 0, 125), (.baload, 22, 0, 0, 0, 126), (.ifCond .eq 0, 1, 4, 0, 0, 127), (.aload 0, 0, 0, 0, 0, 130), (.getfield 0, 12, 40, 0, 1471, 131), (.iload 5, 0, 0, 0, 0, 134), (.baload, 22, 0, 0, 0, 136), (.ifCond .eq 0, 1, 4, 0, 0, 137), (.goto 0, 1, 6, 0, 0, 140), (.nop, 4, 0, 0, 0, 143), (.aload 0, 0, 0, 0, 0, 143), (.getfield 0, 12, 41, 0, 1472, 144), (.iload 5, 0, 0, 0, 0, 147), (.iaload, 0, 0, 0, 0, 149), (.iconst 1, 0, 0, 0, 0, 150), (.iadd, 0, 0, 0, 0, 151), (.istore 6, 0, 0, 0, 0, 152), (.aload 0, 0, 0, 0, 0, 154), (.getfield 0, 12, 40, 0, 1471, 155), (.iload 3, 0, 0, 0, 0, 158), (.baload, 22, 0, 0, 0, 159), (.ifCond .eq 0, 0, 17, 0, 0, 160), (.aload 0, 0, 0, 0, 0, 163), (.getfield 0, 12, 42, 0, 1473, 164), (.iload 3, 0, 0, 0, 0, 167), (.iaload, 0, 0, 0, 0, 168), (.iconst (-1), 0, 0, 0, 0, 169), (.if_icmp .eq 0, 1, 5, 0, 0, 170), (.iload 6, 0, 0, 0, 0, 173), (.aload 0, 0, 0, 0, 0, 175), (.getfield 0, 12, 41, 0, 1472, 176), (.iload 3, 0, 0, 0, 0, 179), (.iaload, 0, 0, 0, 0, 180), (.if_icmp .ge 0, 0, 3, 0, 0, 181), (.nop, 5, 0, 0, 0, 184), (.iconst 1, 0, 0, 0, 0, 184), (.goto 0, 0, 11, 0, 0, 185), (.iconst 0, 0, 0, 0, 0, 188), (.goto 0, 0, 9, 0, 0, 189), (.iload 6, 0, 0, 0, 0, 192), (.aload 0, 0, 0, 0, 0, 194), (.getfield 0, 12, 41, 0, 1472, 195), (.iload 3, 0, 0, 0, 0, 198), (.iaload, 0, 0, 0, 0, 199), (.if_icmp .le 0, 0, 2, 0, 0, 200), (.iconst 1, 0, 0, 0, 0, 203), (.goto 0, 0, 1, 0, 0, 204), (.iconst 0, 0, 0, 0, 0, 207), (.istore 7, 0, 0, 0, 0, 208), (.iload 7, 0, 0, 0, 0, 210), (.ifCond .ne 0, 0, 1, 0, 0, 212), (.goto 0, 1, 6, 0, 0, 215), (.aload 0, 0, 0, 0, 0, 218), (.getfield 0, 12, 41, 0, 1472, 219), (.iload 3, 0, 0, 0, 0, 222), (.iload 6, 0, 0, 0, 0, 223), (.iastore, 0, 0, 0, 0, 225), (.aload 0, 0, 0, 0, 0, 226), (.getfield 0, 12, 42, 0, 1473, 227), (.iload 3, 0, 0, 0, 0, 230), (.iload 4, 0, 0, 0, 0, 231), (.iastore, 0, 0, 0, 0, 233), (.nop, 6, 0, 0, 0, 234), (.iinc 4 1, 0, 0, 0, 0, 234), (.goto 0, 1, 3, 0, 0, 237), (.return_, 0, 0, 0, 0, 240)], [([true, true, true, true, true, true, true, true], 0), ([true, true, true, true, true, false, false, false], 12), ([true, true, true, true, true, false, false, false], 39), ([true, true, true, true, true, false, false, false], 54), ([true, true, true, true, true, true, false, false], 85), ([true, true, true, true, true, false, true, false], 110), ([true, true, true, true, true, false, false, false], 138)])
def T_X12_game : jT := ([(.aload 0, 0, 0, 0, 0, 0), (.iconst 0, 0, 0, 0, 0, 1), (.putfield 0, 12, 20, 0, 1451, 2), (.aload 0, 0, 0, 0, 0, 5), (.invokevirtual 292, 1, 0, 12, 1947, 6), (.aload 0, 0, 0, 0, 0, 9), (.invokevirtual 243, 1, 1, 12, 1726, 10), (.aload 0, 0, 0, 0, 0, 13), (.invokevirtual 244, 1, 1, 12, 1730, 14), (.invokestatic 260, 2, 1, 12, 1829, 17), (.istore 1, 0, 0, 0, 0, 20), (.aload 0, 0, 0, 0, 0, 21), (.iconst 0, 0, 0, 0, 0, 22), (.putfield 0, 12, 19, 0, 1450, 23), (.aload 0, 0, 0, 0, 0, 26), (.aload 0, 0, 0, 0, 0, 27), (.getfield 0, 12, 40, 0, 1471, 28), (.iload 1, 0, 0, 0, 0, 31), (.baload, 22, 0, 0, 0, 32), (.ifCond .eq 0, 0, 5, 0, 0, 33), (.aload 0, 0, 0, 0, 0, 36), (.getfield 0, 12, 42, 0, 1473, 37), (.iload 1, 0, 0, 0, 0, 40), (.iaload, 0, 0, 0, 0, 41), (.goto 0, 0, 1, 0, 0, 42), (.iconst (-1), 0, 0, 0, 0, 45), (.invokevirtual 209, 2, 0, 12, 1785, 46), (.aload 0, 0, 0, 0, 0, 49), (.aload 0, 0, 0, 0, 0, 50), (.getfield 0, 12, 41, 0, 1472, 51), (.iload 1, 0, 0, 0, 0, 54), (.iaload, 0, 0, 0, 0, 55), (.invokevirtual 209, 2, 0, 12, 1785, 56), (.aload 0, 0, 0, 0, 0, 59), (.getfield 0, 12, 40, 0, 1471, 60), (.iload 1, 0, 0, 0, 0, 63), (.baload, 22, 0, 0, 0, 64), (.ifCond .eq 0, 0, 2, 0, 0, 65), (.iconst 1, 0, 0, 0, 0, 68), (.goto 0, 0, 1, 0, 0, 69), (.iconst 0, 0, 0, 0, 0, 72), (.ireturn, 0, 0, 0, 0, 73)], [([true, true], 0)])
def T_X12_findGreedy : jT := ([(.iload 1, 0, 0, 0, 0, 0), (.iload 2, 0, 0, 0, 0, 1), (.invokestatic 260, 2, 1, 12, 1829, 2), (.istore 3, 0, 0, 0, 0, 5), (.iconst (-1), 0, 0, 0, 0, 6), (.istore 4, 0, 0, 0, 0, 7), (.iconst 0, 0, 0, 0, 0, 9), (.istore 5, 0, 0, 0, 0, 10), (.iconst 0, 0, 0, 0, 0, 12), (.istore 6, 0, 0, 0, 0, 13), (.iconst 0, 0, 0, 0, 0, 15), (.istore 7, 0, 0, 0, 0, 16), (.iconst 0, 0, 0, 0, 0, 18), (.istore 8, 0, 0, 0, 0, 19), (.nop, 1, 0, 0, 0, 21), (.iload 8, 0, 0, 0, 0, 21), (.aload 0, 0, 0, 0, 0, 23), (.getfield 0, 12, 1, 0, 1432, 24), (.if_icmp .ge 0, 0, 46, 0, 0, 27), (.aload 0, 0, 0, 0, 0, 30), (.iload 1, 0, 0, 0, 0, 31), (.iload 2, 0, 0, 0, 0, 32), (.iload 8, 0, 0, 0, 0, 33), (.invokevirtual 262, 4, 1, 12, 1835, 35), (.ifCond .ne 0, 0, 1, 0, 0, 38), (.goto 0, 1, 4, 0, 0, 41), (.iconst 1, 0, 0, 0, 0, 44), (.istore 6, 0, 0, 0, 0, 45), (.iload 7, 0, 0, 0, 0, 47), (.ifCond .ne 0, 1, 2, 0, 0, 49), (.aload 0, 0, 0, 0, 0, 52), (.getfield 0, 12, 43, 0, 1474, 53), (.iload 1, 0, 0, 0, 0, 56), (.iconst 1, 0, 0, 0, 0, 57), (.iload 8, 0, 0, 0, 0, 58), (.ishl, 0, 0, 0, 0, 60), (.ior, 0, 0, 0, 0, 61), (.iload 8, 0, 0, 0, 0, 62), (.invokestatic 260, 2, 1, 12, 1829, 64), (.baload, 22, 0, 0, 0, 67), (.ifCond .eq 0, 0, 3, 0, 0, 68), (.nop, 2, 0, 0, 0, 71), (.iconst 1, 0, 0, 0, 0, 71), (.goto 0, 0, 1, 0, 0, 72), (.iconst 0, 0, 0, 0, 0, 75), (.istore 7, 0, 0, 0, 0, 76), (.aload 0, 0, 0, 0, 0, 78), (.iload 8, 0, 0, 0, 0, 79), (.invokevirtual 230, 2, 1, 12, 1685, 81), (.istore 9, 0, 0, 0, 0, 84), (.iload 4, 0, 0, 0, 0, 86), (.iconst (-1), 0, 0, 0, 0, 88), (.if_icmp .eq 0, 1, 3, 0, 0, 89), (.iload 9, 0, 0, 0, 0, 92), (.iload 5, 0, 0, 0, 0, 94), (.if_icmp .gt 0, 1, 3, 0, 0, 96), (.goto 0, 1, 4, 0, 0, 99), (.nop, 3, 0, 0, 0, 102), (.iload 8, 0, 0, 0, 0, 102), (.istore 4, 0, 0, 0, 0, 104), (.iload 9, 0, 0, 0, 0, 106), (.istore 5, 0, 0, 0, 0, 108), (.nop, 4, 0, 0, 0, 110), (.iinc 8 1, 0, 0, 0, 0, 110), (.goto 0, 1, 1, 0, 0, 113), (.iload 4, 0, 0, 0, 0, 116), (.iconst (-1), 0, 0, 0, 0, 118), (.if_icmp .ne 0, 0, 2, 0, 0, 119), (.iconst 0, 0, 0, 0, 0, 122), (.goto 0, 0, 9, 0, 0, 123), (.iconst 11264, 0, 0, 0, 0, 126), (.iload 1, 0, 0, 0, 0, 129), (.iconst 1, 0, 0, 0, 0, 130), (.iload 4, 0, 0, 0, 0, 131), (.ishl, 0, 0, 0, 0, 133), (.ior, 0, 0, 0, 0, 134), (.iload 4, 0, 0, 0, 0, 135), (.invokestatic 260, 2, 1, 12, 1829, 137), (.iadd, 0, 0, 0, 0, 140), (.istore 8, 0, 0, 0, 0, 141), (.aload 0, 0, 0, 0, 0, 143), (.getfield 0, 12, 43, 0, 1474, 144), (.iload 3, 0, 0, 0, 0, 147), (.iload 4, 0, 0, 0, 0, 148), (.iconst (-1), 0, 0, 0, 0, 150), (.if_icmp .eq 0, 0, 5, 0, 0, 151), (.aload 0, 0, 0, 0, 0, 154), (.getfield 0, 12, 43, 0, 1474, 155), (.iload 8, 0, 0, 0, 0, 158), (.baload, 22, 0, 0, 0, 160), (.ifCond .eq 0, 0, 2, 0, 0, 161), (.iconst 1, 0, 0, 0, 0, 164), (.goto 0, 0, 1, 0, 0, 165), (.iconst 0, 0, 0, 0, 0, 168), (.bastore, 22, 0, 0, 0, 169), (.aload 0, 0, 0, 0, 0, 170), (.getfield 0, 12, 44, 0, 1475, 171), (.iload 3, 0, 0, 0, 0, 174), (.iload 4, 0, 0, 0, 0, 175), (.iconst (-1), 0, 0, 0, 0, 177), (.if_icmp .ne 0, 0, 2, 0, 0, 178), (.iconst 0, 0, 0, 0, 0, 181), (.goto 0, 0, 6, 0, 0, 182), (.aload 0, 0, 0, 0, 0, 185), (.getfield 0, 12, 44, 0, 1475, 186), (.iload 8, 0, 0, 0, 0, 189), (.iaload, 0, 0, 0, 0, 191), (.iconst 1, 0, 0, 0, 0, 192), (.iadd, 0, 0, 0, 0, 193), (.iastore, 0, 0, 0, 0, 194), (.aload 0, 0, 0, 0, 0, 195), (.getfield 0, 12, 43, 0, 1474, 196), (.iconst 11264, 0, 0, 0, 0, 199), (.iload 3, 0, 0, 0, 0, 202), (.iadd, 0, 0, 0, 0, 203), (.iload 6, 0, 0, 0, 0, 204), (.ifCond .eq 0, 0, 4, 0, 0, 206), (.iload 7, 0, 0, 0, 0, 209), (.ifCond .eq 0, 0, 2, 0, 0, 211), (.iconst 1, 0, 0, 0, 0, 214), (.goto 0, 0, 1, 0, 0, 215), (.iconst 0, 0, 0, 0, 0, 218), (.bastore, 22, 0, 0, 0, 219), (.iconst 0, 0, 0, 0, 0, 220), (.istore 9, 0, 0, 0, 0, 221), (.iconst 1, 0, 0, 0, 0, 223), (.istore 10, 0, 0, 0, 0, 224), (.iconst 0, 0, 0, 0, 0, 226), (.istore 11, 0, 0, 0, 0, 227), (.nop, 5, 0, 0, 0, 229), (.iload 11, 0, 0, 0, 0, 229), (.aload 0, 0, 0, 0, 0, 231), (.getfield 0, 12, 1, 0, 1432, 232), (.if_icmp .ge 0, 0, 51, 0, 0, 235), (.aload 0, 0, 0, 0, 0, 238), (.iload 1, 0, 0, 0, 0, 239), (.iload 2, 0, 0, 0, 0, 240), (.iload 11, 0, 0, 0, 0, 241), (.invokevirtual 262, 4, 1, 12, 1835, 243), (.ifCond .eq 0, 1, 6, 0, 0, 246), (.iload 7, 0, 0, 0, 0, 249), (.aload 0, 0, 0, 0, 0, 251), (.getfield 0, 12, 43, 0, 1474, 252), (.iload 1, 0, 0, 0, 0, 255), (.iconst 1, 0, 0, 0, 0, 256), (.iload 11, 0, 0, 0, 0, 257), (.ishl, 0, 0, 0, 0, 259), (.ior, 0, 0, 0, 0, 260), (.iload 11, 0, 0, 0, 0, 261), (.invokestatic 260, 2, 1, 12, 1829, 263), (.baload, 22, 0, 0, 0, 266), (.if_icmp .eq 0, 0, 1, 0, 0, 267), (.goto 0, 1, 6, 0, 0, 270), (.aload 0, 0, 0, 0, 0, 273), (.getfield 0, 12, 44, 0, 1475, 274), (.iload 1, 0, 0, 0, 0, 277), (.iconst 1, 0, 0, 0, 0, 278), (.iload 11, 0, 0, 0, 0, 279), (.ishl, 0, 0, 0, 0, 281), (.ior, 0, 0, 0, 0, 282), (.iload 11, 0, 0, 0, 0, 283), (.invokestatic 260, 2, 1, 12, 1829, 285), (.iaload, 0, 0, 0, 0, 288), (.iconst 1, 0, 0, 0, 0, 289), (.iadd, 0, 0, 0, 0, 290), (.istore 12, 0, 0, 0, 0, 291), (.iload 10, 0, 0, 0, 0, 293), (.ifCond .eq 0, 0, 2, 0, 0, 295), (.iload 12, 0, 0, 0, 0, 298), (.goto 0, 0, 9, 0, 0, 300), (.iload 7, 0, 0, 0, 0, 303), (.ifCond .eq 0, 0, 4, 0, 0, 305), (.iload 9, 0, 0, 0, 0, 308), (.iload 12, 0, 0, 0, 0, 310), (.lsub, 0, 0, 0, 1693, 312), (.goto 0, 0, 3, 0, 0, 315), (.iload 9, 0, 0, 0, 0, 318), (.iload 12, 0, 0, 0, 0, 320), (.lmul, 0, 0, 0, 1694, 322), (.istore 9, 0, 0, 0, 0, 325), (.iconst 0, 0, 0, 0, 0, 327), (.istore 10, 0, 0, 0, 0, 328), (.nop, 6, 0, 0, 0, 330), (.iinc 11 1, 0, 0, 0, 0, 330), (.goto 0, 1, 5, 0, 0, 333), (.aload 0, 0, 0, 0, 0, 336), (.getfield 0, 12, 44, 0, 1475, 337), (.iconst 11264, 0, 0, 0, 0, 340), (.iload 3, 0, 0, 0, 0, 343), (.iadd, 0, 0, 0, 0, 344), (.iload 9, 0, 0, 0, 0, 345), (.iastore, 0, 0, 0, 0, 347), (.return_, 0, 0, 0, 0, 348)], [([true, true, true, true, true, true, true, true, true, true, true, true, true], 0), ([true, true, true, true, true, true, true, true, true, false, false, false, false], 15), ([true, true, true, true, true, true, true, false, true, false, false, false, false], 42), ([true, true, true, true, false, false, true, true, true, true, false, false, false], 58), ([true, true, true, true, true, true, true, true, true, false, false, false, false], 63), ([true, true, true, true, false, false, false, true, false, true, true, true, false], 130), ([true, true, true, true, false, false, false, true, false, true, true, true, false], 183)])
def T_X12_greedy : jT := ([(.aload 0, 0, 0, 0, 0, 0), (.iconst 0, 0, 0, 0, 0, 1), (.putfield 0, 12, 20, 0, 1451, 2), (.aload 0, 0, 0, 0, 0, 5), (.invokevirtual 261, 1, 1, 12, 1817, 6), (.istore 1, 0, 0, 0, 0, 9), (.nop, 1, 0, 0, 0, 10), (.iload 1, 0, 0, 0, 0, 10), (.ifCond .lt 0, 0, 19, 0, 0, 11), (.iconst (-1), 0, 0, 0, 0, 14), (.istore 2, 0, 0, 0, 0, 15), (.nop, 2, 0, 0, 0, 16), (.iload 2, 0, 0, 0, 0, 16), (.aload 0, 0, 0, 0, 0, 17), (.getfield 0, 12, 1, 0, 1432, 18), (.if_icmp .ge 0, 0, 10, 0, 0, 21), (.iload 1, 0, 0, 0, 0, 24), (.iload 2, 0, 0, 0, 0, 25), (.invokestatic 263, 2, 1, 12, 1832, 26), (.ifCond .eq 0, 0, 4, 0, 0, 29), (.aload 0, 0, 0, 0, 0, 32), (.iload 1, 0, 0, 0, 0, 33), (.iload 2, 0, 0, 0, 0, 34), (.invokevirtual 295, 3, 0, 12, 1959, 35), (.iinc 2 1, 0, 0, 0, 0, 38), (.goto 0, 1, 2, 0, 0, 41), (.iinc 1 (-1), 0, 0, 0, 0, 44), (.goto 0, 1, 1, 0, 0, 47), (.aload 0, 0, 0, 0, 0, 50), (.invokevirtual 243, 1, 1, 12, 1726, 51), (.aload 0, 0, 0, 0, 0, 54), (.invokevirtual 244, 1, 1, 12, 1730, 55), (.invokestatic 260, 2, 1, 12, 1829, 58), (.istore 1, 0, 0, 0, 0, 61), (.aload 0, 0, 0, 0, 0, 62), (.iconst 0, 0, 0, 0, 0, 63), (.putfield 0, 12, 19, 0, 1450, 64), (.aload 0, 0, 0, 0, 0, 67), (.aload 0, 0, 0, 0, 0, 68), (.getfield 0, 12, 44, 0, 1475, 69), (.iload 1, 0, 0, 0, 0, 72), (.iaload, 0, 0, 0, 0, 73), (.invokevirtual 209, 2, 0, 12, 1785, 74), (.aload 0, 0, 0, 0, 0, 77), (.getfield 0, 12, 43, 0, 1474, 78), (.iload 1, 0, 0, 0, 0, 81), (.baload, 22, 0, 0, 0, 82), (.ifCond .eq 0, 0, 2, 0, 0, 83), (.iconst 1, 0, 0, 0, 0, 86), (.goto 0, 0, 1, 0, 0, 87), (.iconst 0, 0, 0, 0, 0, 90), (.ireturn, 0, 0, 0, 0, 91)], [([true, true, true], 0), ([true, true, false], 7), ([true, true, true], 12)])
def T_X12_menuAt : jT := ([(.aload 0, 0, 0, 0, 0, 0), (.getfield 0, 12, 14, 0, 1445, 1), (.iconst 10, 0, 0, 0, 0, 4), (.iload 1, 0, 0, 0, 0, 6), (.imul, 0, 0, 0, 0, 7), (.iload 2, 0, 0, 0, 0, 8), (.invokestatic 0, 1, 1, 0, 1668, 9), (.iadd, 0, 0, 0, 0, 12), (.iaload, 0, 0, 0, 0, 13), (.ireturn, 0, 0, 0, 0, 14)], [([true, true, true], 0)])
def T_X12_mend : jT := ([(.aload 0, 0, 0, 0, 0, 0), (.iconst 0, 0, 0, 0, 0, 1), (.putfield 0, 12, 20, 0, 1451, 2), (.iload 2, 0, 0, 0, 0, 5), (.iconst (-1), 0, 0, 0, 0, 6), (.iconst 7, 0, 0, 0, 0, 7), (.invokestatic 206, 3, 1, 12, 1605, 9), (.ifCond .ne 0, 0, 2, 0, 0, 12), (.iconst (-1), 0, 0, 0, 0, 15), (.ireturn, 0, 0, 0, 0, 16), (.aload 0, 0, 0, 0, 0, 17), (.iload 1, 0, 0, 0, 0, 18), (.invokevirtual 251, 2, 1, 12, 1801, 19), (.ifCond .ne 0, 0, 2, 0, 0, 22), (.iconst (-3), 0, 0, 0, 0, 25), (.ireturn, 0, 0, 0, 0, 27), (.iload 2, 0, 0, 0, 0, 28), (.iconst (-1), 0, 0, 0, 0, 29), (.if_icmp .ne 0, 0, 2, 0, 0, 30), (.iconst 0, 0, 0, 0, 0, 33), (.goto 0, 0, 4, 0, 0, 34), (.aload 0, 0, 0, 0, 0, 37), (.getfield 0, 12, 0, 0, 1431, 38), (.iload 2, 0, 0, 0, 0, 41), (.iaload, 0, 0, 0, 0, 42), (.istore 3, 0, 0, 0, 0, 43), (.iload 2, 0, 0, 0, 0, 44), (.iconst (-1), 0, 0, 0, 0, 45), (.if_icmp .eq 0, 0, 5, 0, 0, 46), (.aload 0, 0, 0, 0, 0, 49), (.getfield 0, 12, 0, 0, 1431, 50), (.iload 2, 0, 0, 0, 0, 53), (.iconst 0, 0, 0, 0, 0, 54), (.iastore, 0, 0, 0, 0, 55), (.aload 0, 0, 0, 0, 0, 56), (.getfield 0, 12, 15, 0, 1446, 57), (.iload 1, 0, 0, 0, 0, 60), (.iaload, 0, 0, 0, 0, 61), (.istore 4, 0, 0, 0, 0, 62), (.aload 0, 0, 0, 0, 0, 64), (.invokevirtual 261, 1, 1, 12, 1817, 65), (.istore 5, 0, 0, 0, 0, 68), (.nop, 1, 0, 0, 0, 70), (.iload 5, 0, 0, 0, 0, 70), (.ifCond .lt 0, 0, 80, 0, 0, 72), (.iload 5, 0, 0, 0, 0, 75), (.invokestatic 0, 1, 1, 0, 1668, 77), (.iload 4, 0, 0, 0, 0, 80), (.if_icmp .le 0, 0, 1, 0, 0, 82), (.goto 0, 0, 73, 0, 0, 85), (.iconst (-1), 0, 0, 0, 0, 88), (.istore 6, 0, 0, 0, 0, 89), (.nop, 2, 0, 0, 0, 91), (.iload 6, 0, 0, 0, 0, 91), (.aload 0, 0, 0, 0, 0, 93), (.getfield 0, 12, 1, 0, 1432, 94), (.if_icmp .ge 0, 0, 66, 0, 0, 97), (.iload 5, 0, 0, 0, 0, 100), (.iload 6, 0, 0, 0, 0, 102), (.invokestatic 263, 2, 1, 12, 1832, 104), (.ifCond .ne 0, 0, 1, 0, 0, 107), (.goto 0, 0, 59, 0, 0, 110), (.iload 5, 0, 0, 0, 0, 113), (.invokestatic 0, 1, 1, 0, 1668, 115), (.iload 4, 0, 0, 0, 0, 118), (.if_icmp .ne 0, 0, 2, 0, 0, 120), (.iconst 0, 0, 0, 0, 0, 123), (.goto 0, 0, 1, 0, 0, 124), (.iconst 1000000, 0, 0, 0, 1921, 127), (.istore 7, 0, 0, 0, 0, 130), (.iconst 0, 0, 0, 0, 0, 132), (.istore 8, 0, 0, 0, 0, 133), (.nop, 3, 0, 0, 0, 135), (.iload 8, 0, 0, 0, 0, 135), (.aload 0, 0, 0, 0, 0, 137), (.getfield 0, 12, 1, 0, 1432, 138), (.if_icmp .ge 0, 0, 35, 0, 0, 141), (.iload 5, 0, 0, 0, 0, 144), (.invokestatic 0, 1, 1, 0, 1668, 146), (.iload 4, 0, 0, 0, 0, 149), (.if_icmp .ge 0, 0, 31, 0, 0, 151), (.aload 0, 0, 0, 0, 0, 154), (.iload 5, 0, 0, 0, 0, 155), (.iload 6, 0, 0, 0, 0, 157), (.iload 8, 0, 0, 0, 0, 159), (.invokevirtual 262, 4, 1, 12, 1835, 161), (.ifCond .eq 0, 0, 23, 0, 0, 164), (.iload 7, 0, 0, 0, 0, 167), (.aload 0, 0, 0, 0, 0, 169), (.getfield 0, 12, 45, 0, 1476, 170), (.iload 5, 0, 0, 0, 0, 173), (.iconst 1, 0, 0, 0, 0, 175), (.iload 8, 0, 0, 0, 0, 176), (.ishl, 0, 0, 0, 0, 178), (.ior, 0, 0, 0, 0, 179), (.iload 8, 0, 0, 0, 0, 180), (.invokestatic 260, 2, 1, 12, 1829, 182), (.iaload, 0, 0, 0, 0, 185), (.iload 8, 0, 0, 0, 0, 186), (.aload 0, 0, 0, 0, 0, 188), (.iload 1, 0, 0, 0, 0, 189), (.iload 5, 0, 0, 0, 0, 190), (.invokevirtual 297, 3, 1, 12, 1967, 192), (.if_icmp .ne 0, 0, 2, 0, 0, 195), (.iconst 0, 0, 0, 0, 0, 198), (.goto 0, 0, 1, 0, 0, 199), (.iconst 1, 0, 0, 0, 0, 202), (.iadd, 0, 0, 0, 0, 203), (.lsub, 0, 0, 0, 1693, 204), (.istore 7, 0, 0, 0, 0, 207), (.iinc 8 1, 0, 0, 0, 0, 209), (.goto 0, 1, 3, 0, 0, 212), (.aload 0, 0, 0, 0, 0, 215), (.getfield 0, 12, 45, 0, 1476, 216), (.iload 5, 0, 0, 0, 0, 219), (.iload 6, 0, 0, 0, 0, 221), (.invokestatic 260, 2, 1, 12, 1829, 223), (.iload 7, 0, 0, 0, 0, 226), (.iconst 1000000, 0, 0, 0, 1921, 228), (.lsub, 0, 0, 0, 1693, 231), (.iastore, 0, 0, 0, 0, 234), (.iinc 6 1, 0, 0, 0, 0, 235), (.goto 0, 1, 2, 0, 0, 238), (.iinc 5 (-1), 0, 0, 0, 0, 241), (.goto 0, 1, 1, 0, 0, 244), (.aload 0, 0, 0, 0, 0, 247), (.getfield 0, 12, 45, 0, 1476, 248), (.iconst 0, 0, 0, 0, 0, 251), (.iconst (-1), 0, 0, 0, 0, 252), (.invokestatic 260, 2, 1, 12, 1829, 253), (.iaload, 0, 0, 0, 0, 256), (.istore 5, 0, 0, 0, 0, 257), (.iload 5, 0, 0, 0, 0, 259), (.iconst 1000000, 0, 0, 0, 1921, 261), (.if_icmp .ge 0, 0, 4, 0, 0, 264), (.aload 0, 0, 0, 0, 0, 267), (.iload 1, 0, 0, 0, 0, 268), (.iload 4, 0, 0, 0, 0, 269), (.invokevirtual 299, 3, 0, 12, 1971, 271), (.iload 2, 0, 0, 0, 0, 274), (.iconst (-1), 0, 0, 0, 0, 275), (.if_icmp .eq 0, 0, 5, 0, 0, 276), (.aload 0, 0, 0, 0, 0, 279), (.getfield 0, 12, 0, 0, 1431, 280), (.iload 2, 0, 0, 0, 0, 283), (.iload 3, 0, 0, 0, 0, 284), (.iastore, 0, 0, 0, 0, 285), (.iload 5, 0, 0, 0, 0, 286), (.iconst 1000000, 0, 0, 0, 1921, 288), (.if_icmp .ge 0, 0, 2, 0, 0, 291), (.iload 5, 0, 0, 0, 0, 294), (.goto 0, 0, 1, 0, 0, 296), (.iconst (-2), 0, 0, 0, 0, 299), (.ireturn, 0, 0, 0, 0, 301)], [([true, true, true, true, true, true, true, true, true], 0), ([true, true, true, true, true, true, false, false, false], 43), ([true, true, true, true, true, true, true, false, false], 53), ([true, true, true, true, true, true, true, true, true], 73)])
def T_X12_tellMended : jT := ([(.iconst 0, 0, 0, 0, 0, 0), (.istore 3, 0, 0, 0, 0, 1), (.iconst (-1), 0, 0, 0, 0, 2), (.istore 4, 0, 0, 0, 0, 3), (.aload 0, 0, 0, 0, 0, 5), (.iconst 0, 0, 0, 0, 0, 6), (.putfield 0, 12, 19, 0, 1450, 7), (.nop, 1, 0, 0, 0, 10), (.iload 3, 0, 0, 0, 0, 10), (.invokestatic 0, 1, 1, 0, 1668, 11), (.iload 2, 0, 0, 0, 0, 14), (.if_icmp .ge 0, 0, 50, 0, 0, 15), (.iconst 0, 0, 0, 0, 0, 18), (.istore 5, 0, 0, 0, 0, 19), (.nop, 2, 0, 0, 0, 21), (.aload 0, 0, 0, 0, 0, 21), (.iload 3, 0, 0, 0, 0, 22), (.iload 4, 0, 0, 0, 0, 23), (.iload 5, 0, 0, 0, 0, 25), (.invokevirtual 262, 4, 1, 12, 1835, 27), (.ifCond .eq 0, 0, 27, 0, 0, 30), (.aload 0, 0, 0, 0, 0, 33), (.getfield 0, 12, 45, 0, 1476, 34), (.iload 3, 0, 0, 0, 0, 37), (.iconst 1, 0, 0, 0, 0, 38), (.iload 5, 0, 0, 0, 0, 39), (.ishl, 0, 0, 0, 0, 41), (.ior, 0, 0, 0, 0, 42), (.iload 5, 0, 0, 0, 0, 43), (.invokestatic 260, 2, 1, 12, 1829, 45), (.iaload, 0, 0, 0, 0, 48), (.iload 5, 0, 0, 0, 0, 49), (.aload 0, 0, 0, 0, 0, 51), (.iload 1, 0, 0, 0, 0, 52), (.iload 3, 0, 0, 0, 0, 53), (.invokevirtual 297, 3, 1, 12, 1967, 54), (.if_icmp .ne 0, 0, 2, 0, 0, 57), (.iconst 0, 0, 0, 0, 0, 60), (.goto 0, 0, 1, 0, 0, 61), (.iconst 1, 0, 0, 0, 0, 64), (.iadd, 0, 0, 0, 0, 65), (.aload 0, 0, 0, 0, 0, 66), (.getfield 0, 12, 45, 0, 1476, 67), (.iload 3, 0, 0, 0, 0, 70), (.iload 4, 0, 0, 0, 0, 71), (.invokestatic 260, 2, 1, 12, 1829, 73), (.iaload, 0, 0, 0, 0, 76), (.if_icmp .eq 0, 0, 2, 0, 0, 77), (.iinc 5 1, 0, 0, 0, 0, 80), (.goto 0, 1, 2, 0, 0, 83), (.aload 0, 0, 0, 0, 0, 86), (.iload 5, 0, 0, 0, 0, 87), (.invokevirtual 209, 2, 0, 12, 1785, 89), (.iload 3, 0, 0, 0, 0, 92), (.iconst 1, 0, 0, 0, 0, 93), (.iload 5, 0, 0, 0, 0, 94), (.ishl, 0, 0, 0, 0, 96), (.ior, 0, 0, 0, 0, 97), (.istore 3, 0, 0, 0, 0, 98), (.iload 5, 0, 0, 0, 0, 99), (.istore 4, 0, 0, 0, 0, 101), (.goto 0, 1, 1, 0, 0, 103), (.return_, 0, 0, 0, 0, 106)], [([true, true, true, true, true, true], 0), ([true, true, true, true, true, false], 8), ([true, true, true, true, true, true], 15)])
def T_X12_findFills : jT := ([(.aload 0, 0, 0, 0, 0, 0), (.getfield 0, 12, 15, 0, 1446, 1), (.iload 1, 0, 0, 0, 0, 4), (.iaload, 0, 0, 0, 0, 5), (.istore 2, 0, 0, 0, 0, 6), (.aload 0, 0, 0, 0, 0, 7), (.invokevirtual 261, 1, 1, 12, 1817, 8), (.istore 3, 0, 0, 0, 0, 11), (.nop, 1, 0, 0, 0, 12), (.iload 3, 0, 0, 0, 0, 12), (.ifCond .lt 0, 0, 74, 0, 0, 13), (.iload 3, 0, 0, 0, 0, 16), (.invokestatic 0, 1, 1, 0, 1668, 17), (.iload 2, 0, 0, 0, 0, 20), (.if_icmp .le 0, 0, 1, 0, 0, 21), (.goto 0, 0, 67, 0, 0, 24), (.iconst (-1), 0, 0, 0, 0, 27), (.istore 4, 0, 0, 0, 0, 28), (.nop, 2, 0, 0, 0, 30), (.iload 4, 0, 0, 0, 0, 30), (.aload 0, 0, 0, 0, 0, 32), (.getfield 0, 12, 1, 0, 1432, 33), (.if_icmp .ge 0, 0, 60, 0, 0, 36), (.iload 3, 0, 0, 0, 0, 39), (.iload 4, 0, 0, 0, 0, 40), (.invokestatic 263, 2, 1, 12, 1832, 42), (.ifCond .ne 0, 0, 1, 0, 0, 45), (.goto 0, 0, 53, 0, 0, 48), (.iload 3, 0, 0, 0, 0, 51), (.invokestatic 0, 1, 1, 0, 1668, 52), (.iload 2, 0, 0, 0, 0, 55), (.if_icmp .ne 0, 0, 2, 0, 0, 56), (.sipush 1, 0, 0, 0, 0, 59), (.goto 0, 0, 1, 0, 0, 60), (.sipush 0, 0, 0, 0, 0, 63), (.lstore 5, 0, 0, 0, 0, 64), (.iconst 0, 0, 0, 0, 0, 66), (.istore 7, 0, 0, 0, 0, 67), (.nop, 3, 0, 0, 0, 69), (.iload 7, 0, 0, 0, 0, 69), (.aload 0, 0, 0, 0, 0, 71), (.getfield 0, 12, 1, 0, 1432, 72), (.if_icmp .ge 0, 0, 31, 0, 0, 75), (.iload 3, 0, 0, 0, 0, 78), (.invokestatic 0, 1, 1, 0, 1668, 79), (.iload 2, 0, 0, 0, 0, 82), (.if_icmp .ge 0, 0, 27, 0, 0, 83), (.aload 0, 0, 0, 0, 0, 86), (.iload 1, 0, 0, 0, 0, 87), (.iload 3, 0, 0, 0, 0, 88), (.iload 7, 0, 0, 0, 0, 89), (.invokevirtual 301, 4, 1, 12, 1984, 91), (.ifCond .eq 0, 0, 19, 0, 0, 94), (.aload 0, 0, 0, 0, 0, 97), (.iload 3, 0, 0, 0, 0, 98), (.iload 4, 0, 0, 0, 0, 99), (.iload 7, 0, 0, 0, 0, 101), (.invokevirtual 262, 4, 1, 12, 1835, 103), (.ifCond .eq 0, 0, 13, 0, 0, 106), (.lload 5, 0, 0, 0, 0, 109), (.aload 0, 0, 0, 0, 0, 111), (.getfield 0, 12, 46, 0, 1477, 112), (.iload 3, 0, 0, 0, 0, 115), (.iconst 1, 0, 0, 0, 0, 116), (.iload 7, 0, 0, 0, 0, 117), (.ishl, 0, 0, 0, 0, 119), (.ior, 0, 0, 0, 0, 120), (.iload 7, 0, 0, 0, 0, 121), (.invokestatic 260, 2, 1, 12, 1829, 123), (.laload, 0, 0, 0, 0, 126), (.ladd, 0, 0, 0, 0, 127), (.lstore 5, 0, 0, 0, 0, 128), (.iinc 7 1, 0, 0, 0, 0, 130), (.goto 0, 1, 3, 0, 0, 133), (.aload 0, 0, 0, 0, 0, 136), (.getfield 0, 12, 46, 0, 1477, 137), (.iload 3, 0, 0, 0, 0, 140), (.iload 4, 0, 0, 0, 0, 141), (.invokestatic 260, 2, 1, 12, 1829, 143), (.lload 5, 0, 0, 0, 0, 146), (.lastore, 0, 0, 0, 0, 148), (.iinc 4 1, 0, 0, 0, 0, 149), (.goto 0, 1, 2, 0, 0, 152), (.iinc 3 (-1), 0, 0, 0, 0, 155), (.goto 0, 1, 1, 0, 0, 158), (.aload 0, 0, 0, 0, 0, 161), (.getfield 0, 12, 46, 0, 1477, 162), (.iconst 0, 0, 0, 0, 0, 165), (.iconst (-1), 0, 0, 0, 0, 166), (.invokestatic 260, 2, 1, 12, 1829, 167), (.laload, 0, 0, 0, 0, 170), (.lreturn, 0, 0, 0, 0, 171)], [([true, true, true, true, true, true, true, true], 0), ([true, true, true, true, false, false, false, false], 9), ([true, true, true, true, true, false, false, false], 19), ([true, true, true, true, true, true, false, true], 39)])
def T_X12_isAsked : jT := ([(.aload 0, 0, 0, 0, 0, 0), (.iload 1, 0, 0, 0, 0, 1), (.iload 2, 0, 0, 0, 0, 2), (.invokevirtual 297, 3, 1, 12, 1967, 3), (.istore 4, 0, 0, 0, 0, 6), (.iload 4, 0, 0, 0, 0, 8), (.iconst 99, 0, 0, 0, 0, 10), (.if_icmp .eq 0, 0, 3, 0, 0, 12), (.iload 4, 0, 0, 0, 0, 15), (.iload 3, 0, 0, 0, 0, 17), (.if_icmp .ne 0, 0, 2, 0, 0, 18), (.iconst 1, 0, 0, 0, 0, 21), (.goto 0, 0, 1, 0, 0, 22), (.iconst 0, 0, 0, 0, 0, 25), (.ireturn, 1, 0, 0, 0, 26)], [([true, true, true, true, true], 0)])
def T_X12_fills : jT := ([(.aload 0, 0, 0, 0, 0, 0), (.iconst 0, 0, 0, 0, 0, 1), (.putfield 0, 12, 20, 0, 1451, 2), (.aload 0, 0, 0, 0, 0, 5), (.iload 1, 0, 0, 0, 0, 6), (.invokevirtual 250, 2, 1, 12, 1773, 7), (.ifCond .ne 0, 0, 2, 0, 0, 10), (.sipush (-3), 0, 0, 0, 1979, 13), (.lreturn, 0, 0, 0, 0, 16), (.aload 0, 0, 0, 0, 0, 17), (.iload 1, 0, 0, 0, 0, 18), (.invokevirtual 300, 2, 2, 12, 1980, 19), (.lstore 2, 0, 0, 0, 0, 22), (.aload 0, 0, 0, 0, 0, 23), (.iconst 0, 0, 0, 0, 0, 24), (.putfield 0, 12, 19, 0, 1450, 25), (.iconst 0, 0, 0, 0, 0, 28), (.istore 4, 0, 0, 0, 0, 29), (.iconst (-1), 0, 0, 0, 0, 31), (.istore 5, 0, 0, 0, 0, 32), (.nop, 1, 0, 0, 0, 34), (.lload 2, 0, 0, 0, 0, 34), (.sipush 0, 0, 0, 0, 0, 35), (.lcmp, 0, 0, 0, 0, 36), (.ifCond .le 0, 0, 49, 0, 0, 37), (.iload 4, 0, 0, 0, 0, 40), (.invokestatic 0, 1, 1, 0, 1668, 42), (.aload 0, 0, 0, 0, 0, 45), (.getfield 0, 12, 15, 0, 1446, 46), (.iload 1, 0, 0, 0, 0, 49), (.iaload, 0, 0, 0, 0, 50), (.if_icmp .ge 0, 0, 42, 0, 0, 51), (.iconst 0, 0, 0, 0, 0, 54), (.istore 6, 0, 0, 0, 0, 55), (.nop, 2, 0, 0, 0, 57), (.aload 0, 0, 0, 0, 0, 57), (.iload 1, 0, 0, 0, 0, 58), (.iload 4, 0, 0, 0, 0, 59), (.iload 6, 0, 0, 0, 0, 61), (.invokevirtual 301, 4, 1, 12, 1984, 63), (.ifCond .eq 0, 0, 19, 0, 0, 66), (.aload 0, 0, 0, 0, 0, 69), (.iload 4, 0, 0, 0, 0, 70), (.iload 5, 0, 0, 0, 0, 72), (.iload 6, 0, 0, 0, 0, 74), (.invokevirtual 262, 4, 1, 12, 1835, 76), (.ifCond .eq 0, 0, 13, 0, 0, 79), (.aload 0, 0, 0, 0, 0, 82), (.getfield 0, 12, 46, 0, 1477, 83), (.iload 4, 0, 0, 0, 0, 86), (.iconst 1, 0, 0, 0, 0, 88), (.iload 6, 0, 0, 0, 0, 89), (.ishl, 0, 0, 0, 0, 91), (.ior, 0, 0, 0, 0, 92), (.iload 6, 0, 0, 0, 0, 93), (.invokestatic 260, 2, 1, 12, 1829, 95), (.laload, 0, 0, 0, 0, 98), (.sipush 0, 0, 0, 0, 0, 99), (.lcmp, 0, 0, 0, 0, 100), (.ifCond .gt 0, 0, 2, 0, 0, 101), (.iinc 6 1, 0, 0, 0, 0, 104), (.goto 0, 1, 2, 0, 0, 107), (.aload 0, 0, 0, 0, 0, 110), (.iload 6, 0, 0, 0, 0, 111), (.invokevirtual 209, 2, 0, 12, 1785, 113), (.iload 4, 0, 0, 0, 0, 116), (.iconst 1, 0, 0, 0, 0, 118), (.iload 6, 0, 0, 0, 0, 119), (.ishl, 0, 0, 0, 0, 121), (.ior, 0, 0, 0, 0, 122), (.istore 4, 0, 0, 0, 0, 123), (.iload 6, 0, 0, 0, 0, 125), (.istore 5, 0, 0, 0, 0, 127), (.goto 0, 1, 1, 0, 0, 129), (.lload 2, 0, 0, 0, 0, 132), (.lreturn, 0, 0, 0, 0, 133)], [([true, true, true, true, true, true, true], 0), ([true, true, true, false, true, true, false], 21), ([true, true, true, false, true, true, true], 35)])
def T_X12_sure : jT := ([(.aload 0, 0, 0, 0, 0, 0), (.iconst 0, 0, 0, 0, 0, 1), (.putfield 0, 12, 20, 0, 1451, 2), (.aload 0, 0, 0, 0, 0, 5), (.iload 1, 0, 0, 0, 0, 6), (.invokevirtual 250, 2, 1, 12, 1773, 7), (.ifCond .eq 0, 0, 10, 0, 0, 10), (.iload 2, 0, 0, 0, 0, 13), (.iconst 0, 0, 0, 0, 0, 14), (.aload 0, 0, 0, 0, 0, 15), (.getfield 0, 12, 15, 0, 1446, 16), (.iload 1, 0, 0, 0, 0, 19), (.iaload, 0, 0, 0, 0, 20), (.iconst 1, 0, 0, 0, 0, 21), (.isub, 0, 0, 0, 0, 22), (.invokestatic 206, 3, 1, 12, 1605, 23), (.ifCond .ne 0, 0, 2, 0, 0, 26), (.iconst (-3), 0, 0, 0, 0, 29), (.ireturn, 0, 0, 0, 0, 31), (.aload 0, 0, 0, 0, 0, 32), (.iload 1, 0, 0, 0, 0, 33), (.invokevirtual 300, 2, 2, 12, 1980, 34), (.lstore 3, 0, 0, 0, 0, 37), (.aload 0, 0, 0, 0, 0, 38), (.getfield 0, 12, 14, 0, 1445, 39), (.iconst 10, 0, 0, 0, 0, 42), (.iload 1, 0, 0, 0, 0, 44), (.imul, 0, 0, 0, 0, 45), (.iload 2, 0, 0, 0, 0, 46), (.iadd, 0, 0, 0, 0, 47), (.iaload, 0, 0, 0, 0, 48), (.istore 5, 0, 0, 0, 0, 49), (.iconst 0, 0, 0, 0, 0, 51), (.istore 6, 0, 0, 0, 0, 52), (.iconst 0, 0, 0, 0, 0, 54), (.istore 7, 0, 0, 0, 0, 55), (.nop, 1, 0, 0, 0, 57), (.iload 7, 0, 0, 0, 0, 57), (.aload 0, 0, 0, 0, 0, 59), (.getfield 0, 12, 1, 0, 1432, 60), (.if_icmp .ge 0, 0, 34, 0, 0, 63), (.lload 3, 0, 0, 0, 0, 66), (.sipush 0, 0, 0, 0, 0, 67), (.lcmp, 0, 0, 0, 0, 68), (.ifCond .le 0, 0, 30, 0, 0, 69), (.iload 5, 0, 0, 0, 0, 72), (.iconst 99, 0, 0, 0, 0, 74), (.if_icmp .eq 0, 0, 4, 0, 0, 76), (.iload 5, 0, 0, 0, 0, 79), (.iload 7, 0, 0, 0, 0, 81), (.if_icmp .eq 0, 0, 1, 0, 0, 83), (.goto 0, 0, 21, 0, 0, 86), (.aload 0, 0, 0, 0, 0, 89), (.getfield 0, 12, 14, 0, 1445, 90), (.iconst 10, 0, 0, 0, 0, 93), (.iload 1, 0, 0, 0, 0, 95), (.imul, 0, 0, 0, 0, 96), (.iload 2, 0, 0, 0, 0, 97), (.iadd, 0, 0, 0, 0, 98), (.iload 7, 0, 0, 0, 0, 99), (.iastore, 0, 0, 0, 0, 101), (.aload 0, 0, 0, 0, 0, 102), (.iload 1, 0, 0, 0, 0, 103), (.invokevirtual 300, 2, 2, 12, 1980, 104), (.lload 3, 0, 0, 0, 0, 107), (.lcmp, 0, 0, 0, 0, 108), (.ifCond .ne 0, 0, 6, 0, 0, 109), (.iload 6, 0, 0, 0, 0, 112), (.iconst 1, 0, 0, 0, 0, 114), (.iload 7, 0, 0, 0, 0, 115), (.ishl, 0, 0, 0, 0, 117), (.ior, 0, 0, 0, 0, 118), (.istore 6, 0, 0, 0, 0, 119), (.iinc 7 1, 0, 0, 0, 0, 121), (.goto 0, 1, 1, 0, 0, 124), (.aload 0, 0, 0, 0, 0, 127), (.getfield 0, 12, 14, 0, 1445, 128), (.iconst 10, 0, 0, 0, 0, 131), (.iload 1, 0, 0, 0, 0, 133), (.imul, 0, 0, 0, 0, 134), (.iload 2, 0, 0, 0, 0, 135), (.iadd, 0, 0, 0, 0, 136), (.iload 5, 0, 0, 0, 0, 137), (.iastore, 0, 0, 0, 0, 139), (.iload 6, 0, 0, 0, 0, 140), (.ireturn, 0, 0, 0, 0, 142)], [([true, true, true, true, true, true, true, true], 0), ([true, true, true, true, false, true, true, true], 37)])
def T_X12_hearths : jT := ([(.aload 0, 0, 0, 0, 0, 0), (.iconst 0, 0, 0, 0, 0, 1), (.putfield 0, 12, 20, 0, 1451, 2), (.aload 0, 0, 0, 0, 0, 5), (.iload 1, 0, 0, 0, 0, 6), (.invokevirtual 251, 2, 1, 12, 1801, 7), (.ifCond .ne 0, 0, 2, 0, 0, 10), (.iconst (-3), 0, 0, 0, 0, 13), (.ireturn, 0, 0, 0, 0, 15), (.iconst 0, 0, 0, 0, 0, 16), (.istore 2, 0, 0, 0, 0, 17), (.iconst 0, 0, 0, 0, 0, 18), (.istore 3, 0, 0, 0, 0, 19), (.nop, 1, 0, 0, 0, 20), (.iload 3, 0, 0, 0, 0, 20), (.iconst 20, 0, 0, 0, 0, 21), (.if_icmp .ge 0, 0, 47, 0, 0, 23), (.iconst 0, 0, 0, 0, 0, 26), (.istore 4, 0, 0, 0, 0, 27), (.iconst 0, 0, 0, 0, 0, 29), (.istore 5, 0, 0, 0, 0, 30), (.nop, 2, 0, 0, 0, 32), (.iload 5, 0, 0, 0, 0, 32), (.aload 0, 0, 0, 0, 0, 34), (.getfield 0, 12, 15, 0, 1446, 35), (.iload 1, 0, 0, 0, 0, 38), (.iaload, 0, 0, 0, 0, 39), (.if_icmp .ge 0, 0, 30, 0, 0, 40), (.iload 4, 0, 0, 0, 0, 43), (.iload 3, 0, 0, 0, 0, 45), (.iconst 10, 0, 0, 0, 0, 46), (.iload 5, 0, 0, 0, 0, 48), (.iadd, 0, 0, 0, 0, 50), (.if_icmp .ge 0, 0, 19, 0, 0, 51), (.iload 3, 0, 0, 0, 0, 54), (.iconst 10, 0, 0, 0, 0, 55), (.iload 5, 0, 0, 0, 0, 57), (.iadd, 0, 0, 0, 0, 59), (.aload 0, 0, 0, 0, 0, 60), (.getfield 0, 12, 5, 0, 1436, 61), (.aload 0, 0, 0, 0, 0, 64), (.getfield 0, 12, 14, 0, 1445, 65), (.iconst 10, 0, 0, 0, 0, 68), (.iload 1, 0, 0, 0, 0, 70), (.imul, 0, 0, 0, 0, 71), (.iload 5, 0, 0, 0, 0, 72), (.iadd, 0, 0, 0, 0, 74), (.iaload, 0, 0, 0, 0, 75), (.iaload, 0, 0, 0, 0, 76), (.isub, 0, 0, 0, 0, 77), (.if_icmp .lt 0, 0, 2, 0, 0, 78), (.iconst 1, 0, 0, 0, 0, 81), (.goto 0, 0, 1, 0, 0, 82), (.iconst 0, 0, 0, 0, 0, 85), (.iadd, 0, 0, 0, 0, 86), (.istore 4, 0, 0, 0, 0, 87), (.iinc 5 1, 0, 0, 0, 0, 89), (.goto 0, 1, 2, 0, 0, 92), (.iload 2, 0, 0, 0, 0, 95), (.iload 4, 0, 0, 0, 0, 96), (.lmul, 0, 0, 0, 1694, 98), (.istore 2, 0, 0, 0, 0, 101), (.iinc 3 1, 0, 0, 0, 0, 102), (.goto 0, 1, 1, 0, 0, 105), (.aload 0, 0, 0, 0, 0, 108), (.iconst 0, 0, 0, 0, 0, 109), (.putfield 0, 12, 19, 0, 1450, 110), (.iconst 0, 0, 0, 0, 0, 113), (.istore 3, 0, 0, 0, 0, 114), (.nop, 3, 0, 0, 0, 115), (.iload 3, 0, 0, 0, 0, 115), (.aload 0, 0, 0, 0, 0, 116), (.getfield 0, 12, 15, 0, 1446, 117), (.iload 1, 0, 0, 0, 0, 120), (.iaload, 0, 0, 0, 0, 121), (.if_icmp .ge 0, 0, 19, 0, 0, 122), (.aload 0, 0, 0, 0, 0, 125), (.iconst 10, 0, 0, 0, 0, 126), (.iload 3, 0, 0, 0, 0, 128), (.iadd, 0, 0, 0, 0, 129), (.aload 0, 0, 0, 0, 0, 130), (.getfield 0, 12, 5, 0, 1436, 131), (.aload 0, 0, 0, 0, 0, 134), (.getfield 0, 12, 14, 0, 1445, 135), (.iconst 10, 0, 0, 0, 0, 138), (.iload 1, 0, 0, 0, 0, 140), (.imul, 0, 0, 0, 0, 141), (.iload 3, 0, 0, 0, 0, 142), (.iadd, 0, 0, 0, 0, 143), (.iaload, 0, 0, 0, 0, 144), (.iaload, 0, 0, 0, 0, 145), (.isub, 0, 0, 0, 0, 146), (.invokevirtual 209, 2, 0, 12, 1785, 147), (.iinc 3 1, 0, 0, 0, 0, 150), (.goto 0, 1, 3, 0, 0, 153), (.iload 2, 0, 0, 0, 0, 156), (.ireturn, 0, 0, 0, 0, 157)], [([true, true, true, true, true, true], 0), ([true, true, true, true, false, false], 14), ([true, true, true, true, true, true], 22), ([true, true, true, true, false, false], 70)])
def T_X12_late : jT := ([(.aload 0, 0, 0, 0, 0, 0), (.iconst 0, 0, 0, 0, 0, 1), (.putfield 0, 12, 20, 0, 1451, 2), (.iload 2, 0, 0, 0, 0, 5), (.iconst 1, 0, 0, 0, 0, 6), (.iconst 9, 0, 0, 0, 0, 7), (.invokestatic 206, 3, 1, 12, 1605, 9), (.ifCond .ne 0, 0, 2, 0, 0, 12), (.iconst (-1), 0, 0, 0, 0, 15), (.ireturn, 0, 0, 0, 0, 16), (.aload 0, 0, 0, 0, 0, 17), (.iload 1, 0, 0, 0, 0, 18), (.invokevirtual 251, 2, 1, 12, 1801, 19), (.ifCond .ne 0, 0, 2, 0, 0, 22), (.iconst (-3), 0, 0, 0, 0, 25), (.ireturn, 0, 0, 0, 0, 27), (.iconst 0, 0, 0, 0, 0, 28), (.istore 3, 0, 0, 0, 0, 29), (.nop, 1, 0, 0, 0, 30), (.iload 3, 0, 0, 0, 0, 30), (.iload 2, 0, 0, 0, 0, 31), (.if_icmp .ge 0, 0, 7, 0, 0, 32), (.aload 0, 0, 0, 0, 0, 35), (.getfield 0, 12, 47, 0, 1478, 36), (.iload 3, 0, 0, 0, 0, 39), (.iconst 0, 0, 0, 0, 0, 40), (.iastore, 0, 0, 0, 0, 41), (.iinc 3 1, 0, 0, 0, 0, 42), (.goto 0, 1, 1, 0, 0, 45), (.iconst 0, 0, 0, 0, 0, 48), (.istore 3, 0, 0, 0, 0, 49), (.aload 0, 0, 0, 0, 0, 50), (.iconst 0, 0, 0, 0, 0, 51), (.putfield 0, 12, 19, 0, 1450, 52), (.iconst 0, 0, 0, 0, 0, 55), (.istore 4, 0, 0, 0, 0, 56), (.nop, 2, 0, 0, 0, 58), (.iload 4, 0, 0, 0, 0, 58), (.aload 0, 0, 0, 0, 0, 60), (.getfield 0, 12, 15, 0, 1446, 61), (.iload 1, 0, 0, 0, 0, 64), (.iaload, 0, 0, 0, 0, 65), (.if_icmp .ge 0, 0, 58, 0, 0, 66), (.iconst 0, 0, 0, 0, 0, 69), (.istore 5, 0, 0, 0, 0, 70), (.iconst 1, 0, 0, 0, 0, 72), (.istore 6, 0, 0, 0, 0, 73), (.nop, 3, 0, 0, 0, 75), (.iload 6, 0, 0, 0, 0, 75), (.iload 2, 0, 0, 0, 0, 77), (.if_icmp .ge 0, 0, 13, 0, 0, 78), (.aload 0, 0, 0, 0, 0, 81), (.getfield 0, 12, 47, 0, 1478, 82), (.iload 6, 0, 0, 0, 0, 85), (.iaload, 0, 0, 0, 0, 87), (.aload 0, 0, 0, 0, 0, 88), (.getfield 0, 12, 47, 0, 1478, 89), (.iload 5, 0, 0, 0, 0, 92), (.iaload, 0, 0, 0, 0, 94), (.if_icmp .ge 0, 0, 2, 0, 0, 95), (.iload 6, 0, 0, 0, 0, 98), (.istore 5, 0, 0, 0, 0, 100), (.iinc 6 1, 0, 0, 0, 0, 102), (.goto 0, 1, 3, 0, 0, 105), (.aload 0, 0, 0, 0, 0, 108), (.getfield 0, 12, 47, 0, 1478, 109), (.iload 5, 0, 0, 0, 0, 112), (.dup2, 0, 0, 0, 0, 114), (.iaload, 0, 0, 0, 0, 115), (.aload 0, 0, 0, 0, 0, 116), (.getfield 0, 12, 5, 0, 1436, 117), (.aload 0, 0, 0, 0, 0, 120), (.getfield 0, 12, 14, 0, 1445, 121), (.iconst 10, 0, 0, 0, 0, 124), (.iload 1, 0, 0, 0, 0, 126), (.imul, 0, 0, 0, 0, 127), (.iload 4, 0, 0, 0, 0, 128), (.iadd, 0, 0, 0, 0, 130), (.iaload, 0, 0, 0, 0, 131), (.iaload, 0, 0, 0, 0, 132), (.iadd, 0, 0, 0, 0, 133), (.iastore, 0, 0, 0, 0, 134), (.aload 0, 0, 0, 0, 0, 135), (.aload 0, 0, 0, 0, 0, 136), (.getfield 0, 12, 47, 0, 1478, 137), (.iload 5, 0, 0, 0, 0, 140), (.iaload, 0, 0, 0, 0, 142), (.invokevirtual 209, 2, 0, 12, 1785, 143), (.iload 3, 0, 0, 0, 0, 146), (.aload 0, 0, 0, 0, 0, 147), (.getfield 0, 12, 47, 0, 1478, 148), (.iload 5, 0, 0, 0, 0, 151), (.iaload, 0, 0, 0, 0, 153), (.iconst 10, 0, 0, 0, 0, 154), (.isub, 0, 0, 0, 0, 156), (.iload 4, 0, 0, 0, 0, 157), (.isub, 0, 0, 0, 0, 159), (.lmul, 0, 0, 0, 1694, 160), (.istore 3, 0, 0, 0, 0, 163), (.iinc 4 1, 0, 0, 0, 0, 164), (.goto 0, 1, 2, 0, 0, 167), (.iload 3, 0, 0, 0, 0, 170), (.ireturn, 0, 0, 0, 0, 171)], [([true, true, true, true, true, true, true], 0), ([true, true, true, true, false, false, false], 19), ([true, true, true, true, true, false, false], 37), ([true, true, true, true, true, true, true], 48)])
def T_X12_ateOf : jT := ([(.iconst 0, 0, 0, 0, 0, 0), (.istore 3, 0, 0, 0, 0, 1), (.iconst 0, 0, 0, 0, 0, 2), (.istore 4, 0, 0, 0, 0, 3), (.nop, 1, 0, 0, 0, 5), (.iload 4, 0, 0, 0, 0, 5), (.aload 0, 0, 0, 0, 0, 7), (.getfield 0, 12, 15, 0, 1446, 8), (.iload 1, 0, 0, 0, 0, 11), (.iaload, 0, 0, 0, 0, 12), (.if_icmp .ge 0, 0, 30, 0, 0, 13), (.iload 3, 0, 0, 0, 0, 16), (.aload 0, 0, 0, 0, 0, 17), (.iload 2, 0, 0, 0, 0, 18), (.aload 0, 0, 0, 0, 0, 19), (.getfield 0, 12, 14, 0, 1445, 20), (.iconst 10, 0, 0, 0, 0, 23), (.iload 1, 0, 0, 0, 0, 25), (.imul, 0, 0, 0, 0, 26), (.iload 4, 0, 0, 0, 0, 27), (.iadd, 0, 0, 0, 0, 29), (.iaload, 0, 0, 0, 0, 30), (.invokevirtual 231, 3, 1, 12, 1681, 31), (.ifCond .eq 0, 0, 2, 0, 0, 34), (.iconst 0, 0, 0, 0, 0, 37), (.goto 0, 0, 11, 0, 0, 38), (.aload 0, 0, 0, 0, 0, 41), (.getfield 0, 12, 2, 0, 1433, 42), (.aload 0, 0, 0, 0, 0, 45), (.getfield 0, 12, 14, 0, 1445, 46), (.iconst 10, 0, 0, 0, 0, 49), (.iload 1, 0, 0, 0, 0, 51), (.imul, 0, 0, 0, 0, 52), (.iload 4, 0, 0, 0, 0, 53), (.iadd, 0, 0, 0, 0, 55), (.iaload, 0, 0, 0, 0, 56), (.iaload, 0, 0, 0, 0, 57), (.ior, 0, 0, 0, 0, 58), (.istore 3, 0, 0, 0, 0, 59), (.iinc 4 1, 0, 0, 0, 0, 60), (.goto 0, 1, 1, 0, 0, 63), (.iload 3, 0, 0, 0, 0, 66), (.ireturn, 0, 0, 0, 0, 67)], [([true, true, true, true, true], 0), ([true, true, true, true, true], 5)])
def T_X12_poison : jT := ([(.aload 0, 0, 0, 0, 0, 0), (.iconst 0, 0, 0, 0, 0, 1), (.putfield 0, 12, 20, 0, 1451, 2), (.iload 2, 0, 0, 0, 0, 5), (.iconst 0, 0, 0, 0, 0, 6), (.iconst 1, 0, 0, 0, 0, 7), (.aload 0, 0, 0, 0, 0, 8), (.getfield 0, 12, 6, 0, 1437, 9), (.ishl, 0, 0, 0, 0, 12), (.iconst 1, 0, 0, 0, 0, 13), (.isub, 0, 0, 0, 0, 14), (.invokestatic 206, 3, 1, 12, 1605, 15), (.ifCond .ne 0, 0, 2, 0, 0, 18), (.iconst (-1), 0, 0, 0, 0, 21), (.ireturn, 0, 0, 0, 0, 22), (.aload 0, 0, 0, 0, 0, 23), (.iload 1, 0, 0, 0, 0, 24), (.invokevirtual 251, 2, 1, 12, 1801, 25), (.ifCond .ne 0, 0, 2, 0, 0, 28), (.iconst (-3), 0, 0, 0, 0, 31), (.ireturn, 0, 0, 0, 0, 33), (.iconst 255, 0, 0, 0, 0, 34), (.istore 3, 0, 0, 0, 0, 37), (.iconst 0, 0, 0, 0, 0, 38), (.istore 4, 0, 0, 0, 0, 39), (.nop, 1, 0, 0, 0, 41), (.iload 4, 0, 0, 0, 0, 41), (.aload 0, 0, 0, 0, 0, 43), (.getfield 0, 12, 6, 0, 1437, 44), (.if_icmp .ge 0, 0, 20, 0, 0, 47), (.iload 3, 0, 0, 0, 0, 50), (.iload 2, 0, 0, 0, 0, 51), (.iload 4, 0, 0, 0, 0, 52), (.invokestatic 207, 2, 1, 12, 1738, 54), (.ifCond .eq 0, 0, 5, 0, 0, 57), (.aload 0, 0, 0, 0, 0, 60), (.iload 1, 0, 0, 0, 0, 61), (.iload 4, 0, 0, 0, 0, 62), (.invokevirtual 306, 3, 1, 12, 2004, 64), (.goto 0, 0, 6, 0, 0, 67), (.aload 0, 0, 0, 0, 0, 70), (.iload 1, 0, 0, 0, 0, 71), (.iload 4, 0, 0, 0, 0, 72), (.invokevirtual 306, 3, 1, 12, 2004, 74), (.iconst (-1), 0, 0, 0, 0, 77), (.ixor, 0, 0, 0, 0, 78), (.iand, 0, 0, 0, 0, 79), (.istore 3, 0, 0, 0, 0, 80), (.iinc 4 1, 0, 0, 0, 0, 81), (.goto 0, 1, 1, 0, 0, 84), (.iload 3, 0, 0, 0, 0, 87), (.ireturn, 0, 0, 0, 0, 88)], [([true, true, true, true, true], 0), ([true, true, true, true, true], 26)])
def T_X12_eats : jT := ([(.aload 0, 0, 0, 0, 0, 0), (.iconst 0, 0, 0, 0, 0, 1), (.putfield 0, 12, 20, 0, 1451, 2), (.aload 0, 0, 0, 0, 0, 5), (.iload 2, 0, 0, 0, 0, 6), (.invokevirtual 211, 2, 1, 12, 1699, 7), (.ifCond .ne 0, 0, 2, 0, 0, 10), (.iconst (-1), 0, 0, 0, 0, 13), (.ireturn, 0, 0, 0, 0, 14), (.aload 0, 0, 0, 0, 0, 15), (.iload 1, 0, 0, 0, 0, 16), (.invokevirtual 251, 2, 1, 12, 1801, 17), (.ifCond .ne 0, 0, 2, 0, 0, 20), (.iconst (-3), 0, 0, 0, 0, 23), (.ireturn, 0, 0, 0, 0, 25), (.iconst 0, 0, 0, 0, 0, 26), (.istore 3, 0, 0, 0, 0, 27), (.iconst 0, 0, 0, 0, 0, 28), (.istore 4, 0, 0, 0, 0, 29), (.iconst 0, 0, 0, 0, 0, 31), (.istore 5, 0, 0, 0, 0, 32), (.iconst 0, 0, 0, 0, 0, 34), (.istore 6, 0, 0, 0, 0, 35), (.nop, 1, 0, 0, 0, 37), (.iload 6, 0, 0, 0, 0, 37), (.aload 0, 0, 0, 0, 0, 39), (.getfield 0, 12, 15, 0, 1446, 40), (.iload 1, 0, 0, 0, 0, 43), (.iaload, 0, 0, 0, 0, 44), (.if_icmp .ge 0, 0, 31, 0, 0, 45), (.aload 0, 0, 0, 0, 0, 48), (.getfield 0, 12, 14, 0, 1445, 49), (.iconst 10, 0, 0, 0, 0, 52), (.iload 1, 0, 0, 0, 0, 54), (.imul, 0, 0, 0, 0, 55), (.iload 6, 0, 0, 0, 0, 56), (.iadd, 0, 0, 0, 0, 58), (.iaload, 0, 0, 0, 0, 59), (.istore 7, 0, 0, 0, 0, 60), (.aload 0, 0, 0, 0, 0, 62), (.iload 2, 0, 0, 0, 0, 63), (.iload 7, 0, 0, 0, 0, 64), (.invokevirtual 231, 3, 1, 12, 1681, 66), (.ifCond .eq 0, 0, 1, 0, 0, 69), (.goto 0, 0, 14, 0, 0, 72), (.iinc 3 1, 0, 0, 0, 0, 75), (.iload 4, 0, 0, 0, 0, 78), (.iconst 1, 0, 0, 0, 0, 80), (.iload 6, 0, 0, 0, 0, 81), (.ishl, 0, 0, 0, 0, 83), (.ior, 0, 0, 0, 0, 84), (.istore 4, 0, 0, 0, 0, 85), (.iload 5, 0, 0, 0, 0, 87), (.aload 0, 0, 0, 0, 0, 89), (.iload 2, 0, 0, 0, 0, 90), (.iload 7, 0, 0, 0, 0, 91), (.invokevirtual 229, 3, 1, 12, 1689, 93), (.iadd, 0, 0, 0, 0, 96), (.istore 5, 0, 0, 0, 0, 97), (.iinc 6 1, 0, 0, 0, 0, 99), (.goto 0, 1, 1, 0, 0, 102), (.aload 0, 0, 0, 0, 0, 105), (.iconst 0, 0, 0, 0, 0, 106), (.putfield 0, 12, 19, 0, 1450, 107), (.aload 0, 0, 0, 0, 0, 110), (.iload 4, 0, 0, 0, 0, 111), (.invokevirtual 209, 2, 0, 12, 1785, 113), (.aload 0, 0, 0, 0, 0, 116), (.aload 0, 0, 0, 0, 0, 117), (.iload 1, 0, 0, 0, 0, 118), (.iload 2, 0, 0, 0, 0, 119), (.invokevirtual 306, 3, 1, 12, 2004, 120), (.invokevirtual 209, 2, 0, 12, 1785, 123), (.aload 0, 0, 0, 0, 0, 126), (.iload 5, 0, 0, 0, 0, 127), (.invokevirtual 209, 2, 0, 12, 1785, 129), (.iload 3, 0, 0, 0, 0, 132), (.ireturn, 0, 0, 0, 0, 133)], [([true, true, true, true, true, true, true, true], 0), ([true, true, true, true, true, true, true, false], 24)])
def T_X12_canAll : jT := ([(.iconst 1, 0, 0, 0, 0, 0), (.iload 1, 0, 0, 0, 0, 1), (.ishl, 0, 0, 0, 0, 2), (.iconst 1, 0, 0, 0, 0, 3), (.isub, 0, 0, 0, 0, 4), (.istore 2, 0, 0, 0, 0, 5), (.iconst 0, 0, 0, 0, 0, 6), (.istore 3, 0, 0, 0, 0, 7), (.iconst 0, 0, 0, 0, 0, 8), (.istore 4, 0, 0, 0, 0, 9), (.nop, 1, 0, 0, 0, 11), (.iload 4, 0, 0, 0, 0, 11), (.iload 1, 0, 0, 0, 0, 13), (.if_icmp .ge 0, 0, 15, 0, 0, 14), (.iload 3, 0, 0, 0, 0, 17), (.aload 0, 0, 0, 0, 0, 18), (.getfield 0, 12, 4, 0, 1435, 19), (.iload 4, 0, 0, 0, 0, 22), (.baload, 22, 0, 0, 0, 24), (.ifCond .eq 0, 0, 4, 0, 0, 25), (.iconst 1, 0, 0, 0, 0, 28), (.iload 4, 0, 0, 0, 0, 29), (.ishl, 0, 0, 0, 0, 31), (.goto 0, 0, 1, 0, 0, 32), (.iconst 0, 0, 0, 0, 0, 35), (.ior, 0, 0, 0, 0, 36), (.istore 3, 0, 0, 0, 0, 37), (.iinc 4 1, 0, 0, 0, 0, 38), (.goto 0, 1, 1, 0, 0, 41), (.iconst 0, 0, 0, 0, 0, 44), (.istore 4, 0, 0, 0, 0, 45), (.nop, 2, 0, 0, 0, 47), (.iload 4, 0, 0, 0, 0, 47), (.iconst 8, 0, 0, 0, 0, 49), (.if_icmp .ge 0, 0, 37, 0, 0, 51), (.iconst 0, 0, 0, 0, 0, 54), (.istore 5, 0, 0, 0, 0, 55), (.iconst 0, 0, 0, 0, 0, 57), (.istore 6, 0, 0, 0, 0, 58), (.nop, 3, 0, 0, 0, 60), (.iload 6, 0, 0, 0, 0, 60), (.iload 1, 0, 0, 0, 0, 62), (.if_icmp .ge 0, 0, 15, 0, 0, 63), (.iload 5, 0, 0, 0, 0, 66), (.aload 0, 0, 0, 0, 0, 68), (.getfield 0, 12, 2, 0, 1433, 69), (.iload 6, 0, 0, 0, 0, 72), (.iaload, 0, 0, 0, 0, 74), (.iload 4, 0, 0, 0, 0, 75), (.invokestatic 207, 2, 1, 12, 1738, 77), (.ifCond .eq 0, 0, 2, 0, 0, 80), (.iconst 1, 0, 0, 0, 0, 83), (.goto 0, 0, 1, 0, 0, 84), (.iconst 0, 0, 0, 0, 0, 87), (.iadd, 0, 0, 0, 0, 88), (.istore 5, 0, 0, 0, 0, 89), (.iinc 6 1, 0, 0, 0, 0, 91), (.goto 0, 1, 3, 0, 0, 94), (.iload 5, 0, 0, 0, 0, 97), (.aload 0, 0, 0, 0, 0, 99), (.getfield 0, 12, 10, 0, 1441, 100), (.if_icmp .gt 0, 0, 6, 0, 0, 103), (.iload 5, 0, 0, 0, 0, 106), (.aload 0, 0, 0, 0, 0, 108), (.getfield 0, 12, 0, 0, 1431, 109), (.iload 4, 0, 0, 0, 0, 112), (.iaload, 0, 0, 0, 0, 114), (.if_icmp .le 0, 0, 2, 0, 0, 115), (.iconst 0, 0, 0, 0, 0, 118), (.ireturn, 1, 0, 0, 0, 119), (.iinc 4 1, 0, 0, 0, 0, 120), (.goto 0, 1, 2, 0, 0, 123), (.iconst 0, 0, 0, 0, 0, 126), (.istore 4, 0, 0, 0, 0, 127), (.nop, 4, 0, 0, 0, 129), (.iload 4, 0, 0, 0, 0, 129), (.iload 2, 0, 0, 0, 0, 131), (.if_icmp .gt 0, 0, 7, 0, 0, 132), (.aload 0, 0, 0, 0, 0, 135), (.getfield 0, 12, 48, 0, 1479, 136), (.iload 4, 0, 0, 0, 0, 139), (.iconst 0, 0, 0, 0, 0, 141), (.iastore, 0, 0, 0, 0, 142), (.iinc 4 1, 0, 0, 0, 0, 143), (.goto 0, 1, 4, 0, 0, 146), (.iconst 0, 0, 0, 0, 0, 149), (.istore 4, 0, 0, 0, 0, 150), (.nop, 5, 0, 0, 0, 152), (.iload 4, 0, 0, 0, 0, 152), (.iload 2, 0, 0, 0, 0, 154), (.if_icmp .ge 0, 0, 91, 0, 0, 155), (.iconst 0, 0, 0, 0, 0, 158), (.istore 5, 0, 0, 0, 0, 159), (.nop, 6, 0, 0, 0, 161), (.iload 5, 0, 0, 0, 0, 161), (.iload 1, 0, 0, 0, 0, 163), (.if_icmp .ge 0, 0, 83, 0, 0, 164), (.iload 4, 0, 0, 0, 0, 167), (.iload 5, 0, 0, 0, 0, 169), (.invokestatic 207, 2, 1, 12, 1738, 171), (.ifCond .ne 0, 0, 77, 0, 0, 174), (.aload 0, 0, 0, 0, 0, 177), (.getfield 0, 12, 11, 0, 1442, 178), (.iconst 1, 0, 0, 0, 0, 181), (.if_icmp .ne 0, 0, 10, 0, 0, 182), (.aload 0, 0, 0, 0, 0, 185), (.getfield 0, 12, 4, 0, 1435, 186), (.iload 5, 0, 0, 0, 0, 189), (.baload, 22, 0, 0, 0, 191), (.ifCond .ne 0, 0, 5, 0, 0, 192), (.iload 4, 0, 0, 0, 0, 195), (.iload 3, 0, 0, 0, 0, 197), (.iand, 0, 0, 0, 0, 198), (.ifCond .eq 0, 0, 1, 0, 0, 199), (.goto 0, 0, 63, 0, 0, 202), (.iload 4, 0, 0, 0, 0, 205), (.ifCond .ne 0, 0, 2, 0, 0, 207), (.iconst 1, 0, 0, 0, 0, 210), (.goto 0, 0, 1, 0, 0, 211), (.iconst 0, 0, 0, 0, 0, 214), (.istore 6, 0, 0, 0, 0, 215), (.iconst 0, 0, 0, 0, 0, 217), (.istore 7, 0, 0, 0, 0, 218), (.nop, 7, 0, 0, 0, 220), (.iload 7, 0, 0, 0, 0, 220), (.iload 1, 0, 0, 0, 0, 222), (.if_icmp .ge 0, 0, 35, 0, 0, 223), (.iload 6, 0, 0, 0, 0, 226), (.ifCond .ne 0, 0, 33, 0, 0, 228), (.aload 0, 0, 0, 0, 0, 231), (.getfield 0, 12, 48, 0, 1479, 232), (.iload 4, 0, 0, 0, 0, 235), (.iaload, 0, 0, 0, 0, 237), (.iload 7, 0, 0, 0, 0, 238), (.invokestatic 207, 2, 1, 12, 1738, 240), (.ifCond .eq 0, 0, 22, 0, 0, 243), (.aload 0, 0, 0, 0, 0, 246), (.iload 7, 0, 0, 0, 0, 247), (.iload 5, 0, 0, 0, 0, 249), (.invokevirtual 239, 3, 1, 12, 1741, 251), (.aload 0, 0, 0, 0, 0, 254), (.getfield 0, 12, 9, 0, 1440, 255), (.if_icmp .lt 0, 0, 15, 0, 0, 258), (.aload 0, 0, 0, 0, 0, 261), (.getfield 0, 12, 11, 0, 1442, 262), (.iconst 2, 0, 0, 0, 0, 265), (.if_icmp .ne 0, 0, 9, 0, 0, 266), (.aload 0, 0, 0, 0, 0, 269), (.getfield 0, 12, 4, 0, 1435, 270), (.iload 7, 0, 0, 0, 0, 273), (.baload, 22, 0, 0, 0, 275), (.aload 0, 0, 0, 0, 0, 276), (.getfield 0, 12, 4, 0, 1435, 277), (.iload 5, 0, 0, 0, 0, 280), (.baload, 22, 0, 0, 0, 282), (.if_icmp .eq 0, 0, 2, 0, 0, 283), (.iconst 1, 0, 0, 0, 0, 286), (.goto 0, 0, 1, 0, 0, 287), (.iconst 0, 0, 0, 0, 0, 290), (.istore 6, 0, 0, 0, 0, 291), (.iinc 7 1, 0, 0, 0, 0, 293), (.goto 0, 1, 7, 0, 0, 296), (.iload 6, 0, 0, 0, 0, 299), (.ifCond .eq 0, 0, 14, 0, 0, 301), (.aload 0, 0, 0, 0, 0, 304), (.getfield 0, 12, 48, 0, 1479, 305), (.iload 4, 0, 0, 0, 0, 308), (.iconst 1, 0, 0, 0, 0, 310), (.iload 5, 0, 0, 0, 0, 311), (.ishl, 0, 0, 0, 0, 313), (.ior, 0, 0, 0, 0, 314), (.dup2, 0, 0, 0, 0, 315), (.iaload, 0, 0, 0, 0, 316), (.iconst 1, 0, 0, 0, 0, 317), (.iload 5, 0, 0, 0, 0, 318), (.ishl, 0, 0, 0, 0, 320), (.ior, 0, 0, 0, 0, 321), (.iastore, 0, 0, 0, 0, 322), (.iinc 5 1, 0, 0, 0, 0, 323), (.goto 0, 1, 6, 0, 0, 326), (.iinc 4 1, 0, 0, 0, 0, 329), (.goto 0, 1, 5, 0, 0, 332), (.iload 1, 0, 0, 0, 0, 335), (.ifCond .eq 0, 0, 5, 0, 0, 336), (.aload 0, 0, 0, 0, 0, 339), (.getfield 0, 12, 48, 0, 1479, 340), (.iload 2, 0, 0, 0, 0, 343), (.iaload, 0, 0, 0, 0, 344), (.ifCond .eq 0, 0, 2, 0, 0, 345), (.iconst 1, 0, 0, 0, 0, 348), (.goto 0, 0, 1, 0, 0, 349), (.iconst 0, 0, 0, 0, 0, 352), (.ireturn, 1, 0, 0, 0, 353)], [([true, true, true, true, true, true, true, true], 0), ([true, true, true, true, true, false, false, false], 11), ([true, true, true, true, true, false, false, false], 32), ([true, true, true, true, true, true, true, false], 40), ([true, true, true, true, true, false, false, false], 75), ([true, true, true, true, true, false, false, false], 88), ([true, true, true, true, true, true, false, false], 94), ([true, true, true, true, true, true, true, true], 124)])
def T_X12_made : jT := ([(.aload 0, 0, 0, 0, 0, 0), (.iconst 0, 0, 0, 0, 0, 1), (.putfield 0, 12, 20, 0, 1451, 2), (.aload 0, 0, 0, 0, 0, 5), (.aload 0, 0, 0, 0, 0, 6), (.getfield 0, 12, 1, 0, 1432, 7), (.invokevirtual 309, 2, 1, 12, 2016, 10), (.ifCond .eq 0, 0, 8, 0, 0, 13), (.aload 0, 0, 0, 0, 0, 16), (.iconst 0, 0, 0, 0, 0, 17), (.putfield 0, 12, 19, 0, 1450, 18), (.aload 0, 0, 0, 0, 0, 21), (.iconst 0, 0, 0, 0, 0, 22), (.invokevirtual 209, 2, 0, 12, 1785, 23), (.iconst 0, 0, 0, 0, 0, 26), (.ireturn, 0, 0, 0, 0, 27), (.aload 0, 0, 0, 0, 0, 28), (.getfield 0, 12, 4, 0, 1435, 29), (.aload 0, 0, 0, 0, 0, 32), (.getfield 0, 12, 1, 0, 1432, 33), (.iconst 0, 0, 0, 0, 0, 36), (.bastore, 22, 0, 0, 0, 37), (.aload 0, 0, 0, 0, 0, 38), (.getfield 0, 12, 3, 0, 1434, 39), (.aload 0, 0, 0, 0, 0, 42), (.getfield 0, 12, 1, 0, 1432, 43), (.iconst 0, 0, 0, 0, 0, 46), (.iastore, 0, 0, 0, 0, 47), (.iconst (-1), 0, 0, 0, 0, 48), (.istore 1, 0, 0, 0, 0, 49), (.iconst 1, 0, 0, 0, 0, 50), (.istore 2, 0, 0, 0, 0, 51), (.nop, 1, 0, 0, 0, 52), (.iload 2, 0, 0, 0, 0, 52), (.iconst 256, 0, 0, 0, 0, 53), (.if_icmp .ge 0, 0, 26, 0, 0, 56), (.iload 1, 0, 0, 0, 0, 59), (.iconst (-1), 0, 0, 0, 0, 60), (.if_icmp .eq 0, 0, 6, 0, 0, 61), (.iload 2, 0, 0, 0, 0, 64), (.invokestatic 0, 1, 1, 0, 1668, 65), (.iload 1, 0, 0, 0, 0, 68), (.invokestatic 0, 1, 1, 0, 1668, 69), (.if_icmp .lt 0, 0, 1, 0, 0, 72), (.goto 0, 0, 15, 0, 0, 75), (.aload 0, 0, 0, 0, 0, 78), (.getfield 0, 12, 2, 0, 1433, 79), (.aload 0, 0, 0, 0, 0, 82), (.getfield 0, 12, 1, 0, 1432, 83), (.iload 2, 0, 0, 0, 0, 86), (.iastore, 0, 0, 0, 0, 87), (.aload 0, 0, 0, 0, 0, 88), (.aload 0, 0, 0, 0, 0, 89), (.getfield 0, 12, 1, 0, 1432, 90), (.iconst 1, 0, 0, 0, 0, 93), (.iadd, 0, 0, 0, 0, 94), (.invokevirtual 309, 2, 1, 12, 2016, 95), (.ifCond .eq 0, 0, 2, 0, 0, 98), (.iload 2, 0, 0, 0, 0, 101), (.istore 1, 0, 0, 0, 0, 102), (.iinc 2 1, 0, 0, 0, 0, 103), (.goto 0, 1, 1, 0, 0, 106), (.iload 1, 0, 0, 0, 0, 109), (.iconst (-1), 0, 0, 0, 0, 110), (.if_icmp .ne 0, 0, 2, 0, 0, 111), (.iconst (-2), 0, 0, 0, 0, 114), (.ireturn, 0, 0, 0, 0, 116), (.aload 0, 0, 0, 0, 0, 117), (.iconst 0, 0, 0, 0, 0, 118), (.putfield 0, 12, 19, 0, 1450, 119), (.aload 0, 0, 0, 0, 0, 122), (.iload 1, 0, 0, 0, 0, 123), (.invokevirtual 209, 2, 0, 12, 1785, 124), (.iload 1, 0, 0, 0, 0, 127), (.invokestatic 0, 1, 1, 0, 1668, 128), (.ireturn, 0, 0, 0, 0, 131)], [([true, true, true], 0), ([true, true, true], 33)])
def T_X12_keep : jT := ([(.aload 0, 0, 0, 0, 0, 0), (.iconst 0, 0, 0, 0, 0, 1), (.putfield 0, 12, 20, 0, 1451, 2), (.iload 1, 0, 0, 0, 0, 5), (.iconst 0, 0, 0, 0, 0, 6), (.iconst 1, 0, 0, 0, 0, 7), (.invokestatic 206, 3, 1, 12, 1605, 8), (.ifCond .ne 0, 0, 2, 0, 0, 11), (.iconst 0, 0, 0, 0, 0, 14), (.ireturn, 1, 0, 0, 0, 15), (.aload 0, 0, 0, 0, 0, 16), (.getfield 0, 12, 51, 0, 1482, 17), (.iload 1, 0, 0, 0, 0, 20), (.iconst 1, 0, 0, 0, 0, 21), (.bastore, 22, 0, 0, 0, 22), (.aload 0, 0, 0, 0, 0, 23), (.getfield 0, 12, 52, 0, 1483, 24), (.iload 1, 0, 0, 0, 0, 27), (.aload 0, 0, 0, 0, 0, 28), (.getfield 0, 12, 49, 0, 1480, 29), (.iastore, 0, 0, 0, 0, 32), (.iconst 22, 0, 0, 0, 0, 33), (.iload 1, 0, 0, 0, 0, 35), (.imul, 0, 0, 0, 0, 36), (.istore 2, 0, 0, 0, 0, 37), (.iconst 0, 0, 0, 0, 0, 38), (.istore 3, 0, 0, 0, 0, 39), (.nop, 1, 0, 0, 0, 40), (.iload 3, 0, 0, 0, 0, 40), (.iconst 10, 0, 0, 0, 0, 41), (.if_icmp .ge 0, 0, 12, 0, 0, 43), (.aload 0, 0, 0, 0, 0, 46), (.getfield 0, 12, 50, 0, 1481, 47), (.iload 2, 0, 0, 0, 0, 50), (.iload 3, 0, 0, 0, 0, 51), (.iadd, 0, 0, 0, 0, 52), (.aload 0, 0, 0, 0, 0, 53), (.getfield 0, 12, 12, 0, 1443, 54), (.iload 3, 0, 0, 0, 0, 57), (.iaload, 0, 0, 0, 0, 58), (.iastore, 0, 0, 0, 0, 59), (.iinc 3 1, 0, 0, 0, 0, 60), (.goto 0, 1, 1, 0, 0, 63), (.aload 0, 0, 0, 0, 0, 66), (.getfield 0, 12, 50, 0, 1481, 67), (.iload 2, 0, 0, 0, 0, 70), (.iconst 10, 0, 0, 0, 0, 71), (.iadd, 0, 0, 0, 0, 73), (.aload 0, 0, 0, 0, 0, 74), (.getfield 0, 12, 13, 0, 1444, 75), (.iastore, 0, 0, 0, 0, 78), (.iconst 0, 0, 0, 0, 0, 79), (.istore 3, 0, 0, 0, 0, 80), (.nop, 2, 0, 0, 0, 81), (.iload 3, 0, 0, 0, 0, 81), (.iconst 8, 0, 0, 0, 0, 82), (.if_icmp .ge 0, 0, 16, 0, 0, 84), (.aload 0, 0, 0, 0, 0, 87), (.getfield 0, 12, 50, 0, 1481, 88), (.iload 2, 0, 0, 0, 0, 91), (.iconst 10, 0, 0, 0, 0, 92), (.iadd, 0, 0, 0, 0, 94), (.iconst 1, 0, 0, 0, 0, 95), (.iadd, 0, 0, 0, 0, 96), (.iload 3, 0, 0, 0, 0, 97), (.iadd, 0, 0, 0, 0, 98), (.aload 0, 0, 0, 0, 0, 99), (.getfield 0, 12, 0, 0, 1431, 100), (.iload 3, 0, 0, 0, 0, 103), (.iaload, 0, 0, 0, 0, 104), (.iastore, 0, 0, 0, 0, 105), (.iinc 3 1, 0, 0, 0, 0, 106), (.goto 0, 1, 2, 0, 0, 109), (.iinc 2 19, 0, 0, 0, 0, 112), (.aload 0, 0, 0, 0, 0, 115), (.getfield 0, 12, 50, 0, 1481, 116), (.iload 2, 0, 0, 0, 0, 119), (.aload 0, 0, 0, 0, 0, 120), (.getfield 0, 12, 9, 0, 1440, 121), (.iastore, 0, 0, 0, 0, 124), (.aload 0, 0, 0, 0, 0, 125), (.getfield 0, 12, 50, 0, 1481, 126), (.iload 2, 0, 0, 0, 0, 129), (.iconst 1, 0, 0, 0, 0, 130), (.iadd, 0, 0, 0, 0, 131), (.aload 0, 0, 0, 0, 0, 132), (.getfield 0, 12, 10, 0, 1441, 133), (.iastore, 0, 0, 0, 0, 136), (.aload 0, 0, 0, 0, 0, 137), (.getfield 0, 12, 50, 0, 1481, 138), (.iload 2, 0, 0, 0, 0, 141), (.iconst 2, 0, 0, 0, 0, 142), (.iadd, 0, 0, 0, 0, 143), (.aload 0, 0, 0, 0, 0, 144), (.getfield 0, 12, 11, 0, 1442, 145), (.iastore, 0, 0, 0, 0, 148), (.iconst 1, 0, 0, 0, 0, 149), (.ireturn, 1, 0, 0, 0, 150)], [([true, true, true, true], 0), ([true, false, true, true], 28), ([true, false, true, true], 54)])
def T_X12_again : jT := ([(.aload 0, 0, 0, 0, 0, 0), (.iconst 0, 0, 0, 0, 0, 1), (.putfield 0, 12, 20, 0, 1451, 2), (.iload 1, 0, 0, 0, 0, 5), (.iconst 0, 0, 0, 0, 0, 6), (.iconst 1, 0, 0, 0, 0, 7), (.invokestatic 206, 3, 1, 12, 1605, 8), (.ifCond .eq 0, 0, 12, 0, 0, 11), (.aload 0, 0, 0, 0, 0, 14), (.getfield 0, 12, 51, 0, 1482, 15), (.iload 1, 0, 0, 0, 0, 18), (.baload, 22, 0, 0, 0, 19), (.ifCond .eq 0, 0, 7, 0, 0, 20), (.aload 0, 0, 0, 0, 0, 23), (.getfield 0, 12, 52, 0, 1483, 24), (.iload 1, 0, 0, 0, 0, 27), (.iaload, 0, 0, 0, 0, 28), (.aload 0, 0, 0, 0, 0, 29), (.getfield 0, 12, 49, 0, 1480, 30), (.if_icmp .eq 0, 0, 2, 0, 0, 33), (.iconst 0, 0, 0, 0, 0, 36), (.ireturn, 1, 0, 0, 0, 37), (.iconst 22, 0, 0, 0, 0, 38), (.iload 1, 0, 0, 0, 0, 40), (.imul, 0, 0, 0, 0, 41), (.istore 2, 0, 0, 0, 0, 42), (.iconst 0, 0, 0, 0, 0, 43), (.istore 3, 0, 0, 0, 0, 44), (.nop, 1, 0, 0, 0, 45), (.iload 3, 0, 0, 0, 0, 45), (.iconst 10, 0, 0, 0, 0, 46), (.if_icmp .ge 0, 0, 12, 0, 0, 48), (.aload 0, 0, 0, 0, 0, 51), (.getfield 0, 12, 12, 0, 1443, 52), (.iload 3, 0, 0, 0, 0, 55), (.aload 0, 0, 0, 0, 0, 56), (.getfield 0, 12, 50, 0, 1481, 57), (.iload 2, 0, 0, 0, 0, 60), (.iload 3, 0, 0, 0, 0, 61), (.iadd, 0, 0, 0, 0, 62), (.iaload, 0, 0, 0, 0, 63), (.iastore, 0, 0, 0, 0, 64), (.iinc 3 1, 0, 0, 0, 0, 65), (.goto 0, 1, 1, 0, 0, 68), (.aload 0, 0, 0, 0, 0, 71), (.aload 0, 0, 0, 0, 0, 72), (.getfield 0, 12, 50, 0, 1481, 73), (.iload 2, 0, 0, 0, 0, 76), (.iconst 10, 0, 0, 0, 0, 77), (.iadd, 0, 0, 0, 0, 79), (.iaload, 0, 0, 0, 0, 80), (.putfield 0, 12, 13, 0, 1444, 81), (.iconst 0, 0, 0, 0, 0, 84), (.istore 3, 0, 0, 0, 0, 85), (.nop, 2, 0, 0, 0, 86), (.iload 3, 0, 0, 0, 0, 86), (.iconst 8, 0, 0, 0, 0, 87), (.if_icmp .ge 0, 0, 16, 0, 0, 89), (.aload 0, 0, 0, 0, 0, 92), (.getfield 0, 12, 0, 0, 1431, 93), (.iload 3, 0, 0, 0, 0, 96), (.aload 0, 0, 0, 0, 0, 97), (.getfield 0, 12, 50, 0, 1481, 98), (.iload 2, 0, 0, 0, 0, 101), (.iconst 10, 0, 0, 0, 0, 102), (.iadd, 0, 0, 0, 0, 104), (.iconst 1, 0, 0, 0, 0, 105), (.iadd, 0, 0, 0, 0, 106), (.iload 3, 0, 0, 0, 0, 107), (.iadd, 0, 0, 0, 0, 108), (.iaload, 0, 0, 0, 0, 109), (.iastore, 0, 0, 0, 0, 110), (.iinc 3 1, 0, 0, 0, 0, 111), (.goto 0, 1, 2, 0, 0, 114), (.iinc 2 19, 0, 0, 0, 0, 117), (.aload 0, 0, 0, 0, 0, 120), (.aload 0, 0, 0, 0, 0, 121), (.getfield 0, 12, 50, 0, 1481, 122), (.iload 2, 0, 0, 0, 0, 125), (.iaload, 0, 0, 0, 0, 126), (.putfield 0, 12, 9, 0, 1440, 127), (.aload 0, 0, 0, 0, 0, 130), (.aload 0, 0, 0, 0, 0, 131), (.getfield 0, 12, 50, 0, 1481, 132), (.iload 2, 0, 0, 0, 0, 135), (.iconst 1, 0, 0, 0, 0, 136), (.iadd, 0, 0, 0, 0, 137), (.iaload, 0, 0, 0, 0, 138), (.putfield 0, 12, 10, 0, 1441, 139), (.aload 0, 0, 0, 0, 0, 142), (.aload 0, 0, 0, 0, 0, 143), (.getfield 0, 12, 50, 0, 1481, 144), (.iload 2, 0, 0, 0, 0, 147), (.iconst 2, 0, 0, 0, 0, 148), (.iadd, 0, 0, 0, 0, 149), (.iaload, 0, 0, 0, 0, 150), (.putfield 0, 12, 11, 0, 1442, 151), (.iconst 1, 0, 0, 0, 0, 154), (.ireturn, 1, 0, 0, 0, 155)], [([true, true, true, true], 0), ([true, false, true, true], 29), ([true, false, true, true], 55)])
def T_X12_count : jT := ([(.aload 0, 0, 0, 0, 0, 0), (.iconst 0, 0, 0, 0, 0, 1), (.putfield 0, 12, 20, 0, 1451, 2), (.iconst 0, 0, 0, 0, 0, 5), (.istore 2, 0, 0, 0, 0, 6), (.iload 1, 0, 0, 0, 0, 7), (.lookupswitch 62 #[(0, 0), (1, 3), (2, 6), (3, 9), (4, 12), (5, 33), (6, 36), (7, 39)], 0, 0, 0, 0, 8), (.aload 0, 0, 0, 0, 0, 56), (.getfield 0, 12, 1, 0, 1432, 57), (.ireturn, 0, 0, 0, 0, 60), (.aload 0, 0, 0, 0, 0, 61), (.getfield 0, 12, 6, 0, 1437, 62), (.ireturn, 0, 0, 0, 0, 65), (.aload 0, 0, 0, 0, 0, 66), (.getfield 0, 12, 13, 0, 1444, 67), (.ireturn, 0, 0, 0, 0, 70), (.aload 0, 0, 0, 0, 0, 71), (.invokevirtual 244, 1, 1, 12, 1730, 72), (.ireturn, 0, 0, 0, 0, 75), (.iconst 0, 0, 0, 0, 0, 76), (.istore 3, 0, 0, 0, 0, 77), (.nop, 1, 0, 0, 0, 78), (.iload 3, 0, 0, 0, 0, 78), (.aload 0, 0, 0, 0, 0, 79), (.getfield 0, 12, 13, 0, 1444, 80), (.if_icmp .ge 0, 0, 12, 0, 0, 83), (.iload 2, 0, 0, 0, 0, 86), (.aload 0, 0, 0, 0, 0, 87), (.getfield 0, 12, 3, 0, 1434, 88), (.aload 0, 0, 0, 0, 0, 91), (.getfield 0, 12, 12, 0, 1443, 92), (.iload 3, 0, 0, 0, 0, 95), (.iaload, 0, 0, 0, 0, 96), (.iaload, 0, 0, 0, 0, 97), (.iadd, 0, 0, 0, 0, 98), (.istore 2, 0, 0, 0, 0, 99), (.iinc 3 1, 0, 0, 0, 0, 100), (.goto 0, 1, 1, 0, 0, 103), (.iload 2, 0, 0, 0, 0, 106), (.ireturn, 0, 0, 0, 0, 107), (.aload 0, 0, 0, 0, 0, 108), (.getfield 0, 12, 19, 0, 1450, 109), (.ireturn, 0, 0, 0, 0, 112), (.aload 0, 0, 0, 0, 0, 113), (.getfield 0, 12, 17, 0, 1448, 114), (.ireturn, 0, 0, 0, 0, 117), (.iconst 0, 0, 0, 0, 0, 118), (.istore 3, 0, 0, 0, 0, 119), (.nop, 2, 0, 0, 0, 120), (.iload 3, 0, 0, 0, 0, 120), (.iconst 3, 0, 0, 0, 0, 121), (.if_icmp .ge 0, 0, 15, 0, 0, 122), (.iload 2, 0, 0, 0, 0, 125), (.aload 0, 0, 0, 0, 0, 126), (.getfield 0, 12, 15, 0, 1446, 127), (.iload 3, 0, 0, 0, 0, 130), (.iaload, 0, 0, 0, 0, 131), (.ifCond .le 0, 0, 4, 0, 0, 132), (.iconst 1, 0, 0, 0, 0, 135), (.iload 3, 0, 0, 0, 0, 136), (.ishl, 0, 0, 0, 0, 137), (.goto 0, 0, 1, 0, 0, 138), (.iconst 0, 0, 0, 0, 0, 141), (.ior, 0, 0, 0, 0, 142), (.istore 2, 0, 0, 0, 0, 143), (.iinc 3 1, 0, 0, 0, 0, 144), (.goto 0, 1, 2, 0, 0, 147), (.iload 2, 0, 0, 0, 0, 150), (.ireturn, 0, 0, 0, 0, 151), (.iconst (-1), 0, 0, 0, 0, 152), (.ireturn, 0, 0, 0, 0, 153)], [([true, true, true, true], 0), ([true, false, true, true], 22), ([true, false, true, true], 49)])
def T_X12_row : jT := ([(.aload 0, 0, 0, 0, 0, 0), (.iconst 0, 0, 0, 0, 0, 1), (.putfield 0, 12, 20, 0, 1451, 2), (.iload 1, 0, 0, 0, 0, 5), (.iconst 0, 0, 0, 0, 0, 6), (.aload 0, 0, 0, 0, 0, 7), (.getfield 0, 12, 19, 0, 1450, 8), (.iconst 1, 0, 0, 0, 0, 11), (.isub, 0, 0, 0, 0, 12), (.invokestatic 206, 3, 1, 12, 1605, 13), (.ifCond .eq 0, 0, 5, 0, 0, 16), (.aload 0, 0, 0, 0, 0, 19), (.getfield 0, 12, 18, 0, 1449, 20), (.iload 1, 0, 0, 0, 0, 23), (.iaload, 0, 0, 0, 0, 24), (.goto 0, 0, 2, 0, 0, 25), (.aload 0, 0, 0, 0, 0, 28), (.invokevirtual 208, 1, 1, 12, 1677, 29), (.ireturn, 0, 0, 0, 0, 32)], [([true, true], 0)])
def jMs : List (jT × Nat) := [(T_bitCount, 1), (T_fill, 4), (T_X0_size, 1), (T_X0_set, 1), (T_X0_last, 1), (T_X0_add, 2), (T_X0_takeLast, 2), (T_X0_clear, 1), (T_X0_copy, 2), (T_X1_dishes, 1), (T_X1_guests, 1), (T_X1_hasDish, 2), (T_X1_hasGuest, 2), (T_X1_all, 1), (T_X1_stuffsOf, 2), (T_X1_costOf, 2), (T_X1_heatOf, 2), (T_X1_hoursOf, 2), (T_X1_lovedBy, 2), (T_X1_barredBy, 2), (T_X1_holdersOf, 2), (T_X1_draftDish, 6), (T_X1_draftGuest, 4), (T_X1_takeIn, 5), (T_X1_price, 3), (T_X1_costOfAll, 4), (T_X1_isHungry, 3), (T_X1_hungryAt, 4), (T_X1_barredTo, 4), (T_X1_barredToNobody, 3), (T_X1_hotDishes, 3), (T_X1_holdersOfSome, 5), (T_X1_sharing, 3), (T_X1_partOf, 6), (T_X2_allows, 2), (T_X2_share, 1), (T_X2_heat, 1), (T_X2_most, 2), (T_X2_change, 4), (T_X2_restock, 4), (T_X2_copy, 2), (T_X2_useUp, 4), (T_X2_refusal, 8), (T_X2_isAgainstHeat, 5), (T_X3_value, 4), (T_X3_setValue, 5), (T_X3_countRows, 6), (T_X3_countOn, 5), (T_X3_countWith, 5), (T_X3_mending, 7), (T_X3_fewestChanges, 6), (T_X3_changesWith, 5), (T_X3_tellMended, 9), (T_X3_playBoth, 8), (T_X3_playGreedy, 8), (T_X3_worthToOther, 7), (T_X3_mostJoyful, 5), (T_X3_leastFor, 5), (T_X4_size, 1), (T_X4_at, 2), (T_X4_isKnown, 2), (T_X4_clear, 1), (T_X4_addAll, 3), (T_X4_read, 6), (T_X4_exchange, 4), (T_X4_reverse, 2), (T_X4_put, 3), (T_X4_fault, 4), (T_X4_whyAt, 5), (T_X4_setTill, 4), (T_X4_costTill, 5), (T_X4_hungryTill, 5), (T_X4_mostAtOnce, 7), (T_X4_cook, 8), (T_X4_placesEaten, 5), (T_X4_stuffsEaten, 5), (T_X5_begin, 1), (T_X5_addLine, 1), (T_X5_weigh, 3), (T_X5_weighAll, 4), (T_X5_endWith, 2), (T_X5_limit, 4), (T_X5_greatest, 6), (T_X5_seek, 6), (T_X5_isGoal, 5), (T_X5_worth, 5), (T_X5_sum, 4), (T_X5_lead, 5), (T_X5_isMarked, 3), (T_X5_tell, 8), (T_X5_possibleAt, 5), (T_X5_joiningStuffs, 7), (T_X5_findBeginnings, 6), (T_X5_isHeatLost, 3), (T_X5_findGaps, 6), (T_X5_joins, 6), (T_X6_read, 5), (T_X6_readLine, 4), (T_X6_readGuest, 4), (T_X6_readDish, 7), (T_X6_readDigit, 3), (T_X6_readStuffs, 5), (T_X7_size, 1), (T_X7_at, 2), (T_X7_clear, 1), (T_X7_add, 2), (T_X8_learn, 4), (T_X8_isStocked, 3), (T_X8_begin, 4), (T_X8_allow, 3), (T_X8_dishes, 1), (T_X8_sets, 1), (T_X8_from, 1), (T_X8_start, 1), (T_X8_hot, 1), (T_X8_isHotToStay, 1), (T_X8_near, 2), (T_X8_fits, 2), (T_X8_ends, 2), (T_X8_more, 2), (T_X8_open, 6), (T_X8_reach, 4), (T_X8_inSetsAbove, 4), (T_X9_read, 2), (T_X9_readExpression, 4), (T_X9_readSum, 6), (T_X9_readProduct, 6), (T_X9_readFactor, 5), (T_X9_readThing, 4), (T_X9_readBracket, 3), (T_X9_readNumber, 4), (T_X9_isQuality, 1), (T_X9_emit, 2), (T_X9_of, 7), (T_X9_ofAll, 5), (T_X9_push, 2), (T_X9_pop, 1), (T_X9_quality, 5), (T_X9_result, 3), (T_X10_length, 1), (T_X10_append, 3), (T_X10_cutTo, 2), (T_X10_clear, 1), (T_X10_at, 3), (T_X10_hasDigit, 4), (T_X11_sign, 2), (T_X11_end, 2), (T_X11_kitchen, 2), (T_X11_rule, 2), (T_X11_dish, 3), (T_X11_guest, 3), (T_X11_joy, 3), (T_X11_law, 3), (T_X11_store, 4), (T_X11_sheet, 8), (T_X11_asEntry, 3), (T_X11_serve, 3), (T_X11_back, 1), (T_X11_over, 2), (T_X11_can, 3), (T_X11_menu, 3), (T_X11_look, 5), (T_X11_swap, 4), (T_X11_turn, 2), (T_X11_joined, 4), (T_X11_falls, 6), (T_X11_isLaid, 2), (T_X11_isWhole, 2), (T_X11_longest, 1), (T_X11_ways, 2), (T_X11_between, 3), (T_X11_shortest, 3), (T_X11_bears, 2), (T_X11_beside, 2), (T_X11_parts, 4), (T_X11_rare, 5), (T_X11_round, 5), (T_X11_shut, 2), (T_X11_goOn, 2), (T_X11_beginAnew, 2), (T_X11_tellMost, 1), (T_X11_tellBetween, 4), (T_X11_goRound, 2), (T_X11_best, 4), (T_X11_fair, 5), (T_X11_cheap, 2), (T_X11_dear, 2), (T_X11_tellJoy, 4), (T_X11_tellCost, 5), (T_X11_game, 1), (T_X11_greedy, 1), (T_X11_mend, 3), (T_X11_fills, 3), (T_X11_sure, 5), (T_X11_layFilled, 3), (T_X11_hearths, 4), (T_X11_late, 3), (T_X11_poison, 6), (T_X11_eats, 7), (T_X11_made, 2), (T_X11_keep, 2), (T_X11_again, 2), (T_X11_count, 2), (T_X11_row, 2), (T_X11_menusLaid, 3), (T_X12_thrown, 1), (T_X12_in, 3), (T_X12_has, 2), (T_X12_lost, 1), (T_X12_tell, 2), (T_X12_isDish, 2), (T_X12_isGuest, 2), (T_X12_sign, 3), (T_X12_end, 2), (T_X12_begin, 4), (T_X12_here, 1), (T_X12_fine, 1), (T_X12_fault, 2), (T_X12_passes, 2), (T_X12_number, 4), (T_X12_letters, 5), (T_X12_kitchen, 5), (T_X12_readGuest, 2), (T_X12_held, 3), (T_X12_sum, 5), (T_X12_product, 5), (T_X12_thing, 4), (T_X12_letter, 3), (T_X12_rule, 3), (T_X12_joyOf, 3), (T_X12_joyOfAll, 4), (T_X12_isHungry, 3), (T_X12_dish, 5), (T_X12_guest, 3), (T_X12_joy, 3), (T_X12_isLaw, 2), (T_X12_law, 4), (T_X12_store, 4), (T_X12_sheet, 9), (T_X12_shared, 3), (T_X12_hasHot, 3), (T_X12_fits, 7), (T_X12_refusal, 4), (T_X12_servedSet, 3), (T_X12_servedLast, 1), (T_X12_serve, 3), (T_X12_back, 1), (T_X12_over, 3), (T_X12_can, 3), (T_X12_menu, 3), (T_X12_isMenu, 2), (T_X12_isWhole, 3), (T_X12_lookOn, 5), (T_X12_lookFromNothing, 1), (T_X12_look, 3), (T_X12_swap, 5), (T_X12_turn, 5), (T_X12_joined, 4), (T_X12_isLawful, 2), (T_X12_falls, 9), (T_X12_place, 2), (T_X12_all, 1), (T_X12_may, 4), (T_X12_isState, 2), (T_X12_noEnds, 2), (T_X12_findEnds, 6), (T_X12_tellWay, 7), (T_X12_findRows, 9), (T_X12_longestBy, 7), (T_X12_longest, 1), (T_X12_ways, 6), (T_X12_tellFrom, 3), (T_X12_betweenBy, 7), (T_X12_between, 3), (T_X12_shortest, 3), (T_X12_bears, 4), (T_X12_besides, 4), (T_X12_beside, 2), (T_X12_parts, 6), (T_X12_rare, 6), (T_X12_round, 5), (T_X12_shut, 5), (T_X12_joyIn, 5), (T_X12_costIn, 4), (T_X12_scoreOf, 7), (T_X12_findBest, 10), (T_X12_tellBest, 4), (T_X12_best, 3), (T_X12_fair, 3), (T_X12_tellCost, 4), (T_X12_cheap, 6), (T_X12_dear, 2), (T_X12_findGame, 3), (T_X12_findTurn, 8), (T_X12_game, 2), (T_X12_findGreedy, 13), (T_X12_greedy, 3), (T_X12_menuAt, 3), (T_X12_mend, 9), (T_X12_tellMended, 6), (T_X12_findFills, 8), (T_X12_isAsked, 5), (T_X12_fills, 7), (T_X12_sure, 8), (T_X12_hearths, 6), (T_X12_late, 7), (T_X12_ateOf, 5), (T_X12_poison, 5), (T_X12_eats, 8), (T_X12_canAll, 8), (T_X12_made, 3), (T_X12_keep, 4), (T_X12_again, 4), (T_X12_count, 4), (T_X12_row, 2)]
noncomputable def CL (d n : Nat) (args : jSt) (μ : jM) : Option jO := jCL jMs d n args μ
noncomputable def EV (d : Nat) (T : jT) (L : Nat) (lv : jLs) (st : jSt) (μ : jM) : Option jO := EVc T (CL d) L lv st μ
theorem EV_eq (d : Nat) (T : jT) (L : Nat) (lv : jLs) (st : jSt) (μ : jM) : EV d T L lv st μ = jB (fun L' lv' st' μ' => EV d T L' (jlive T L' lv') st' μ') (CL d) 400 (jcode T L) lv st μ := EVc_eq T (CL d) L lv st μ
theorem CL_eq (d n : Nat) (T : jT) (nL : Nat) (args : jSt) (μ : jM) (h : jMs[n]? = some (T, nL)) (hl : (args.all (fun v => !jisL (some v)) && Nat.ble args.length nL) = true) : CL (d + 1) n args μ = jB (fun L' lv' st' μ' => EV d T L' (jlive T L' lv') st' μ') (CL d) 400 (jcode T 0) (args.map some ++ List.replicate (nL - args.length) none) [] μ := by
  refine Eq.trans ?_ (EV_eq d T 0 _ _ _)
  show jCL jMs (d + 1) n args μ = _
  unfold jCL
  rw [h]
  simp only [hl, cond_true]
  rfl
end
section
def j32 (x : Int) : Prop := -2147483648 ≤ x ∧ x ≤ 2147483647
def j64 (x : Int) : Prop := -9223372036854775808 ≤ x ∧ x ≤ 9223372036854775807
theorem o_bm32 {x : Int} (h : j32 x) : x.bmod 4294967296 = x := by
  obtain ⟨h1, h2⟩ := h
  rw [Int.bmod_def]
  split <;> omega
theorem o_bm64 {x : Int} (h : j64 x) : x.bmod 18446744073709551616 = x := by
  obtain ⟨h1, h2⟩ := h
  rw [Int.bmod_def]
  split <;> omega
theorem o_w32r (x : Int) : j32 (w32 x) := by
  unfold w32 j32
  rw [Int.bmod_def]
  split <;> omega
theorem o_w64r (x : Int) : j64 (w64 x) := by
  unfold w64 j64
  rw [Int.bmod_def]
  split <;> omega
theorem o_ti (x : Int) : (Int32.ofInt x).toInt = w32 x := by
  rw [Int32.toInt_ofInt]
  rfl
theorem o_tl (x : Int) : (Int64.ofInt x).toInt = w64 x := by
  rw [Int64.toInt_ofInt]
  rfl
theorem o_id {x : Int} (h : j32 x) : (Int32.ofInt x).toInt = x := (o_ti x).trans (o_bm32 h)
theorem o_idl {x : Int} (h : j64 x) : (Int64.ofInt x).toInt = x := (o_tl x).trans (o_bm64 h)
theorem o_r32 (z : Int32) : j32 z.toInt := by
  have h1 := Int32.le_toInt z
  have h2 := Int32.toInt_lt z
  unfold j32
  omega
theorem o_w (x : Int) : Int32.ofInt (w32 x) = Int32.ofInt x := by
  rw [← o_ti, Int32.ofInt_toInt]
theorem o_wl (x : Int) : Int64.ofInt (w64 x) = Int64.ofInt x := by
  rw [← o_tl, Int64.ofInt_toInt]
theorem o_add (x y : Int) : Int32.ofInt x + Int32.ofInt y = Int32.ofInt (w32 (x + y)) := by rw [o_w, Int32.ofInt_add]
theorem o_sub (x y : Int) : Int32.ofInt x - Int32.ofInt y = Int32.ofInt (w32 (x - y)) := by rw [o_w, Int32.ofInt_sub]
theorem o_mul (x y : Int) : Int32.ofInt x * Int32.ofInt y = Int32.ofInt (w32 (x * y)) := by rw [o_w, Int32.ofInt_mul]
theorem o_neg (x : Int) : -Int32.ofInt x = Int32.ofInt (w32 (-x)) := by rw [o_w, Int32.ofInt_neg]
theorem o_addl (x y : Int) : Int64.ofInt x + Int64.ofInt y = Int64.ofInt (w64 (x + y)) := by rw [o_wl, Int64.ofInt_add]
theorem o_t (z : Int32) : Int32.ofInt z.toInt = z := Int32.ofInt_toInt z
theorem o_lt {x y : Int} (hx : j32 x) (hy : j32 y) : Int32.ofInt x < Int32.ofInt y ↔ x < y := by rw [Int32.lt_iff_toInt_lt, o_id hx, o_id hy]
theorem o_le {x y : Int} (hx : j32 x) (hy : j32 y) : Int32.ofInt x ≤ Int32.ofInt y ↔ x ≤ y := by rw [Int32.le_iff_toInt_le, o_id hx, o_id hy]
theorem o_eq {x y : Int} (hx : j32 x) (hy : j32 y) : Int32.ofInt x = Int32.ofInt y ↔ x = y := by
  rw [← Int32.toInt_inj, o_id hx, o_id hy]
theorem o_ltl {x y : Int} (hx : j64 x) (hy : j64 y) : Int64.ofInt x < Int64.ofInt y ↔ x < y := by rw [Int64.lt_iff_toInt_lt, o_idl hx, o_idl hy]
theorem o_eql {x y : Int} (hx : j64 x) (hy : j64 y) : Int64.ofInt x = Int64.ofInt y ↔ x = y := by
  rw [← Int64.toInt_inj, o_idl hx, o_idl hy]
theorem o_cmp {x y : Int} (hx : j64 x) (hy : j64 y) : lg_cmp (Int64.ofInt x) (Int64.ofInt y) = Int32.ofInt (jcmp x y) := by
  unfold lg_cmp jcmp
  simp only [o_ltl hy hx, o_eql hx hy]
  split
  · rfl
  · split
    · rfl
    · rfl
theorem o_cmpr (x y : Int) : j32 (jcmp x y) := by
  unfold jcmp j32
  split
  · omega
  · split <;> omega
theorem o_i2l {x : Int} (h : j32 x) : (Int32.ofInt x).toInt64 = Int64.ofInt x := by
  apply Int64.toInt_inj.mp
  rw [Int32.toInt_toInt64, o_id h, o_idl]
  unfold j32 at h
  unfold j64
  omega
theorem o_z : (0 : Int32) = Int32.ofInt 0 := rfl
theorem o_z32 : j32 0 := by unfold j32; omega
/-- an index in range -/
theorem o_in {i n : Int} (hi : j32 i) (h : 0 ≤ i ∧ i < n) : vp_in (Int32.ofInt i) n.toNat := by
  rw [vp_in_iff, o_id hi]
  omega
theorem o_cl {i : Int} (hi : j32 i) : (Int32.ofInt i).toNatClampNeg = i.toNat := by
  show (Int32.ofInt i).toInt.toNat = i.toNat
  rw [o_id hi]
end
section
/-! ## the machine's world of a memory -/
def jok : jV → Prop
  | Sum.inl x => j32 x
  | Sum.inr (Sum.inl x) => j64 x
  | Sum.inr (Sum.inr p) => p < 100
def jemb (ad : Nat → Nat) : jV → Value
  | Sum.inl x => .int (Int32.ofInt x)
  | Sum.inr (Sum.inl x) => .long (Int64.ofInt x)
  | Sum.inr (Sum.inr p) => .ref (ad p)
def jokM (μ : jM) : Prop := ∀ (p : Nat) (i : Int), (KD p = 23 → j64 (μ p i)) ∧ (KD p ≠ 23 → j32 (μ p i))
def jfl (ad : Nat → Nat) (g : Int → Int) (p ci k : Nat) : Value := if FT ci k < 2 then .int (Int32.ofInt (g k)) else if FT ci k = 2 then .ref (ad (RF p k)) else if 0 ≤ g k then .ref (ad (g k).toNat) else .null
def jNf (ci : Nat) : Nat := (jFl.getD ci []).length
def jarr (ad : Nat → Nat) (g : Int → Int) (p : Nat) : vp_A := ((LN p).toNat, if KD p < 23 then .inl (fun j => Int32.ofInt (g j)) else if KD p = 23 then .inr (.inl (fun j => Int64.ofInt (g j))) else .inr (.inr (.inr (.inr (fun j => some (ad (RF p j)))))))
def jce (cA : Nat → ClassId) (ad : Nat → Nat) (g : Int → Int) (p : Nat) : va_E := if KD p < 20 then .inr (KD p, (List.range (jNf (KD p))).map (jfl ad g p (KD p))) else .inl (cA (KD p), jarr ad g p)
def jws (cA : Nat → ClassId) (ad : Nat → Nat) (μ : jM) : va_W := (List.range 100).map (fun p => (ad p, jce cA ad (μ p) p))
def jtys (cA : Nat → ClassId) : List (ClassId × FieldType) := [(cA 20, .int), (cA 21, .byte), (cA 22, .boolean), (cA 23, .long), (cA 24, .object RX4), (cA 25, .object RX2), (cA 26, .object RX0), (cA 27, .array .int)]
def jA (ad : Nat → Nat) : Nat → Prop := fun q => ∃ p, p < 100 ∧ q = ad p
theorem jup_ne {μ : jM} {p q : Nat} {i v : Int} (h : q ≠ p) : jup μ p i v q = μ q := by
  funext j
  unfold jup
  rw [if_neg (fun z => h z.1)]
theorem jup_eq {μ : jM} {p : Nat} {i v : Int} : jup μ p i v p = fun j => if j = i then v else μ p j := by
  funext j
  unfold jup
  by_cases h : j = i
  · rw [if_pos ⟨rfl, h⟩, if_pos h]
  · rw [if_neg (fun z => h z.2), if_neg h]
theorem jfill_ne {μ : jM} {p q : Nat} {f : Int → Int} (h : q ≠ p) : jfill μ p f q = μ q := by
  funext j
  unfold jfill
  rw [if_neg h]
theorem jfill_eq {μ : jM} {p : Nat} {f : Int → Int} : jfill μ p f p = f := by
  funext j
  unfold jfill
  rw [if_pos rfl]
theorem jws_len (cA : Nat → ClassId) (ad : Nat → Nat) (μ : jM) : (jws cA ad μ).length = 100 := by unfold jws; simp
theorem jws_at (cA : Nat → ClassId) (ad : Nat → Nat) (μ : jM) {p : Nat} (h : p < 100) : (jws cA ad μ)[p]? = some (ad p, jce cA ad (μ p) p) := by
  unfold jws
  rw [List.getElem?_map, List.getElem?_range h]
  rfl
theorem jws_set {cA : Nat → ClassId} {ad : Nat → Nat} {μ μ' : jM} {p : Nat} (h : p < 100) (hne : ∀ q, q ≠ p → μ' q = μ q) {e : va_E} (he : e = jce cA ad (μ' p) p) : (jws cA ad μ).set p (ad p, e) = jws cA ad μ' := by
  apply List.ext_getElem?
  intro k
  by_cases hk : k = p
  · subst hk
    rw [List.getElem?_set_self (by rw [jws_len]; exact h), jws_at _ _ _ h, he]
  · rw [List.getElem?_set_ne (Ne.symm hk)]
    by_cases h2 : k < 100
    · rw [jws_at _ _ _ h2, jws_at _ _ _ h2, hne k hk]
    · rw [List.getElem?_eq_none (by rw [jws_len]; omega), List.getElem?_eq_none (by rw [jws_len]; omega)]
theorem jws_D (cA : Nat → ClassId) {ad : Nat → Nat} (μ : jM) (hinj : ∀ i j, i < 100 → j < 100 → ad i = ad j → i = j) : va_D (jA ad) (jws cA ad μ) := by
  have key : ∀ (k : Nat) (q : Nat × va_E), (jws cA ad μ)[k]? = some q → k < 100 ∧ q.1 = ad k := by
    intro k q hk
    have h2 : k < 100 := by
      have := (List.getElem?_eq_some_iff.mp hk).1
      rwa [jws_len] at this
    rw [jws_at _ _ _ h2] at hk
    cases hk
    exact ⟨h2, rfl⟩
  refine ⟨fun i j x y hi hj hxy => ?_, fun k q hk => ?_⟩
  · obtain ⟨a1, a2⟩ := key i x hi
    obtain ⟨b1, b2⟩ := key j y hj
    exact hinj i j a1 b1 (by rw [← a2, ← b2]; exact hxy)
  · obtain ⟨a1, a2⟩ := key k q hk
    exact ⟨k, a1, a2⟩
theorem jok_up {μ : jM} (h : jokM μ) (p : Nat) (i v : Int) (h1 : KD p = 23 → j64 v) (h2 : KD p ≠ 23 → j32 v) : jokM (jup μ p i v) := by
  intro q j
  unfold jup
  by_cases hc : q = p ∧ j = i
  · rw [if_pos hc]
    obtain ⟨rfl, -⟩ := hc
    exact ⟨h1, h2⟩
  · rw [if_neg hc]
    exact h q j
theorem jok_fill {μ : jM} (h : jokM μ) (p : Nat) (f : Int → Int) (h1 : ∀ j, KD p = 23 → j64 (f j)) (h2 : ∀ j, KD p ≠ 23 → j32 (f j)) : jokM (jfill μ p f) := by
  intro q j
  unfold jfill
  by_cases hc : q = p
  · rw [if_pos hc]
    subst hc
    exact ⟨h1 j, h2 j⟩
  · rw [if_neg hc]
    exact h q j
theorem jce_o (cA : Nat → ClassId) (ad : Nat → Nat) (g : Int → Int) {p : Nat} (h : KD p < 20) : jce cA ad g p = .inr (KD p, (List.range (jNf (KD p))).map (jfl ad g p (KD p))) := if_pos h
theorem jce_a (cA : Nat → ClassId) (ad : Nat → Nat) (g : Int → Int) {p : Nat} (h : ¬ KD p < 20) : jce cA ad g p = .inl (cA (KD p), jarr ad g p) := if_neg h
theorem jarr_i (ad : Nat → Nat) (g : Int → Int) {p : Nat} (h : KD p < 23) : jarr ad g p = ((LN p).toNat, .inl (fun j => Int32.ofInt (g j))) := by
  unfold jarr
  rw [if_pos h]
theorem jarr_l (ad : Nat → Nat) (g : Int → Int) {p : Nat} (h : KD p = 23) : jarr ad g p = ((LN p).toNat, .inr (.inl (fun j => Int64.ofInt (g j)))) := by
  unfold jarr
  rw [if_neg (by omega), if_pos h]
theorem jarr_r (ad : Nat → Nat) (g : Int → Int) {p : Nat} (h : 23 < KD p) : jarr ad g p = ((LN p).toNat, .inr (.inr (.inr (.inr (fun j => some (ad (RF p j))))))) := by
  unfold jarr
  rw [if_neg (by omega), if_neg (by omega)]
theorem jupd (g : Int → Int) {i v : Int} (hi : 0 ≤ i) (x : Int32) (hx : x = Int32.ofInt v) : upd (fun j : Nat => Int32.ofInt (g j)) i.toNat x = fun j : Nat => Int32.ofInt ((fun j => if j = i then v else g j) j) := by
  funext j
  unfold upd
  subst hx
  show _ = Int32.ofInt (if (j : Int) = i then v else g j)
  by_cases h : j = i.toNat
  · rw [if_pos h, if_pos (show (j : Int) = i by omega)]
  · rw [if_neg h, if_neg (show ¬ (j : Int) = i by omega)]
theorem jupdl (g : Int → Int) {i v : Int} (hi : 0 ≤ i) : vp_updL (fun j : Nat => Int64.ofInt (g j)) i.toNat (Int64.ofInt v) = fun j : Nat => Int64.ofInt ((fun j => if j = i then v else g j) j) := by
  funext j
  unfold vp_updL
  show _ = Int64.ofInt (if (j : Int) = i then v else g j)
  by_cases h : j = i.toNat
  · rw [if_pos h, if_pos (show (j : Int) = i by omega)]
  · rw [if_neg h, if_neg (show ¬ (j : Int) = i by omega)]
/-! ## locals -/
def jrl (ad : Nat → Nat) (lv : jLs) (ls : Array Slot) (nL : Nat) : Prop := lv.length = nL ∧ ls.size = nL ∧ lv_wf ls ∧ ∀ (i : Nat) (v : jV), jnth lv i = some v → ls[i]? = some (.val (jemb ad v))
def jokL (lv : jLs) : Prop := ∀ (i : Nat) (v : jV), jnth lv i = some v → jok v
def jokS (st : jSt) : Prop := ∀ v, v ∈ st → jok v
theorem jnth_lt : ∀ {lv : jLs} {i : Nat} {v : jV}, jnth lv i = some v → i < lv.length
  | _ :: _, 0, _, _ => Nat.zero_lt_succ _
  | _ :: _, i + 1, _, h => Nat.succ_lt_succ (jnth_lt (i := i) h)
theorem jset_len : ∀ (lv : jLs) (i : Nat) (v : Option jV), (jset lv i v).length = lv.length
  | [], _, _ => rfl
  | _ :: _, 0, _ => rfl
  | _ :: l, i + 1, v => congrArg (· + 1) (jset_len l i v)
theorem jset_nth : ∀ (lv : jLs) (i j : Nat) (v : Option jV), jnth (jset lv i v) j = if j = i then (if i < lv.length then v else none) else jnth lv j
  | [], i, j, v => by
    show none = _
    split
    · rfl
    · rfl
  | x :: l, 0, 0, v => by simp [jset, jnth]
  | x :: l, 0, j + 1, v => by simp [jset, jnth]
  | x :: l, i + 1, 0, v => by simp [jset, jnth]
  | x :: l, i + 1, j + 1, v => by
    show jnth (jset l i v) j = _
    rw [jset_nth l i j v]
    simp [jnth]
def jprs (ad : Nat → Nat) (lv : jLs) : List (Nat × Value) := (List.range lv.length).filterMap (fun i => (jnth lv i).map (fun v => (i, jemb ad v)))
theorem jprs_mem {ad : Nat → Nat} {lv : jLs} {i : Nat} {w : Value} : (i, w) ∈ jprs ad lv ↔ ∃ v, jnth lv i = some v ∧ w = jemb ad v := by
  unfold jprs
  rw [List.mem_filterMap]
  constructor
  · rintro ⟨k, -, hk⟩
    cases h : jnth lv k with
    | none => rw [h] at hk; cases hk
    | some v =>
      rw [h] at hk
      cases hk
      exact ⟨v, h, rfl⟩
  · rintro ⟨v, h, rfl⟩
    exact ⟨i, List.mem_range.mpr (jnth_lt h), by rw [h]; rfl⟩
theorem jrl_has {ad : Nat → Nat} {lv : jLs} {ls : Array Slot} {nL : Nat} (h : jrl ad lv ls nL) : lv_has ls nL (jprs ad lv) := by
  refine ⟨h.2.1, h.2.2.1, fun q hq => ?_⟩
  obtain ⟨i, w⟩ := q
  obtain ⟨v, h1, rfl⟩ := jprs_mem.mp hq
  exact h.2.2.2 i v h1
theorem jcat_l (ad : Nat → Nat) (v : jV) : (jemb ad v).category = 2 ↔ jisL (some v) = true := by
  rcases v with x | x | p <;> simp [jemb, jisL, Value.category]
theorem jst1_len (lv : jLs) (i : Nat) (v : jV) : (jst1 lv i v).length = lv.length := by
  unfold jst1
  split
  · rw [jset_len]
  · rw [jset_len]
    cases jisL _
    · rfl
    · exact jset_len _ _ _
theorem jst1_nth {lv : jLs} {i j : Nat} {v w : jV} (h : jnth (jst1 lv i v) j = some w) : (j = i ∧ w = v) ∨ (j ≠ i ∧ jnth lv j = some w ∧ ¬ (j + 1 = i ∧ jisL (some w) = true)) := by
  unfold jst1 at h
  split at h
  · rw [jset_nth] at h
    by_cases hj : j = 0
    · rw [if_pos hj] at h
      split at h
      · cases h; exact Or.inl ⟨hj, rfl⟩
      · cases h
    · rw [if_neg hj] at h
      exact Or.inr ⟨hj, h, fun z => by omega⟩
  · rename_i k
    rw [jset_nth] at h
    by_cases hj : j = k + 1
    · rw [if_pos hj] at h
      split at h
      · cases h; exact Or.inl ⟨hj, rfl⟩
      · cases h
    · rw [if_neg hj] at h
      refine Or.inr ⟨hj, ?_⟩
      cases hL : jisL (jnth lv k) with
      | false =>
        rw [hL] at h
        have h4 : jnth lv j = some w := h
        refine ⟨h4, fun z => ?_⟩
        obtain ⟨z1, z2⟩ := z
        have hjk : j = k := by omega
        rw [← hjk, h4, z2] at hL
        cases hL
      | true =>
        rw [hL] at h
        have h : jnth (jset lv k none) j = some w := h
        rw [jset_nth] at h
        by_cases hk : j = k
        · rw [if_pos hk] at h
          split at h <;> cases h
        · rw [if_neg hk] at h
          exact ⟨h, fun z => hk (by omega)⟩
theorem jst1_rl {ad : Nat → Nat} {lv : jLs} {ls ls' : Array Slot} {nL i : Nat} {v : jV} (h : jrl ad lv ls nL) (h' : lv_has ls' nL ((i, jemb ad v) :: (jprs ad lv).filter (fun q => !(q.1 == i) && !(q.1 + 1 == i && q.2.category == 2)))) : jrl ad (jst1 lv i v) ls' nL := by
  refine ⟨by rw [jst1_len]; exact h.1, h'.1, h'.2.1, fun j w hw => ?_⟩
  rcases jst1_nth hw with ⟨rfl, rfl⟩ | ⟨h1, h2, h3⟩
  · exact h'.2.2 (j, jemb ad w) List.mem_cons_self
  · refine h'.2.2 (j, jemb ad w) (List.mem_cons_of_mem _ (List.mem_filter.mpr ⟨jprs_mem.mpr ⟨w, h2, rfl⟩, ?_⟩))
    simp only [Bool.and_eq_true, Bool.not_eq_true', beq_eq_false_iff_ne, ne_eq, Bool.and_eq_false_iff]
    refine ⟨h1, ?_⟩
    by_cases e : j + 1 = i
    · refine Or.inr fun z => h3 ⟨e, (jcat_l ad w).mp z⟩
    · exact Or.inl e
theorem jst2_rl {ad : Nat → Nat} {lv : jLs} {ls ls' : Array Slot} {nL i : Nat} {x : Int} (h : jrl ad lv ls nL) (h' : lv_has ls' nL ((i, jemb ad (jL x)) :: (jprs ad lv).filter (fun q => !(q.1 == i) && (!(q.1 == i + 1) && !(q.1 + 1 == i && q.2.category == 2))))) : jrl ad (jst2 lv i (jL x)) ls' nL := by
  refine ⟨by unfold jst2; rw [jset_len, jst1_len]; exact h.1, h'.1, h'.2.1, fun j w hw => ?_⟩
  unfold jst2 at hw
  rw [jset_nth] at hw
  by_cases hj : j = i + 1
  · rw [if_pos hj] at hw
    split at hw <;> cases hw
  · rw [if_neg hj] at hw
    rcases jst1_nth hw with ⟨rfl, rfl⟩ | ⟨h1, h2, h3⟩
    · exact h'.2.2 (j, jemb ad (jL x)) List.mem_cons_self
    · refine h'.2.2 (j, jemb ad w) (List.mem_cons_of_mem _ (List.mem_filter.mpr ⟨jprs_mem.mpr ⟨w, h2, rfl⟩, ?_⟩))
      simp only [Bool.and_eq_true, Bool.not_eq_true', beq_eq_false_iff_ne, ne_eq, Bool.and_eq_false_iff]
      refine ⟨h1, hj, ?_⟩
      by_cases e : j + 1 = i
      · refine Or.inr fun z => h3 ⟨e, (jcat_l ad w).mp z⟩
      · exact Or.inl e
theorem jst1_ok {lv : jLs} {i : Nat} {v : jV} (h : jokL lv) (hv : jok v) : jokL (jst1 lv i v) := by
  intro j w hw
  rcases jst1_nth hw with ⟨-, rfl⟩ | ⟨-, h2, -⟩
  · exact hv
  · exact h j w h2
theorem jst2_ok {lv : jLs} {i : Nat} {v : jV} (h : jokL lv) (hv : jok v) : jokL (jst2 lv i v) := by
  intro j w hw
  unfold jst2 at hw
  rw [jset_nth] at hw
  split at hw
  · split at hw <;> cases hw
  · exact jst1_ok h hv j w hw
theorem jmk_nth : ∀ (bs : List Bool) (lv : jLs) (i : Nat) (v : jV), jnth (jmk bs lv) i = some v → jnth lv i = some v
  | [], _, _, _, h => by
    have h : jnth [] _ = some _ := h
    cases h
  | _ :: _, [], _, _, h => by
    have h : jnth [] _ = some _ := h
    cases h
  | b :: bs, x :: l, 0, v, h => by
    have h : (bif b then x else none) = some v := h
    cases b
    · cases h
    · exact h
  | b :: bs, x :: l, i + 1, v, h => jmk_nth bs l i v h
theorem jmk_len : ∀ (bs : List Bool) (lv : jLs), bs.length = lv.length → (jmk bs lv).length = lv.length
  | [], [], _ => rfl
  | _ :: bs, _ :: l, h => congrArg (· + 1) (jmk_len bs l (Nat.succ.inj h))
  | [], _ :: _, h => by cases h
  | _ :: _, [], h => by cases h
theorem jmk_rl {ad : Nat → Nat} {lv : jLs} {ls : Array Slot} {nL : Nat} (bs : List Bool) (hb : bs.length = nL) (h : jrl ad lv ls nL) : jrl ad (jmk bs lv) ls nL := ⟨by rw [jmk_len _ _ (hb.trans h.1.symm)]; exact h.1, h.2.1, h.2.2.1, fun i v hv => h.2.2.2 i v (jmk_nth _ _ _ _ hv)⟩
theorem jmk_ok {lv : jLs} (bs : List Bool) (h : jokL lv) : jokL (jmk bs lv) := fun i v hv => h i v (jmk_nth _ _ _ _ hv)
end
section
def jTs : List Jvm.Cond := lw_tbl.filter goodWord
theorem jTs_mem {x : Jvm.Cond} (h : x ∈ lw_tbl) (hg : goodWord x = true) : x ∈ jTs := List.mem_filter.mpr ⟨h, hg⟩
theorem jTs_good {ws : List Jvm.Cond} (h : ∀ x ∈ ws, x ∈ jTs) : GoodIn jTs ws := fun x hx => ⟨h x hx, good_of_word (List.mem_filter.mp (h x hx)).2⟩
theorem jTs_ix {x : Jvm.Cond} (i : Nat) (h : lw_tbl[i]? = some x) (hg : goodWord x = true) : x ∈ jTs := jTs_mem (List.mem_of_getElem? h) hg
/-- is the resolved entry what stands there -/
def jmt (nL : Nat) (i : Instr) (a b : Nat) (raw : Instr) (len : Nat) : Bool := match i with
  | .iconst v => decide (-2147483648 ≤ v ∧ v ≤ 2147483647) && (decide (raw = .iconst v ∧ len = 1) || decide (raw = .bipush v ∧ len = 2 ∧ -128 ≤ v ∧ v ≤ 127) || decide (raw = .sipush v ∧ len = 3 ∧ -32768 ≤ v ∧ v ≤ 32767) || (match raw with
    | .ldc _ => decide (len = 2)
    | .ldc_w _ => decide (len = 3)
    | _ => false))
  | .sipush v => decide (-2147483648 ≤ v ∧ v ≤ 2147483647) && (decide (raw = .lconst (Fin.ofNat 2 v.toNat) ∧ len = 1 ∧ 0 ≤ v ∧ v ≤ 1) || (match raw with
    | .ldc2_w _ => decide (len = 3)
    | _ => false))
  | .iload n => decide (n < nL) && (decide (raw = .iload n ∧ len = 2) || decide (raw = .iload_n (Fin.ofNat 4 n) ∧ len = 1 ∧ n < 4))
  | .lload n => decide (n < nL) && (decide (raw = .lload n ∧ len = 2) || decide (raw = .lload_n (Fin.ofNat 4 n) ∧ len = 1 ∧ n < 4))
  | .aload n => decide (n < nL) && (decide (raw = .aload n ∧ len = 2) || decide (raw = .aload_n (Fin.ofNat 4 n) ∧ len = 1 ∧ n < 4))
  | .istore n => decide (n < nL) && (decide (raw = .istore n ∧ len = 2) || decide (raw = .istore_n (Fin.ofNat 4 n) ∧ len = 1 ∧ n < 4))
  | .astore n => decide (n < nL) && (decide (raw = .astore n ∧ len = 2) || decide (raw = .astore_n (Fin.ofNat 4 n) ∧ len = 1 ∧ n < 4))
  | .lstore n => decide (n + 1 < nL) && (decide (raw = .lstore n ∧ len = 2) || decide (raw = .lstore_n (Fin.ofNat 4 n) ∧ len = 1 ∧ n < 4))
  | .iinc n c => decide (n < nL ∧ raw = .iinc n c ∧ len = 3)
  | .iadd => decide (raw = .iadd ∧ len = 1)
  | .isub => decide (raw = .isub ∧ len = 1)
  | .imul => decide (raw = .imul ∧ len = 1)
  | .ineg => decide (raw = .ineg ∧ len = 1)
  | .idiv => decide (raw = .idiv ∧ len = 1)
  | .irem => decide (raw = .irem ∧ len = 1)
  | .iand => decide (raw = .iand ∧ len = 1)
  | .ior => decide (raw = .ior ∧ len = 1)
  | .ixor => decide (raw = .ixor ∧ len = 1)
  | .ishl => decide (raw = .ishl ∧ len = 1)
  | .ishr => decide (raw = .ishr ∧ len = 1)
  | .iushr => decide (raw = .iushr ∧ len = 1)
  | .i2b => decide (raw = .i2b ∧ len = 1)
  | .i2s => decide (raw = .i2s ∧ len = 1)
  | .i2l => decide (raw = .i2l ∧ len = 1)
  | .ladd => decide (raw = .ladd ∧ len = 1)
  | .lcmp => decide (raw = .lcmp ∧ len = 1)
  | .dup => decide (raw = .dup ∧ len = 1)
  | .dup2 => decide (raw = .dup2 ∧ len = 1)
  | .dup_x1 => decide (raw = .dup_x1 ∧ len = 1)
  | .pop => decide (raw = .pop ∧ len = 1)
  | .iaload => decide (raw = .iaload ∧ len = 1)
  | .laload => decide (raw = .laload ∧ len = 1)
  | .iastore => decide (raw = .iastore ∧ len = 1)
  | .lastore => decide (raw = .lastore ∧ len = 1)
  | .arraylength => decide (raw = .arraylength ∧ len = 1)
  | .baload => decide (raw = .baload ∧ len = 1 ∧ (a = 21 ∨ a = 22))
  | .bastore => decide (raw = .bastore ∧ len = 1 ∧ (a = 21 ∨ a = 22))
  | .aaload => decide (raw = .aaload ∧ len = 1 ∧ 24 ≤ a ∧ a ≤ 27)
  | .getfield _ => (match raw with
    | .getfield _ => decide (len = 3 ∧ a < 13 ∧ b < jNf a)
    | _ => false)
  | .putfield _ => (match raw with
    | .putfield _ => decide (len = 3 ∧ a < 13 ∧ b < jNf a)
    | _ => false)
  | .invokedynamic _ => (match raw with
    | .invokestatic _ => decide (len = 3)
    | _ => false)
  | .lmul => (match raw with
    | .invokestatic _ => decide (len = 3)
    | _ => false)
  | .lsub => (match raw with
    | .invokestatic _ => decide (len = 3)
    | _ => false)
  | .lneg => (match raw with
    | .invokestatic _ => decide (len = 3)
    | _ => false)
  | _ => false
/-- the word of the tables that an entry needs -/
def jwd (own : String) (i : Instr) (a b : Nat) (raw : Instr) : List Jvm.Cond := match raw with
  | .ldc n => (match i with
    | .iconst v => [.constant own n (Int32.ofInt v)]
    | _ => [])
  | .ldc_w n => (match i with
    | .iconst v => [.constant own n (Int32.ofInt v)]
    | _ => [])
  | .ldc2_w n => (match i with
    | .sipush v => [.constantLong own n (Int64.ofInt v)]
    | _ => [])
  | .getfield n => (match vwCl[a]? with
    | some q => [.fieldLink own n (q.2.1 b).1 (q.2.1 b).2.1 (q.2.1 b).2.2.1]
    | none => [])
  | .putfield n => (match vwCl[a]? with
    | some q => [.fieldLink own n (q.2.1 b).1 (q.2.1 b).2.1 (q.2.1 b).2.2.1]
    | none => [])
  | .invokestatic n => (match i with
    | .invokedynamic _ => [.methodLink own n arraycopyName]
    | .lmul => [.methodLink own n Lib.Math.max.name]
    | .lsub => [.methodLink own n Lib.Math.min.name]
    | .lneg => [.methodLink own n Lib.Math.abs.name]
    | _ => [])
  | _ => []
theorem gd_some {c : Prop} [Decidable c] {k : Option jO} {o : jO} (h : gd c k = some o) : c ∧ k = some o := by
  unfold gd at h
  split at h
  · rename_i hc
    exact ⟨hc, h⟩
  · cases h
theorem cd_some {c : Bool} {k : Option jO} {o : jO} (h : (bif c then k else none) = some o) : c = true ∧ k = some o := by
  cases c
  · cases h
  · exact ⟨rfl, h⟩
theorem jokS_c {v : jV} {st : jSt} (h1 : jok v) (h2 : jokS st) : jokS (v :: st) := fun x hx => by
  rcases List.mem_cons.mp hx with rfl | hx
  · exact h1
  · exact h2 x hx
theorem jokS_h {v : jV} {st : jSt} (h : jokS (v :: st)) : jok v := h v List.mem_cons_self
theorem jokS_t {v : jV} {st : jSt} (h : jokS (v :: st)) : jokS st := fun x hx => h x (List.mem_cons_of_mem _ hx)
theorem RF_lt (p : Nat) (i : Int) : RF p i < 100 := by
  have h : ∀ l ∈ jRl, ∀ x ∈ l, x < 100 := by decide +kernel
  unfold RF
  rw [List.getD_eq_getElem?_getD, List.getD_eq_getElem?_getD]
  cases h1 : jRl[p]? with
  | none =>
    show (([] : List Nat)[i.toNat]?).getD 0 < 100
    simp
  | some l =>
    have hl := h l (List.mem_of_getElem? h1)
    show (l[i.toNat]?).getD 0 < 100
    cases h2 : l[i.toNat]? with
    | none => decide
    | some x => exact hl x (List.mem_of_getElem? h2)
theorem LN_ok (p : Nat) : 0 ≤ LN p ∧ LN p ≤ 22528 := by
  have h : ∀ x ∈ jLl, x ≤ 22528 := by decide +kernel
  unfold LN
  rw [List.getD_eq_getElem?_getD]
  cases h1 : jLl[p]? with
  | none => decide
  | some x =>
    have := h x (List.mem_of_getElem? h1)
    show 0 ≤ ((x : Nat) : Int) ∧ ((x : Nat) : Int) ≤ 22528
    omega
theorem jtys_at (cA : Nat → ClassId) {k : Nat} (h1 : 20 ≤ k) (h2 : k ≤ 27) : ∃ ty, (jtys cA)[k - 20]? = some (cA k, ty) := by
  have h : k = 20 ∨ k = 21 ∨ k = 22 ∨ k = 23 ∨ k = 24 ∨ k = 25 ∨ k = 26 ∨ k = 27 := by omega
  rcases h with rfl | rfl | rfl | rfl | rfl | rfl | rfl | rfl <;> exact ⟨_, rfl⟩
/-- a class's own facts -/
def jclP (a : Nat) : Prop := ∃ (C : String) (T : u_T) (N : Nat) (ty : Nat → FieldType), vwCl[a]? = some (C, T, N) ∧ N = jNf a ∧ (∀ x ∈ u_ws C T N, x ∈ jTs) ∧ (∀ k, k < N → parseFieldDescriptor (T k).2.2.1 = some (ty k)) ∧ (∀ a, a < N → ∀ b, b < N → a ≠ b → (T a).2.1 ≠ (T b).2.1) ∧ (∀ k, k < N → (FT a k = 0 → ty k = .int ∧ (T k).2.2.2 = false) ∧ (FT a k = 1 → ty k = .boolean ∧ (T k).2.2.2 = false) ∧ (FT a k = 3 → ty k = .array .byte ∧ (T k).2.2.2 = false))
theorem jn_max1 : Cond.static Lib.Math.max.name ∈ jTs := jTs_ix 594 (by decide +kernel) rfl
theorem jn_max2 : Cond.code Lib.Math.max.name Lib.Math.max.code 2 (some .int) ∈ jTs := jTs_ix 595 (by decide +kernel) rfl
theorem jn_min1 : Cond.static Lib.Math.min.name ∈ jTs := jTs_ix 591 (by decide +kernel) rfl
theorem jn_min2 : Cond.code Lib.Math.min.name Lib.Math.min.code 2 (some .int) ∈ jTs := jTs_ix 592 (by decide +kernel) rfl
theorem jn_abs1 : Cond.static Lib.Math.abs.name ∈ jTs := jTs_ix 1157 (by decide +kernel) rfl
theorem jn_abs2 : Cond.code Lib.Math.abs.name Lib.Math.abs.code 1 (some .int) ∈ jTs := jTs_ix 1158 (by decide +kernel) rfl
theorem jn_math : Cond.initialized "java/lang/Math" ∈ jTs := jTs_ix 125 (by decide +kernel) rfl
theorem jn_arr1 : Cond.native arraycopyName ∈ jTs := jTs_ix 562 (by decide +kernel) rfl
theorem jn_arr2 : Cond.static arraycopyName ∈ jTs := jTs_ix 561 (by decide +kernel) rfl
theorem jn_arr3 : Cond.initialized "java/lang/System" ∈ jTs := jTs_ix 119 (by decide +kernel) rfl
theorem jcl_0 : jclP 0 := ⟨RX0, TX0, 3, tyX0, rfl, rfl, by
  intro x hx
  have h : ∀ k, k < 3 → u_lay RX0 TX0 k ∈ jTs := by
    intro k hk
    have hk2 : k = 0 ∨ k = 1 ∨ k = 2 := by omega
    rcases hk2 with rfl | rfl | rfl
    · exact jTs_ix 257 (by decide +kernel) rfl
    · exact jTs_ix 259 (by decide +kernel) rfl
    · exact jTs_ix 261 (by decide +kernel) rfl
  unfold u_ws at hx
  obtain ⟨k, hk, rfl⟩ := List.mem_map.mp hx
  exact h k (List.mem_range.mp hk), tyX0_ok, nmX0, by decide +kernel⟩
theorem jcl_1 : jclP 1 := ⟨RX1, TX1, 9, tyX1, rfl, rfl, by
  intro x hx
  have h : ∀ k, k < 9 → u_lay RX1 TX1 k ∈ jTs := by
    intro k hk
    have hk2 : k = 0 ∨ k = 1 ∨ k = 2 ∨ k = 3 ∨ k = 4 ∨ k = 5 ∨ k = 6 ∨ k = 7 ∨ k = 8 := by omega
    rcases hk2 with rfl | rfl | rfl | rfl | rfl | rfl | rfl | rfl | rfl
    · exact jTs_ix 163 (by decide +kernel) rfl
    · exact jTs_ix 165 (by decide +kernel) rfl
    · exact jTs_ix 167 (by decide +kernel) rfl
    · exact jTs_ix 169 (by decide +kernel) rfl
    · exact jTs_ix 171 (by decide +kernel) rfl
    · exact jTs_ix 173 (by decide +kernel) rfl
    · exact jTs_ix 175 (by decide +kernel) rfl
    · exact jTs_ix 177 (by decide +kernel) rfl
    · exact jTs_ix 179 (by decide +kernel) rfl
  unfold u_ws at hx
  obtain ⟨k, hk, rfl⟩ := List.mem_map.mp hx
  exact h k (List.mem_range.mp hk), tyX1_ok, nmX1, by decide +kernel⟩
theorem jcl_2 : jclP 2 := ⟨RX2, TX2, 4, tyX2, rfl, rfl, by
  intro x hx
  have h : ∀ k, k < 4 → u_lay RX2 TX2 k ∈ jTs := by
    intro k hk
    have hk2 : k = 0 ∨ k = 1 ∨ k = 2 ∨ k = 3 := by omega
    rcases hk2 with rfl | rfl | rfl | rfl
    · exact jTs_ix 239 (by decide +kernel) rfl
    · exact jTs_ix 241 (by decide +kernel) rfl
    · exact jTs_ix 243 (by decide +kernel) rfl
    · exact jTs_ix 245 (by decide +kernel) rfl
  unfold u_ws at hx
  obtain ⟨k, hk, rfl⟩ := List.mem_map.mp hx
  exact h k (List.mem_range.mp hk), tyX2_ok, nmX2, by decide +kernel⟩
theorem jcl_3 : jclP 3 := ⟨RX3, TX3, 2, tyX3, rfl, rfl, by
  intro x hx
  have h : ∀ k, k < 2 → u_lay RX3 TX3 k ∈ jTs := by
    intro k hk
    have hk2 : k = 0 ∨ k = 1 := by omega
    rcases hk2 with rfl | rfl
    · exact jTs_ix 365 (by decide +kernel) rfl
    · exact jTs_ix 367 (by decide +kernel) rfl
  unfold u_ws at hx
  obtain ⟨k, hk, rfl⟩ := List.mem_map.mp hx
  exact h k (List.mem_range.mp hk), tyX3_ok, nmX3, by decide +kernel⟩
theorem jcl_4 : jclP 4 := ⟨RX4, TX4, 3, tyX4, rfl, rfl, by
  intro x hx
  have h : ∀ k, k < 3 → u_lay RX4 TX4 k ∈ jTs := by
    intro k hk
    have hk2 : k = 0 ∨ k = 1 ∨ k = 2 := by omega
    rcases hk2 with rfl | rfl | rfl
    · exact jTs_ix 274 (by decide +kernel) rfl
    · exact jTs_ix 276 (by decide +kernel) rfl
    · exact jTs_ix 278 (by decide +kernel) rfl
  unfold u_ws at hx
  obtain ⟨k, hk, rfl⟩ := List.mem_map.mp hx
  exact h k (List.mem_range.mp hk), tyX4_ok, nmX4, by decide +kernel⟩
theorem jcl_5 : jclP 5 := ⟨RX5, TX5, 8, tyX5, rfl, rfl, by
  intro x hx
  have h : ∀ k, k < 8 → u_lay RX5 TX5 k ∈ jTs := by
    intro k hk
    have hk2 : k = 0 ∨ k = 1 ∨ k = 2 ∨ k = 3 ∨ k = 4 ∨ k = 5 ∨ k = 6 ∨ k = 7 := by omega
    rcases hk2 with rfl | rfl | rfl | rfl | rfl | rfl | rfl | rfl
    · exact jTs_ix 340 (by decide +kernel) rfl
    · exact jTs_ix 342 (by decide +kernel) rfl
    · exact jTs_ix 344 (by decide +kernel) rfl
    · exact jTs_ix 346 (by decide +kernel) rfl
    · exact jTs_ix 348 (by decide +kernel) rfl
    · exact jTs_ix 350 (by decide +kernel) rfl
    · exact jTs_ix 352 (by decide +kernel) rfl
    · exact jTs_ix 354 (by decide +kernel) rfl
  unfold u_ws at hx
  obtain ⟨k, hk, rfl⟩ := List.mem_map.mp hx
  exact h k (List.mem_range.mp hk), tyX5_ok, nmX5, by decide +kernel⟩
theorem jcl_6 : jclP 6 := ⟨RX6, TX6, 3, tyX6, rfl, rfl, by
  intro x hx
  have h : ∀ k, k < 3 → u_lay RX6 TX6 k ∈ jTs := by
    intro k hk
    have hk2 : k = 0 ∨ k = 1 ∨ k = 2 := by omega
    rcases hk2 with rfl | rfl | rfl
    · exact jTs_ix 191 (by decide +kernel) rfl
    · exact jTs_ix 193 (by decide +kernel) rfl
    · exact jTs_ix 195 (by decide +kernel) rfl
  unfold u_ws at hx
  obtain ⟨k, hk, rfl⟩ := List.mem_map.mp hx
  exact h k (List.mem_range.mp hk), tyX6_ok, nmX6, by decide +kernel⟩
theorem jcl_7 : jclP 7 := ⟨RX7, TX7, 2, tyX7, rfl, rfl, by
  intro x hx
  have h : ∀ k, k < 2 → u_lay RX7 TX7 k ∈ jTs := by
    intro k hk
    have hk2 : k = 0 ∨ k = 1 := by omega
    rcases hk2 with rfl | rfl
    · exact jTs_ix 378 (by decide +kernel) rfl
    · exact jTs_ix 380 (by decide +kernel) rfl
  unfold u_ws at hx
  obtain ⟨k, hk, rfl⟩ := List.mem_map.mp hx
  exact h k (List.mem_range.mp hk), tyX7_ok, nmX7, by decide +kernel⟩
theorem jcl_8 : jclP 8 := ⟨RX8, TX8, 11, tyX8, rfl, rfl, by
  intro x hx
  have h : ∀ k, k < 11 → u_lay RX8 TX8 k ∈ jTs := by
    intro k hk
    have hk2 : k = 0 ∨ k = 1 ∨ k = 2 ∨ k = 3 ∨ k = 4 ∨ k = 5 ∨ k = 6 ∨ k = 7 ∨ k = 8 ∨ k = 9 ∨ k = 10 := by omega
    rcases hk2 with rfl | rfl | rfl | rfl | rfl | rfl | rfl | rfl | rfl | rfl | rfl
    · exact jTs_ix 300 (by decide +kernel) rfl
    · exact jTs_ix 302 (by decide +kernel) rfl
    · exact jTs_ix 304 (by decide +kernel) rfl
    · exact jTs_ix 306 (by decide +kernel) rfl
    · exact jTs_ix 308 (by decide +kernel) rfl
    · exact jTs_ix 310 (by decide +kernel) rfl
    · exact jTs_ix 312 (by decide +kernel) rfl
    · exact jTs_ix 314 (by decide +kernel) rfl
    · exact jTs_ix 316 (by decide +kernel) rfl
    · exact jTs_ix 318 (by decide +kernel) rfl
    · exact jTs_ix 320 (by decide +kernel) rfl
  unfold u_ws at hx
  obtain ⟨k, hk, rfl⟩ := List.mem_map.mp hx
  exact h k (List.mem_range.mp hk), tyX8_ok, nmX8, by decide +kernel⟩
theorem jcl_9 : jclP 9 := ⟨RX9, TX9, 7, tyX9, rfl, rfl, by
  intro x hx
  have h : ∀ k, k < 7 → u_lay RX9 TX9 k ∈ jTs := by
    intro k hk
    have hk2 : k = 0 ∨ k = 1 ∨ k = 2 ∨ k = 3 ∨ k = 4 ∨ k = 5 ∨ k = 6 := by omega
    rcases hk2 with rfl | rfl | rfl | rfl | rfl | rfl | rfl
    · exact jTs_ix 211 (by decide +kernel) rfl
    · exact jTs_ix 213 (by decide +kernel) rfl
    · exact jTs_ix 215 (by decide +kernel) rfl
    · exact jTs_ix 217 (by decide +kernel) rfl
    · exact jTs_ix 219 (by decide +kernel) rfl
    · exact jTs_ix 221 (by decide +kernel) rfl
    · exact jTs_ix 223 (by decide +kernel) rfl
  unfold u_ws at hx
  obtain ⟨k, hk, rfl⟩ := List.mem_map.mp hx
  exact h k (List.mem_range.mp hk), tyX9_ok, nmX9, by decide +kernel⟩
theorem jcl_10 : jclP 10 := ⟨RX10, TX10, 2, tyX10, rfl, rfl, by
  intro x hx
  have h : ∀ k, k < 2 → u_lay RX10 TX10 k ∈ jTs := by
    intro k hk
    have hk2 : k = 0 ∨ k = 1 := by omega
    rcases hk2 with rfl | rfl
    · exact jTs_ix 142 (by decide +kernel) rfl
    · exact jTs_ix 144 (by decide +kernel) rfl
  unfold u_ws at hx
  obtain ⟨k, hk, rfl⟩ := List.mem_map.mp hx
  exact h k (List.mem_range.mp hk), tyX10_ok, nmX10, by decide +kernel⟩
theorem jcl_11 : jclP 11 := ⟨RX11, TX11, 16, tyX11, rfl, rfl, by
  intro x hx
  have h : ∀ k, k < 16 → u_lay RX11 TX11 k ∈ jTs := by
    intro k hk
    have hk2 : k = 0 ∨ k = 1 ∨ k = 2 ∨ k = 3 ∨ k = 4 ∨ k = 5 ∨ k = 6 ∨ k = 7 ∨ k = 8 ∨ k = 9 ∨ k = 10 ∨ k = 11 ∨ k = 12 ∨ k = 13 ∨ k = 14 ∨ k = 15 := by omega
    rcases hk2 with rfl | rfl | rfl | rfl | rfl | rfl | rfl | rfl | rfl | rfl | rfl | rfl | rfl | rfl | rfl | rfl
    · exact jTs_ix 399 (by decide +kernel) rfl
    · exact jTs_ix 401 (by decide +kernel) rfl
    · exact jTs_ix 403 (by decide +kernel) rfl
    · exact jTs_ix 405 (by decide +kernel) rfl
    · exact jTs_ix 407 (by decide +kernel) rfl
    · exact jTs_ix 409 (by decide +kernel) rfl
    · exact jTs_ix 411 (by decide +kernel) rfl
    · exact jTs_ix 413 (by decide +kernel) rfl
    · exact jTs_ix 415 (by decide +kernel) rfl
    · exact jTs_ix 417 (by decide +kernel) rfl
    · exact jTs_ix 419 (by decide +kernel) rfl
    · exact jTs_ix 421 (by decide +kernel) rfl
    · exact jTs_ix 423 (by decide +kernel) rfl
    · exact jTs_ix 425 (by decide +kernel) rfl
    · exact jTs_ix 427 (by decide +kernel) rfl
    · exact jTs_ix 429 (by decide +kernel) rfl
  unfold u_ws at hx
  obtain ⟨k, hk, rfl⟩ := List.mem_map.mp hx
  exact h k (List.mem_range.mp hk), tyX11_ok, nmX11, by decide +kernel⟩
theorem jcl_12 : jclP 12 := ⟨RX12, TX12, 53, tyX12, rfl, rfl, by
  intro x hx
  have h : ∀ k, k < 53 → u_lay RX12 TX12 k ∈ jTs := by
    intro k hk
    have hk2 : k = 0 ∨ k = 1 ∨ k = 2 ∨ k = 3 ∨ k = 4 ∨ k = 5 ∨ k = 6 ∨ k = 7 ∨ k = 8 ∨ k = 9 ∨ k = 10 ∨ k = 11 ∨ k = 12 ∨ k = 13 ∨ k = 14 ∨ k = 15 ∨ k = 16 ∨ k = 17 ∨ k = 18 ∨ k = 19 ∨ k = 20 ∨ k = 21 ∨ k = 22 ∨ k = 23 ∨ k = 24 ∨ k = 25 ∨ k = 26 ∨ k = 27 ∨ k = 28 ∨ k = 29 ∨ k = 30 ∨ k = 31 ∨ k = 32 ∨ k = 33 ∨ k = 34 ∨ k = 35 ∨ k = 36 ∨ k = 37 ∨ k = 38 ∨ k = 39 ∨ k = 40 ∨ k = 41 ∨ k = 42 ∨ k = 43 ∨ k = 44 ∨ k = 45 ∨ k = 46 ∨ k = 47 ∨ k = 48 ∨ k = 49 ∨ k = 50 ∨ k = 51 ∨ k = 52 := by omega
    rcases hk2 with rfl | rfl | rfl | rfl | rfl | rfl | rfl | rfl | rfl | rfl | rfl | rfl | rfl | rfl | rfl | rfl | rfl | rfl | rfl | rfl | rfl | rfl | rfl | rfl | rfl | rfl | rfl | rfl | rfl | rfl | rfl | rfl | rfl | rfl | rfl | rfl | rfl | rfl | rfl | rfl | rfl | rfl | rfl | rfl | rfl | rfl | rfl | rfl | rfl | rfl | rfl | rfl | rfl
    · exact jTs_ix 1484 (by decide +kernel) rfl
    · exact jTs_ix 1486 (by decide +kernel) rfl
    · exact jTs_ix 1488 (by decide +kernel) rfl
    · exact jTs_ix 1490 (by decide +kernel) rfl
    · exact jTs_ix 1492 (by decide +kernel) rfl
    · exact jTs_ix 1494 (by decide +kernel) rfl
    · exact jTs_ix 1496 (by decide +kernel) rfl
    · exact jTs_ix 1498 (by decide +kernel) rfl
    · exact jTs_ix 1500 (by decide +kernel) rfl
    · exact jTs_ix 1502 (by decide +kernel) rfl
    · exact jTs_ix 1504 (by decide +kernel) rfl
    · exact jTs_ix 1506 (by decide +kernel) rfl
    · exact jTs_ix 1508 (by decide +kernel) rfl
    · exact jTs_ix 1510 (by decide +kernel) rfl
    · exact jTs_ix 1512 (by decide +kernel) rfl
    · exact jTs_ix 1514 (by decide +kernel) rfl
    · exact jTs_ix 1516 (by decide +kernel) rfl
    · exact jTs_ix 1518 (by decide +kernel) rfl
    · exact jTs_ix 1520 (by decide +kernel) rfl
    · exact jTs_ix 1522 (by decide +kernel) rfl
    · exact jTs_ix 1524 (by decide +kernel) rfl
    · exact jTs_ix 1526 (by decide +kernel) rfl
    · exact jTs_ix 1528 (by decide +kernel) rfl
    · exact jTs_ix 1530 (by decide +kernel) rfl
    · exact jTs_ix 1532 (by decide +kernel) rfl
    · exact jTs_ix 1534 (by decide +kernel) rfl
    · exact jTs_ix 1536 (by decide +kernel) rfl
    · exact jTs_ix 1538 (by decide +kernel) rfl
    · exact jTs_ix 1540 (by decide +kernel) rfl
    · exact jTs_ix 1542 (by decide +kernel) rfl
    · exact jTs_ix 1544 (by decide +kernel) rfl
    · exact jTs_ix 1546 (by decide +kernel) rfl
    · exact jTs_ix 1548 (by decide +kernel) rfl
    · exact jTs_ix 1550 (by decide +kernel) rfl
    · exact jTs_ix 1552 (by decide +kernel) rfl
    · exact jTs_ix 1554 (by decide +kernel) rfl
    · exact jTs_ix 1556 (by decide +kernel) rfl
    · exact jTs_ix 1558 (by decide +kernel) rfl
    · exact jTs_ix 1560 (by decide +kernel) rfl
    · exact jTs_ix 1562 (by decide +kernel) rfl
    · exact jTs_ix 1564 (by decide +kernel) rfl
    · exact jTs_ix 1566 (by decide +kernel) rfl
    · exact jTs_ix 1568 (by decide +kernel) rfl
    · exact jTs_ix 1570 (by decide +kernel) rfl
    · exact jTs_ix 1572 (by decide +kernel) rfl
    · exact jTs_ix 1574 (by decide +kernel) rfl
    · exact jTs_ix 1576 (by decide +kernel) rfl
    · exact jTs_ix 1578 (by decide +kernel) rfl
    · exact jTs_ix 1580 (by decide +kernel) rfl
    · exact jTs_ix 1582 (by decide +kernel) rfl
    · exact jTs_ix 1584 (by decide +kernel) rfl
    · exact jTs_ix 1586 (by decide +kernel) rfl
    · exact jTs_ix 1588 (by decide +kernel) rfl
  unfold u_ws at hx
  obtain ⟨k, hk, rfl⟩ := List.mem_map.mp hx
  exact h k (List.mem_range.mp hk), tyX12_ok, nmX12, by decide +kernel⟩
theorem jcl {a : Nat} (h : a < 13) : jclP a := by
  have h2 : a = 0 ∨ a = 1 ∨ a = 2 ∨ a = 3 ∨ a = 4 ∨ a = 5 ∨ a = 6 ∨ a = 7 ∨ a = 8 ∨ a = 9 ∨ a = 10 ∨ a = 11 ∨ a = 12 := by omega
  rcases h2 with rfl | rfl | rfl | rfl | rfl | rfl | rfl | rfl | rfl | rfl | rfl | rfl | rfl
  · exact jcl_0
  · exact jcl_1
  · exact jcl_2
  · exact jcl_3
  · exact jcl_4
  · exact jcl_5
  · exact jcl_6
  · exact jcl_7
  · exact jcl_8
  · exact jcl_9
  · exact jcl_10
  · exact jcl_11
  · exact jcl_12
theorem jfs_set (ad : Nat → Nat) (g : Int → Int) (p a b : Nat) (v : Int) (x : Value) (hx : x = jfl ad (fun j => if j = (b : Int) then v else g j) p a b) (N : Nat) : ((List.range N).map (jfl ad g p a)).set b x = (List.range N).map (jfl ad (fun j => if j = (b : Int) then v else g j) p a) := by
  apply List.ext_getElem?
  intro k
  by_cases hk : k = b
  · subst hk
    by_cases h2 : k < N
    · rw [List.getElem?_set_self (by simpa using h2), List.getElem?_map, List.getElem?_range h2, hx]
      rfl
    · rw [List.getElem?_eq_none (by simpa using h2), List.getElem?_eq_none (by simpa using h2)]
  · rw [List.getElem?_set_ne (Ne.symm hk)]
    by_cases h2 : k < N
    · rw [List.getElem?_map, List.getElem?_map, List.getElem?_range h2]
      show some (jfl ad g p a k) = some (jfl ad _ p a k)
      have e : (fun j => if j = (b : Int) then v else g j) (k : Int) = g k := if_neg (by omega)
      unfold jfl
      rw [e]
    · rw [List.getElem?_eq_none (by simpa using h2), List.getElem?_eq_none (by simpa using h2)]
theorem jfl_i (ad : Nat → Nat) (g : Int → Int) (p : Nat) (v : Int) {a b : Nat} (h : FT a b < 2) : jfl ad (fun j => if j = (b : Int) then v else g j) p a b = jemb ad (jI v) := by
  unfold jfl
  rw [if_pos h]
  show Value.int (Int32.ofInt (if (b : Int) = b then v else g b)) = _
  rw [if_pos rfl]
  rfl
theorem jfl_r (ad : Nat → Nat) (g : Int → Int) (p q2 : Nat) {a b : Nat} (h : FT a b = 3) : jfl ad (fun j => if j = (b : Int) then (q2 : Int) else g j) p a b = jemb ad (jR q2) := by
  unfold jfl
  rw [if_neg (by omega), if_neg (by omega)]
  have e : (fun j => if j = (b : Int) then (q2 : Int) else g j) (b : Int) = (q2 : Int) := if_pos rfl
  rw [e, if_pos (Int.natCast_nonneg _), Int.toNat_natCast]
  rfl
theorem o_and (x y : Int) : Int32.ofInt x &&& Int32.ofInt y = Int32.ofInt (jand x y) := (o_t _).symm
theorem o_or (x y : Int) : Int32.ofInt x ||| Int32.ofInt y = Int32.ofInt (jor x y) := (o_t _).symm
theorem o_xor (x y : Int) : Int32.ofInt x ^^^ Int32.ofInt y = Int32.ofInt (jxor x y) := (o_t _).symm
theorem o_shl (x y : Int) : Int32.ofInt x <<< (Int32.ofInt y &&& 31) = Int32.ofInt (jshl x y) := (o_t _).symm
theorem o_shr (x y : Int) : Int32.ofInt x >>> (Int32.ofInt y &&& 31) = Int32.ofInt (jshr x y) := (o_t _).symm
theorem o_ushr (x y : Int) : ((Int32.ofInt x).toUInt32 >>> ((Int32.ofInt y).toUInt32 &&& Int32.toUInt32 31)).toInt32 = Int32.ofInt (jushr x y) := (o_t _).symm
theorem o_div (x y : Int) : Int32.ofInt x / Int32.ofInt y = Int32.ofInt (jdiv x y) := (o_t _).symm
theorem o_rem (x y : Int) : Int32.ofInt x - Int32.ofInt x / Int32.ofInt y * Int32.ofInt y = Int32.ofInt (jrem x y) := (o_t _).symm
theorem o_b8 (x : Int) : (Int32.ofInt x).toInt8.toInt32 = Int32.ofInt (jb8 x) := (o_t _).symm
theorem o_s16 (x : Int) : (Int32.ofInt x).toInt16.toInt32 = Int32.ofInt (js16 x) := (o_t _).symm
theorem o_i8 {v : Int} (h1 : -128 ≤ v) (h2 : v ≤ 127) : (Int8.ofInt v).toInt32 = Int32.ofInt v := by
  apply Int32.toInt_inj.mp
  rw [Int8.toInt_toInt32, o_id ⟨by omega, by omega⟩, Int8.toInt_ofInt]
  show v.bmod 256 = v
  rw [Int.bmod_def]
  split <;> omega
theorem o_i16 {v : Int} (h1 : -32768 ≤ v) (h2 : v ≤ 32767) : (Int16.ofInt v).toInt32 = Int32.ofInt v := by
  apply Int32.toInt_inj.mp
  rw [Int16.toInt_toInt32, o_id ⟨by omega, by omega⟩, Int16.toInt_ofInt]
  show v.bmod 65536 = v
  rw [Int.bmod_def]
  split <;> omega
theorem o_lc {v : Int} (h1 : 0 ≤ v) (h2 : v ≤ 1) : Int64.ofNat ((Fin.ofNat 2 v.toNat : Fin 2) : Nat) = Int64.ofInt v := by
  have h : v = 0 ∨ v = 1 := by omega
  rcases h with rfl | rfl <;> rfl
theorem o_bool {v : Int} (h : v = 0 ∨ v = 1) : vp_nar .boolean (Int32.ofInt v) = Int32.ofInt v := by
  rcases h with rfl | rfl <;> rfl
theorem o_boolN {v : Int} (h : v = 0 ∨ v = 1) : narrow .boolean (.int (Int32.ofInt v)) = .int (Int32.ofInt v) := by
  rcases h with rfl | rfl <;> rfl
theorem o_boolF {v : Int} (h : v = 0 ∨ v = 1) : fits .boolean (.int (Int32.ofInt v)) = true := by
  rcases h with rfl | rfl <;> rfl
theorem o_ln (p : Nat) : Int32.ofNat (LN p).toNat = Int32.ofInt (LN p) := by
  obtain ⟨h, -⟩ := LN_ok p
  have e : LN p = ((LN p).toNat : Int) := by omega
  generalize (LN p).toNat = n at e
  rw [e]
  rfl
theorem jcat_cat (ad : Nat → Nat) : ∀ st : jSt, ((st.map (jemb ad)).map fun v => v.category).sum = jcat st
  | [] => rfl
  | v :: st => by
    have ih := jcat_cat ad st
    rcases v with x | x | p
    · exact congrArg (1 + ·) ih
    · exact congrArg (2 + ·) ih
    · exact congrArg (1 + ·) ih
def jRel (D : va_G) (cA : Nat → ClassId) (ad : Nat → Nat) (s : State) (nL : Nat) (lv : jLs) (st : jSt) (μ : jM) (H : Heap) (locs : List Loc) (ls : Array Slot) : Prop := jrl ad lv ls nL ∧ jokL lv ∧ jokS st ∧ va_P D vwCl (jws cA ad μ) H ∧ va_S (jA ad) s.heap H locs ∧ jokM μ
section J1
variable {p : Program} {l : Launch} {e : Env} {R : Room} {s : State} {m : MethodId} {args : Array Value} {below : List Frame} {meth : Method} {c : Code} {Q : State → Prop} {cc : ByteArray} {own : String} {nL : Nat} {D : va_G} {cA : Nat → ClassId} {ad : Nat → Nat}
theorem jRel_st {lv : jLs} {st st' : jSt} {μ : jM} {H : Heap} {locs : List Loc} {ls : Array Slot} (h : jRel D cA ad s nL lv st μ H locs ls) (h2 : jokS st') : jRel D cA ad s nL lv st' μ H locs ls := ⟨h.1, h.2.1, h2, h.2.2.2⟩
theorem jRel_lv {lv lv' : jLs} {st st' : jSt} {μ : jM} {H : Heap} {locs : List Loc} {ls ls' : Array Slot} (h : jRel D cA ad s nL lv st μ H locs ls) (h1 : jrl ad lv' ls' nL) (h2 : jokL lv') (h3 : jokS st') : jRel D cA ad s nL lv' st' μ H locs ls' := ⟨h1, h2, h3, h.2.2.2⟩
set_option maxHeartbeats 8000000 in
set_option maxRecDepth 100000 in
theorem j1_snd (hx : p.tables.exec = Jvm.exec) (hb : c.code = cc) (hml : c.maxLocals = nL) (hown : s.vm.findClass own = some m.cls) (hts : ∀ w ∈ jTs, w.before args s = true) (hK : va_K D vwCl (jtys cA) s) (hinj : ∀ i j, i < 100 → j < 100 → ad i = ad j → i = j) (hRf : 1 ≤ R.frames) (hRl : 40 ≤ R.locals)
    {i raw : Instr} {a b len pc : Nat} (hdec : decode cc pc = .ok (raw, len)) (hmt : jmt nL i a b raw len = true) (hwd : ∀ q ∈ jwd own i a b raw, q ∈ jTs) {lv : jLs} {st : jSt} {μ : jM} {k : jLs → jSt → jM → Option jO} {o : jO} (h1 : j1 i a b lv st μ k = some o) {H : Heap} {locs : List Loc} {ls : Array Slot} (hr : jRel D cA ad s nL lv st μ H locs ls)
    (kk : ∀ (lv' : jLs) (st' : jSt) (μ' : jM) (H' : Heap) (locs' : List Loc) (ls' : Array Slot), k lv' st' μ' = some o → jRel D cA ad s nL lv' st' μ' H' locs' ls' → W p l e R s m args below meth c H' locs' 0 0 Q (F0 m (pc + len) ls' (st'.map (jemb ad)))) : W p l e R s m args below meth c H locs 0 0 Q (F0 m pc ls (st.map (jemb ad))) := by
  have hL := hr.1
  have hoL := hr.2.1
  have hoS := hr.2.2.1
  have hP := hr.2.2.2.1
  have hS := hr.2.2.2.2.1
  have hM := hr.2.2.2.2.2
  have hD := jws_D cA μ hinj
  have hH := jrl_has hL
  unfold j1 at h1
  split at h1
  · simp only [jmt, Bool.and_eq_true, Bool.or_eq_true, decide_eq_true_eq] at hmt
    obtain ⟨hv, ((⟨rfl, rfl⟩ | ⟨rfl, rfl, hv1, hv2⟩) | ⟨rfl, rfl, hv1, hv2⟩) | hmt⟩ := hmt
    · exact lv_iconst hx hb hdec rfl (kk _ _ _ _ _ _ h1 (jRel_st hr (jokS_c hv hoS)))
    · exact lv_bipush hx hb hdec (o_i8 hv1 hv2) (kk _ _ _ _ _ _ h1 (jRel_st hr (jokS_c hv hoS)))
    · exact lv_sipush hx hb hdec (o_i16 hv1 hv2) (kk _ _ _ _ _ _ h1 (jRel_st hr (jokS_c hv hoS)))
    · split at hmt
      · simp only [decide_eq_true_eq] at hmt
        subst hmt
        exact lv_ldc hx hb hown (hts _ (hwd _ List.mem_cons_self)) hdec (kk _ _ _ _ _ _ h1 (jRel_st hr (jokS_c hv hoS)))
      · simp only [decide_eq_true_eq] at hmt
        subst hmt
        exact lv_ldcw hx hb hown (hts _ (hwd _ List.mem_cons_self)) hdec (kk _ _ _ _ _ _ h1 (jRel_st hr (jokS_c hv hoS)))
      · cases hmt
  · simp only [jmt, Bool.and_eq_true, Bool.or_eq_true, decide_eq_true_eq] at hmt
    rename_i v
    have hv64 : j64 v := by
      have h9 := hmt.1
      unfold j64
      omega
    obtain ⟨hv, ⟨rfl, rfl, hv1, hv2⟩ | hmt⟩ := hmt
    · exact lv_lconst hx hb hdec (o_lc hv1 hv2) (kk _ _ _ _ _ _ h1 (jRel_st hr (jokS_c hv64 hoS)))
    · split at hmt
      · simp only [decide_eq_true_eq] at hmt
        subst hmt
        exact lv_ldc2 hx hb hown (hts _ (hwd _ List.mem_cons_self)) hdec (kk _ _ _ _ _ _ h1 (jRel_st hr (jokS_c hv64 hoS)))
      · cases hmt
  · split at h1
    · rename_i n _ x hn
      simp only [jmt, Bool.and_eq_true, Bool.or_eq_true, decide_eq_true_eq] at hmt
      have hg := hL.2.2.2 n _ hn
      obtain ⟨-, ⟨rfl, rfl⟩ | ⟨rfl, rfl, h4⟩⟩ := hmt
      · exact lv_iload hx hb hdec hg (kk _ _ _ _ _ _ h1 (jRel_st hr (jokS_c (hoL n _ hn) hoS)))
      · exact lv_iload_n hx hb hdec (Nat.mod_eq_of_lt h4) hg (kk _ _ _ _ _ _ h1 (jRel_st hr (jokS_c (hoL n _ hn) hoS)))
    · cases h1
  · split at h1
    · rename_i n _ x hn
      simp only [jmt, Bool.and_eq_true, Bool.or_eq_true, decide_eq_true_eq] at hmt
      have hg := hL.2.2.2 n _ hn
      obtain ⟨-, ⟨rfl, rfl⟩ | ⟨rfl, rfl, h4⟩⟩ := hmt
      · exact lv_lload hx hb hdec hg (kk _ _ _ _ _ _ h1 (jRel_st hr (jokS_c (hoL n _ hn) hoS)))
      · exact lv_lload_n hx hb hdec (Nat.mod_eq_of_lt h4) hg (kk _ _ _ _ _ _ h1 (jRel_st hr (jokS_c (hoL n _ hn) hoS)))
    · cases h1
  · split at h1
    · rename_i n _ x hn
      simp only [jmt, Bool.and_eq_true, Bool.or_eq_true, decide_eq_true_eq] at hmt
      have hg := hL.2.2.2 n _ hn
      obtain ⟨-, ⟨rfl, rfl⟩ | ⟨rfl, rfl, h4⟩⟩ := hmt
      · exact lv_aload hx hb hdec hg (kk _ _ _ _ _ _ h1 (jRel_st hr (jokS_c (hoL n _ hn) hoS)))
      · exact lv_aload_n hx hb hdec (Nat.mod_eq_of_lt h4) hg (kk _ _ _ _ _ _ h1 (jRel_st hr (jokS_c (hoL n _ hn) hoS)))
    · cases h1
  · split at h1
    · rename_i n _ x st
      simp only [jmt, Bool.and_eq_true, Bool.or_eq_true, decide_eq_true_eq] at hmt
      obtain ⟨hn, ⟨rfl, rfl⟩ | ⟨rfl, rfl, h4⟩⟩ := hmt
      · exact lv_istore hx hb hdec hH hn rfl fun ls' h' => kk _ _ _ _ _ _ h1 (jRel_lv hr (jst1_rl hL h') (jst1_ok hoL (jokS_h hoS)) (jokS_t hoS))
      · exact lv_istore_n hx hb hdec (Nat.mod_eq_of_lt h4) hH hn rfl fun ls' h' => kk _ _ _ _ _ _ h1 (jRel_lv hr (jst1_rl hL h') (jst1_ok hoL (jokS_h hoS)) (jokS_t hoS))
    · cases h1
  · split at h1
    · rename_i n _ x st
      simp only [jmt, Bool.and_eq_true, Bool.or_eq_true, decide_eq_true_eq] at hmt
      obtain ⟨hn, ⟨rfl, rfl⟩ | ⟨rfl, rfl, h4⟩⟩ := hmt
      · exact lv_lstore hx hb hdec hH hn rfl fun ls' h' => kk _ _ _ _ _ _ h1 (jRel_lv hr (jst2_rl hL h') (jst2_ok hoL (jokS_h hoS)) (jokS_t hoS))
      · exact lv_lstore_n hx hb hdec (Nat.mod_eq_of_lt h4) hH hn rfl fun ls' h' => kk _ _ _ _ _ _ h1 (jRel_lv hr (jst2_rl hL h') (jst2_ok hoL (jokS_h hoS)) (jokS_t hoS))
    · cases h1
  · split at h1
    · rename_i n _ x st
      simp only [jmt, Bool.and_eq_true, Bool.or_eq_true, decide_eq_true_eq] at hmt
      obtain ⟨hn, ⟨rfl, rfl⟩ | ⟨rfl, rfl, h4⟩⟩ := hmt
      · exact lv_astore hx hb hdec hH hn rfl fun ls' h' => kk _ _ _ _ _ _ h1 (jRel_lv hr (jst1_rl hL h') (jst1_ok hoL (jokS_h hoS)) (jokS_t hoS))
      · exact lv_astore_n hx hb hdec (Nat.mod_eq_of_lt h4) hH hn rfl fun ls' h' => kk _ _ _ _ _ _ h1 (jRel_lv hr (jst1_rl hL h') (jst1_ok hoL (jokS_h hoS)) (jokS_t hoS))
    · cases h1
  · split at h1
    · rename_i n q _ x hn
      simp only [jmt, decide_eq_true_eq] at hmt
      obtain ⟨hn2, rfl, rfl⟩ := hmt
      obtain ⟨k9, hk9⟩ := List.getElem?_of_mem (jprs_mem.mpr ⟨_, hn, rfl⟩)
      have e9 : Int32.ofInt x + Int32.ofInt q = Int32.ofInt (w32 (x + q)) := o_add x q
      exact lv_iinc hx hb hdec hH hk9 e9 hn2 rfl fun ls' h' => kk _ _ _ _ _ _ h1 (jRel_lv hr (jst1_rl (v := jI (w32 (x + q))) hL h') (jst1_ok hoL (o_w32r _)) hoS)
    · cases h1
  · split at h1
    · rename_i y x st
      simp only [jmt, decide_eq_true_eq] at hmt
      obtain ⟨rfl, rfl⟩ := hmt
      refine lv_iadd (x := Int32.ofInt x) (y := Int32.ofInt y) (rest := st.map (jemb ad)) hx hb hdec ?_
      rw [o_add]
      exact kk _ _ _ _ _ _ h1 (jRel_st hr (jokS_c (o_w32r _) (jokS_t (jokS_t hoS))))
    · cases h1
  · split at h1
    · rename_i y x st
      simp only [jmt, decide_eq_true_eq] at hmt
      obtain ⟨rfl, rfl⟩ := hmt
      refine lv_isub (x := Int32.ofInt x) (y := Int32.ofInt y) (rest := st.map (jemb ad)) hx hb hdec ?_
      rw [o_sub]
      exact kk _ _ _ _ _ _ h1 (jRel_st hr (jokS_c (o_w32r _) (jokS_t (jokS_t hoS))))
    · cases h1
  · split at h1
    · rename_i y x st
      simp only [jmt, decide_eq_true_eq] at hmt
      obtain ⟨rfl, rfl⟩ := hmt
      refine lv_imul (x := Int32.ofInt x) (y := Int32.ofInt y) (rest := st.map (jemb ad)) hx hb hdec ?_
      rw [o_mul]
      exact kk _ _ _ _ _ _ h1 (jRel_st hr (jokS_c (o_w32r _) (jokS_t (jokS_t hoS))))
    · cases h1
  · split at h1
    · rename_i x st
      simp only [jmt, decide_eq_true_eq] at hmt
      obtain ⟨rfl, rfl⟩ := hmt
      refine lv_ineg (x := Int32.ofInt x) (rest := st.map (jemb ad)) hx hb hdec ?_
      rw [o_neg]
      exact kk _ _ _ _ _ _ h1 (jRel_st hr (jokS_c (o_w32r _) (jokS_t hoS)))
    · cases h1
  · split at h1
    · rename_i y x st
      obtain ⟨hy0, h1⟩ := gd_some h1
      simp only [jmt, decide_eq_true_eq] at hmt
      obtain ⟨rfl, rfl⟩ := hmt
      refine lv_idiv (x := Int32.ofInt x) (y := Int32.ofInt y) (rest := st.map (jemb ad)) hx hb hdec (fun z => hy0 ((o_eq (jokS_h hoS) o_z32).mp z)) ?_
      rw [o_div]
      exact kk _ _ _ _ _ _ h1 (jRel_st hr (jokS_c (o_r32 _) (jokS_t (jokS_t hoS))))
    · cases h1
  · split at h1
    · rename_i y x st
      obtain ⟨hy0, h1⟩ := gd_some h1
      simp only [jmt, decide_eq_true_eq] at hmt
      obtain ⟨rfl, rfl⟩ := hmt
      refine lv_irem (x := Int32.ofInt x) (y := Int32.ofInt y) (rest := st.map (jemb ad)) hx hb hdec (fun z => hy0 ((o_eq (jokS_h hoS) o_z32).mp z)) ?_
      rw [o_rem]
      exact kk _ _ _ _ _ _ h1 (jRel_st hr (jokS_c (o_r32 _) (jokS_t (jokS_t hoS))))
    · cases h1
  · split at h1
    · rename_i y x st
      simp only [jmt, decide_eq_true_eq] at hmt
      obtain ⟨rfl, rfl⟩ := hmt
      refine lv_iand (x := Int32.ofInt x) (y := Int32.ofInt y) (rest := st.map (jemb ad)) hx hb hdec ?_
      rw [o_and]
      exact kk _ _ _ _ _ _ h1 (jRel_st hr (jokS_c (o_r32 _) (jokS_t (jokS_t hoS))))
    · cases h1
  · split at h1
    · rename_i y x st
      simp only [jmt, decide_eq_true_eq] at hmt
      obtain ⟨rfl, rfl⟩ := hmt
      refine lv_ior (x := Int32.ofInt x) (y := Int32.ofInt y) (rest := st.map (jemb ad)) hx hb hdec ?_
      rw [o_or]
      exact kk _ _ _ _ _ _ h1 (jRel_st hr (jokS_c (o_r32 _) (jokS_t (jokS_t hoS))))
    · cases h1
  · split at h1
    · rename_i y x st
      simp only [jmt, decide_eq_true_eq] at hmt
      obtain ⟨rfl, rfl⟩ := hmt
      refine lv_ixor (x := Int32.ofInt x) (y := Int32.ofInt y) (rest := st.map (jemb ad)) hx hb hdec ?_
      rw [o_xor]
      exact kk _ _ _ _ _ _ h1 (jRel_st hr (jokS_c (o_r32 _) (jokS_t (jokS_t hoS))))
    · cases h1
  · split at h1
    · rename_i y x st
      simp only [jmt, decide_eq_true_eq] at hmt
      obtain ⟨rfl, rfl⟩ := hmt
      refine lv_ishl (x := Int32.ofInt x) (y := Int32.ofInt y) (rest := st.map (jemb ad)) hx hb hdec ?_
      rw [o_shl]
      exact kk _ _ _ _ _ _ h1 (jRel_st hr (jokS_c (o_r32 _) (jokS_t (jokS_t hoS))))
    · cases h1
  · split at h1
    · rename_i y x st
      simp only [jmt, decide_eq_true_eq] at hmt
      obtain ⟨rfl, rfl⟩ := hmt
      refine lv_ishr (x := Int32.ofInt x) (y := Int32.ofInt y) (rest := st.map (jemb ad)) hx hb hdec ?_
      rw [o_shr]
      exact kk _ _ _ _ _ _ h1 (jRel_st hr (jokS_c (o_r32 _) (jokS_t (jokS_t hoS))))
    · cases h1
  · split at h1
    · rename_i y x st
      simp only [jmt, decide_eq_true_eq] at hmt
      obtain ⟨rfl, rfl⟩ := hmt
      exact lv_iushr (x := Int32.ofInt x) (y := Int32.ofInt y) (rest := st.map (jemb ad)) hx hb hdec (o_ushr x y) (kk _ _ _ _ _ _ h1 (jRel_st hr (jokS_c (o_r32 _) (jokS_t (jokS_t hoS)))))
    · cases h1
  · split at h1
    · rename_i x st
      simp only [jmt, decide_eq_true_eq] at hmt
      obtain ⟨rfl, rfl⟩ := hmt
      exact lv_i2b (x := Int32.ofInt x) (rest := st.map (jemb ad)) hx hb hdec (o_b8 x) (kk _ _ _ _ _ _ h1 (jRel_st hr (jokS_c (o_r32 _) (jokS_t hoS))))
    · cases h1
  · split at h1
    · rename_i x st
      simp only [jmt, decide_eq_true_eq] at hmt
      obtain ⟨rfl, rfl⟩ := hmt
      exact lv_i2s (x := Int32.ofInt x) (rest := st.map (jemb ad)) hx hb hdec (o_s16 x) (kk _ _ _ _ _ _ h1 (jRel_st hr (jokS_c (o_r32 _) (jokS_t hoS))))
    · cases h1
  · split at h1
    · rename_i x st
      simp only [jmt, decide_eq_true_eq] at hmt
      obtain ⟨rfl, rfl⟩ := hmt
      have hj : j32 x := jokS_h hoS
      have hj2 : j64 x := by
        unfold j32 at hj
        unfold j64
        omega
      exact lv_i2l (x := Int32.ofInt x) (rest := st.map (jemb ad)) hx hb hdec (o_i2l hj) (kk _ _ _ _ _ _ h1 (jRel_st hr (jokS_c hj2 (jokS_t hoS))))
    · cases h1
  · split at h1
    · rename_i y x st
      simp only [jmt, decide_eq_true_eq] at hmt
      obtain ⟨rfl, rfl⟩ := hmt
      refine lv_ladd (x := Int64.ofInt x) (y := Int64.ofInt y) (rest := st.map (jemb ad)) hx hb hdec ?_
      rw [o_addl]
      exact kk _ _ _ _ _ _ h1 (jRel_st hr (jokS_c (o_w64r _) (jokS_t (jokS_t hoS))))
    · cases h1
  · split at h1
    · rename_i y x st
      simp only [jmt, decide_eq_true_eq] at hmt
      obtain ⟨rfl, rfl⟩ := hmt
      refine W.lcmp (x := Int64.ofInt x) (y := Int64.ofInt y) (rest := st.map (jemb ad)) hx hb hdec ?_
      rw [o_cmp (jokS_h (jokS_t hoS)) (jokS_h hoS)]
      exact kk _ _ _ _ _ _ h1 (jRel_st hr (jokS_c (o_cmpr _ _) (jokS_t (jokS_t hoS))))
    · cases h1
  · split at h1
    · rename_i x st
      simp only [jmt, decide_eq_true_eq] at hmt
      obtain ⟨rfl, rfl⟩ := hmt
      exact lv_dup (va := .int (Int32.ofInt x)) (rest := st.map (jemb ad)) hx hb hdec rfl (kk _ _ _ _ _ _ h1 (jRel_st hr (jokS_c (jokS_h hoS) hoS)))
    · rename_i q st
      simp only [jmt, decide_eq_true_eq] at hmt
      obtain ⟨rfl, rfl⟩ := hmt
      exact lv_dup (va := .ref (ad q)) (rest := st.map (jemb ad)) hx hb hdec rfl (kk _ _ _ _ _ _ h1 (jRel_st hr (jokS_c (jokS_h hoS) hoS)))
    · cases h1
  · split at h1
    · rename_i x q st
      simp only [jmt, decide_eq_true_eq] at hmt
      obtain ⟨rfl, rfl⟩ := hmt
      exact lv_dup2_11 (va := .int (Int32.ofInt x)) (vb := .ref (ad q)) (rest := st.map (jemb ad)) hx hb hdec rfl rfl (kk _ _ _ _ _ _ h1 (jRel_st hr (jokS_c (jokS_h hoS) (jokS_c (jokS_h (jokS_t hoS)) hoS))))
    · cases h1
  · split at h1
    · rename_i x q st
      simp only [jmt, decide_eq_true_eq] at hmt
      obtain ⟨rfl, rfl⟩ := hmt
      exact lv_dup_x1 (va := .int (Int32.ofInt x)) (vb := .ref (ad q)) (rest := st.map (jemb ad)) hx hb hdec rfl rfl (kk _ _ _ _ _ _ h1 (jRel_st hr (jokS_c (jokS_h hoS) (jokS_c (jokS_h (jokS_t hoS)) (jokS_c (jokS_h hoS) (jokS_t (jokS_t hoS)))))))
    · cases h1
  · split at h1
    · rename_i x st
      simp only [jmt, decide_eq_true_eq] at hmt
      obtain ⟨rfl, rfl⟩ := hmt
      exact lv_pop (va := .int (Int32.ofInt x)) (rest := st.map (jemb ad)) hx hb hdec rfl (kk _ _ _ _ _ _ h1 (jRel_st hr (jokS_t hoS)))
    · cases h1
  · split at h1
    · rename_i q st
      obtain ⟨hq, h1⟩ := cd_some h1
      have hq2 : KD q = a := Nat.eq_of_beq_eq_true hq
      have hq3 : q < 100 := jokS_h hoS
      simp only [jmt] at hmt
      split at hmt
      · simp only [decide_eq_true_eq] at hmt
        obtain ⟨rfl, ha, hb13⟩ := hmt
        obtain ⟨C, T, N, ty, c1, c2, c3, c4, c5, c6⟩ := jcl ha
        have hat := jws_at cA ad μ hq3
        rw [jce_o cA ad (μ q) (by omega : KD q < 20), hq2] at hat
        have hv : ((List.range (jNf a)).map (jfl ad (μ q) q a))[b]? = some (jfl ad (μ q) q a b) := by rw [List.getElem?_map, List.getElem?_range hb13]; rfl
        have hw := hwd
        simp only [jwd, c1] at hw
        refine va_get (D := D) (ci := a) (C := C) (T := T) (N := N) (rest := st.map (jemb ad)) (v := jfl ad (μ q) q a b) hx hb hts c3 hown hK hP q hat c1 b (by rw [c2]; exact hb13) (hts _ (hw _ List.mem_cons_self)) (fun _ h9 => h9) hv hdec ?_
        cases hf : Nat.blt (FT a b) 2 with
        | true =>
          rw [hf] at h1
          have hf2 : FT a b < 2 := Nat.le_of_ble_eq_true hf
          have e9 : jfl ad (μ q) q a b = jemb ad (jI (μ q b)) := if_pos hf2
          rw [e9]
          exact kk _ _ _ _ _ _ h1 (jRel_st hr (jokS_c ((hM q b).2 (by omega)) (jokS_t hoS)))
        | false =>
          rw [hf] at h1
          have hf2 : ¬ FT a b < 2 := fun z => by
            have : Nat.blt (FT a b) 2 = true := Nat.ble_eq_true_of_le z
            rw [this] at hf
            cases hf
          cases hg : Nat.beq (FT a b) 2 with
          | true =>
            rw [hg] at h1
            have hg2 : FT a b = 2 := Nat.eq_of_beq_eq_true hg
            have e9 : jfl ad (μ q) q a b = jemb ad (jR (RF q b)) := (if_neg hf2).trans (if_pos hg2)
            rw [e9]
            exact kk _ _ _ _ _ _ h1 (jRel_st hr (jokS_c (RF_lt q b) (jokS_t hoS)))
          | false =>
            rw [hg] at h1
            obtain ⟨hz, h1⟩ := gd_some h1
            have hg2 : ¬ FT a b = 2 := Nat.ne_of_beq_eq_false hg
            have e9 : jfl ad (μ q) q a b = jemb ad (jR (μ q b).toNat) := (if_neg hf2).trans ((if_neg hg2).trans (if_pos hz.1))
            rw [e9]
            exact kk _ _ _ _ _ _ h1 (jRel_st hr (jokS_c (show (μ q b).toNat < 100 by omega) (jokS_t hoS)))
      · cases hmt
    · cases h1
  · split at h1
    · rename_i v q st
      obtain ⟨hq, h1⟩ := cd_some h1
      have hq2 : KD q = a := Nat.eq_of_beq_eq_true hq
      have hq3 : q < 100 := jokS_h (jokS_t hoS)
      simp only [jmt] at hmt
      split at hmt
      · simp only [decide_eq_true_eq] at hmt
        obtain ⟨rfl, ha, hb13⟩ := hmt
        obtain ⟨C, T, N, ty, c1, c2, c3, c4, c5, c6⟩ := jcl ha
        have hat := jws_at cA ad μ hq3
        rw [jce_o cA ad (μ q) (by omega : KD q < 20), hq2] at hat
        have hw := hwd
        simp only [jwd, c1] at hw
        cases hf : Nat.beq (FT a b) 0 with
        | true =>
          rw [hf] at h1
          have hf2 : FT a b = 0 := Nat.eq_of_beq_eq_true hf
          obtain ⟨hty, hfin⟩ := (c6 b (by rw [c2]; exact hb13)).1 hf2
          refine va_put (D := D) (ci := a) (C := C) (T := T) (N := N) (ty := .int) (rest := st.map (jemb ad)) (v := jemb ad (jI v)) hx hb hts c3 ty c4 c5 hown hK hP hD hS q hat c1 b (by rw [c2]; exact hb13) (hts _ (hw _ List.mem_cons_self)) (fun _ h9 => h9) hfin (by rw [c4 b (by rw [c2]; exact hb13), hty]) (vp_nar_int _) rfl (by simpa using hb13) hdec fun H1 locs1 hP1 hD1 hS1 => ?_
          rw [jfs_set ad (μ q) q a b v (jemb ad (jI v)) (jfl_i ad (μ q) q v (by omega)).symm (jNf a)] at hP1
          rw [jws_set (μ' := jup μ q b v) hq3 (fun z hz => jup_ne hz) (by rw [jup_eq, jce_o cA ad _ (by omega : KD q < 20), hq2])] at hP1
          exact kk _ _ _ _ _ _ h1 ⟨hL, hoL, jokS_t (jokS_t hoS), hP1, hS1, jok_up hM q b v (fun z => by omega) (fun _ => jokS_h hoS)⟩
        | false =>
          rw [hf] at h1
          obtain ⟨hf, h1⟩ := cd_some h1
          obtain ⟨hz, h1⟩ := gd_some h1
          have hf2 : FT a b = 1 := Nat.eq_of_beq_eq_true hf
          obtain ⟨hty, hfin⟩ := (c6 b (by rw [c2]; exact hb13)).2.1 hf2
          refine va_put (D := D) (ci := a) (C := C) (T := T) (N := N) (ty := .boolean) (rest := st.map (jemb ad)) (v := jemb ad (jI v)) hx hb hts c3 ty c4 c5 hown hK hP hD hS q hat c1 b (by rw [c2]; exact hb13) (hts _ (hw _ List.mem_cons_self)) (fun _ h9 => h9) hfin (by rw [c4 b (by rw [c2]; exact hb13), hty]) (o_boolN hz) (o_boolF hz) (by simpa using hb13) hdec fun H1 locs1 hP1 hD1 hS1 => ?_
          rw [jfs_set ad (μ q) q a b v (jemb ad (jI v)) (jfl_i ad (μ q) q v (by omega)).symm (jNf a)] at hP1
          rw [jws_set (μ' := jup μ q b v) hq3 (fun z hz => jup_ne hz) (by rw [jup_eq, jce_o cA ad _ (by omega : KD q < 20), hq2])] at hP1
          exact kk _ _ _ _ _ _ h1 ⟨hL, hoL, jokS_t (jokS_t hoS), hP1, hS1, jok_up hM q b v (fun z => by omega) (fun _ => jokS_h hoS)⟩
      · cases hmt
    · rename_i q2 q st
      obtain ⟨hq, h1⟩ := cd_some h1
      have hq2 : KD q = a := Nat.eq_of_beq_eq_true hq
      have hq3 : q < 100 := jokS_h (jokS_t hoS)
      simp only [jmt] at hmt
      split at hmt
      · simp only [decide_eq_true_eq] at hmt
        obtain ⟨rfl, ha, hb13⟩ := hmt
        obtain ⟨C, T, N, ty, c1, c2, c3, c4, c5, c6⟩ := jcl ha
        have hat := jws_at cA ad μ hq3
        rw [jce_o cA ad (μ q) (by omega : KD q < 20), hq2] at hat
        have hw := hwd
        simp only [jwd, c1] at hw
        obtain ⟨hf, h1⟩ := cd_some h1
        have hf2 : FT a b = 3 := Nat.eq_of_beq_eq_true hf
        obtain ⟨hty, hfin⟩ := (c6 b (by rw [c2]; exact hb13)).2.2 hf2
        refine va_put (D := D) (ci := a) (C := C) (T := T) (N := N) (ty := .array .byte) (rest := st.map (jemb ad)) (v := jemb ad (jR q2)) hx hb hts c3 ty c4 c5 hown hK hP hD hS q hat c1 b (by rw [c2]; exact hb13) (hts _ (hw _ List.mem_cons_self)) (fun _ h9 => h9) hfin (by rw [c4 b (by rw [c2]; exact hb13), hty]) rfl rfl (by simpa using hb13) hdec fun H1 locs1 hP1 hD1 hS1 => ?_
        rw [jfs_set ad (μ q) q a b (q2 : Int) (jemb ad (jR q2)) (jfl_r ad (μ q) q q2 hf2).symm (jNf a)] at hP1
        rw [jws_set (μ' := jup μ q b (q2 : Int)) hq3 (fun z hz => jup_ne hz) (by rw [jup_eq, jce_o cA ad _ (by omega : KD q < 20), hq2])] at hP1
        exact kk _ _ _ _ _ _ h1 ⟨hL, hoL, jokS_t (jokS_t hoS), hP1, hS1, jok_up hM q b (q2 : Int) (fun z => by omega) (fun _ => by have h9 : q2 < 100 := jokS_h hoS; unfold j32; omega)⟩
      · cases hmt
    · cases h1
  · split at h1
    · rename_i x q st
      obtain ⟨hq, h11⟩ := cd_some h1
      obtain ⟨hg, h12⟩ := gd_some h11
      have hq2 : KD q = 20 := Nat.eq_of_beq_eq_true hq
      have hq3 : q < 100 := jokS_h (jokS_t hoS)
      have hi : j32 x := jokS_h hoS
      simp only [jmt, decide_eq_true_eq] at hmt
      obtain ⟨rfl, rfl⟩ := hmt
      have hat := jws_at cA ad μ hq3
      rw [jce_a cA ad (μ q) (by omega : ¬ KD q < 20), jarr_i ad (μ q) (by omega : KD q < 23), hq2] at hat
      refine va_iald (rest := st.map (jemb ad)) (i := Int32.ofInt x) hx hb hK hP q 0 hat rfl (o_in hi hg) hdec ?_
      rw [o_cl hi, Int.toNat_of_nonneg hg.1]
      exact kk _ _ _ _ _ _ h12 (jRel_st hr (jokS_c ((hM q x).2 (by omega)) (jokS_t (jokS_t hoS))))
    · cases h1
  · split at h1
    · rename_i x q st
      obtain ⟨hq, h11⟩ := cd_some h1
      obtain ⟨hg, h12⟩ := gd_some h11
      have hq2 : KD q = a := Nat.eq_of_beq_eq_true hq
      have hq3 : q < 100 := jokS_h (jokS_t hoS)
      have hi : j32 x := jokS_h hoS
      simp only [jmt, decide_eq_true_eq] at hmt
      obtain ⟨rfl, rfl, ha⟩ := hmt
      have hat := jws_at cA ad μ hq3
      rw [jce_a cA ad (μ q) (by omega : ¬ KD q < 20), jarr_i ad (μ q) (by omega : KD q < 23), hq2] at hat
      rcases ha with rfl | rfl
      · refine va_bald (rest := st.map (jemb ad)) (i := Int32.ofInt x) hx hb hK hP q 1 hat rfl (o_in hi hg) hdec ?_
        rw [o_cl hi, Int.toNat_of_nonneg hg.1]
        exact kk _ _ _ _ _ _ h12 (jRel_st hr (jokS_c ((hM q x).2 (by omega)) (jokS_t (jokS_t hoS))))
      · refine va_zald (rest := st.map (jemb ad)) (i := Int32.ofInt x) hx hb hK hP q 2 hat rfl (o_in hi hg) hdec ?_
        rw [o_cl hi, Int.toNat_of_nonneg hg.1]
        exact kk _ _ _ _ _ _ h12 (jRel_st hr (jokS_c ((hM q x).2 (by omega)) (jokS_t (jokS_t hoS))))
    · cases h1
  · split at h1
    · rename_i x q st
      obtain ⟨hq, h11⟩ := cd_some h1
      obtain ⟨hg, h12⟩ := gd_some h11
      have hq2 : KD q = 23 := Nat.eq_of_beq_eq_true hq
      have hq3 : q < 100 := jokS_h (jokS_t hoS)
      have hi : j32 x := jokS_h hoS
      simp only [jmt, decide_eq_true_eq] at hmt
      obtain ⟨rfl, rfl⟩ := hmt
      have hat := jws_at cA ad μ hq3
      rw [jce_a cA ad (μ q) (by omega : ¬ KD q < 20), jarr_l ad (μ q) hq2, hq2] at hat
      refine va_lald (rest := st.map (jemb ad)) (i := Int32.ofInt x) hx hb hK hP q 3 hat rfl (o_in hi hg) hdec ?_
      rw [o_cl hi, Int.toNat_of_nonneg hg.1]
      exact kk _ _ _ _ _ _ h12 (jRel_st hr (jokS_c ((hM q x).1 hq2) (jokS_t (jokS_t hoS))))
    · cases h1
  · split at h1
    · rename_i x q st
      obtain ⟨hq, h11⟩ := cd_some h1
      obtain ⟨hg, h12⟩ := gd_some h11
      have hq2 : KD q = a := Nat.eq_of_beq_eq_true hq
      have hq3 : q < 100 := jokS_h (jokS_t hoS)
      have hi : j32 x := jokS_h hoS
      simp only [jmt, decide_eq_true_eq] at hmt
      obtain ⟨rfl, rfl, ha1, ha2⟩ := hmt
      have hat := jws_at cA ad μ hq3
      rw [jce_a cA ad (μ q) (by omega : ¬ KD q < 20), jarr_r ad (μ q) (by omega : 23 < KD q), hq2] at hat
      have fin : W p l e R s m args below meth c H locs 0 0 Q (F0 m (pc + 1) ls (va_rf (some (ad (RF q x))) :: st.map (jemb ad))) := kk _ _ _ _ _ _ h12 (jRel_st hr (jokS_c (RF_lt q x) (jokS_t (jokS_t hoS))))
      have hin := o_in hi hg
      have ecl : (((Int32.ofInt x).toNatClampNeg : Nat) : Int) = x := by rw [o_cl hi, Int.toNat_of_nonneg hg.1]
      have ha : a = 24 ∨ a = 25 ∨ a = 26 ∨ a = 27 := by omega
      rcases ha with rfl | rfl | rfl | rfl
      · refine va_aldq (rest := st.map (jemb ad)) (i := Int32.ofInt x) hx hb hK hP q 4 hat rfl hin hdec ?_
        rw [ecl]
        exact fin
      · refine va_aldq (rest := st.map (jemb ad)) (i := Int32.ofInt x) hx hb hK hP q 5 hat rfl hin hdec ?_
        rw [ecl]
        exact fin
      · refine va_aldq (rest := st.map (jemb ad)) (i := Int32.ofInt x) hx hb hK hP q 6 hat rfl hin hdec ?_
        rw [ecl]
        exact fin
      · have hlt : (Int32.ofInt x).toNatClampNeg < (LN q).toNat := Nat.not_le.mp fun z => hin (Or.inr z)
        refine W.aald (v := va_rf (some (ad (RF q ((Int32.ofInt x).toNatClampNeg : Nat))))) (ty := .array .int) (rest := st.map (jemb ad)) hx hb (hP q _ hat) ((hK.2 7 _ rfl).1 (LN q).toNat (fun j => va_rf (some (ad (RF q j))))) rfl (fun z => by cases z) (by show ¬ (_ ∨ (arrV _ _ _).slots.size ≤ _); rw [arrV_size]; exact hin) (by show (arrV _ _ _).slots[_]? = _; rw [arrV_read _ _ hlt]) rfl rfl hdec ?_
        rw [ecl]
        exact fin
    · cases h1
  · split at h1
    · rename_i v x q st
      obtain ⟨hq, h11⟩ := cd_some h1
      obtain ⟨hg, h12⟩ := gd_some h11
      have hq2 : KD q = 20 := Nat.eq_of_beq_eq_true hq
      have hq3 : q < 100 := jokS_h (jokS_t (jokS_t hoS))
      have hi : j32 x := jokS_h (jokS_t hoS)
      simp only [jmt, decide_eq_true_eq] at hmt
      obtain ⟨rfl, rfl⟩ := hmt
      have hat := jws_at cA ad μ hq3
      rw [jce_a cA ad (μ q) (by omega : ¬ KD q < 20), jarr_i ad (μ q) (by omega : KD q < 23), hq2] at hat
      refine va_iast (rest := st.map (jemb ad)) (i := Int32.ofInt x) (x := Int32.ofInt v) hx hb hK hP hD hS q 0 hat rfl (o_in hi hg) hdec fun H1 locs1 hP1 hD1 hS1 => ?_
      rw [jws_set (μ' := jup μ q x v) hq3 (fun z hz => jup_ne hz) (by rw [jup_eq, jce_a cA ad _ (by omega : ¬ KD q < 20), jarr_i ad _ (by omega : KD q < 23), hq2, o_cl hi, jupd _ hg.1 _ rfl])] at hP1
      exact kk _ _ _ _ _ _ h12 ⟨hL, hoL, jokS_t (jokS_t (jokS_t hoS)), hP1, hS1, jok_up hM q x v (fun z => by omega) (fun _ => jokS_h hoS)⟩
    · cases h1
  · split at h1
    · rename_i v x q st
      obtain ⟨hq, h11⟩ := cd_some h1
      obtain ⟨hg, h12⟩ := gd_some h11
      have hq2 : KD q = a := Nat.eq_of_beq_eq_true hq
      have hq3 : q < 100 := jokS_h (jokS_t (jokS_t hoS))
      have hi : j32 x := jokS_h (jokS_t hoS)
      simp only [jmt, decide_eq_true_eq] at hmt
      obtain ⟨rfl, rfl, ha⟩ := hmt
      have hat := jws_at cA ad μ hq3
      rw [jce_a cA ad (μ q) (by omega : ¬ KD q < 20), jarr_i ad (μ q) (by omega : KD q < 23), hq2] at hat
      rcases ha with rfl | rfl
      · refine va_bast (rest := st.map (jemb ad)) (i := Int32.ofInt x) (x := Int32.ofInt v) hx hb hK hP hD hS q 1 hat rfl (o_in hi hg) hdec fun H1 locs1 hP1 hD1 hS1 => ?_
        rw [jws_set (μ' := jup μ q x (jb8 v)) hq3 (fun z hz => jup_ne hz) (by rw [jup_eq, jce_a cA ad _ (by omega : ¬ KD q < 20), jarr_i ad _ (by omega : KD q < 23), hq2, o_cl hi, jupd _ hg.1 _ ((vp_nar_byte _).trans (o_b8 v))])] at hP1
        exact kk _ _ _ _ _ _ h12 ⟨hL, hoL, jokS_t (jokS_t (jokS_t hoS)), hP1, hS1, jok_up hM q x (jb8 v) (fun z => by omega) (fun _ => o_r32 _)⟩
      · have h13 : gd (v = 0 ∨ v = 1) (k lv st (jup μ q x v)) = some o := h12
        obtain ⟨hz, h12⟩ := gd_some h13
        refine va_zast (rest := st.map (jemb ad)) (i := Int32.ofInt x) (x := Int32.ofInt v) hx hb hK hP hD hS q 2 hat rfl (o_in hi hg) hdec fun H1 locs1 hP1 hD1 hS1 => ?_
        rw [jws_set (μ' := jup μ q x v) hq3 (fun z hz => jup_ne hz) (by rw [jup_eq, jce_a cA ad _ (by omega : ¬ KD q < 20), jarr_i ad _ (by omega : KD q < 23), hq2, o_cl hi, jupd _ hg.1 _ (o_bool hz)])] at hP1
        exact kk _ _ _ _ _ _ h12 ⟨hL, hoL, jokS_t (jokS_t (jokS_t hoS)), hP1, hS1, jok_up hM q x v (fun z => by omega) (fun _ => jokS_h hoS)⟩
    · cases h1
  · split at h1
    · rename_i v x q st
      obtain ⟨hq, h11⟩ := cd_some h1
      obtain ⟨hg, h12⟩ := gd_some h11
      have hq2 : KD q = 23 := Nat.eq_of_beq_eq_true hq
      have hq3 : q < 100 := jokS_h (jokS_t (jokS_t hoS))
      have hi : j32 x := jokS_h (jokS_t hoS)
      simp only [jmt, decide_eq_true_eq] at hmt
      obtain ⟨rfl, rfl⟩ := hmt
      have hat := jws_at cA ad μ hq3
      rw [jce_a cA ad (μ q) (by omega : ¬ KD q < 20), jarr_l ad (μ q) hq2, hq2] at hat
      refine va_last (rest := st.map (jemb ad)) (i := Int32.ofInt x) (x := Int64.ofInt v) hx hb hK hP hD hS q 3 hat rfl (o_in hi hg) hdec fun H1 locs1 hP1 hD1 hS1 => ?_
      rw [jws_set (μ' := jup μ q x v) hq3 (fun z hz => jup_ne hz) (by rw [jup_eq, jce_a cA ad _ (by omega : ¬ KD q < 20), jarr_l ad _ hq2, hq2, o_cl hi, jupdl _ hg.1])] at hP1
      exact kk _ _ _ _ _ _ h12 ⟨hL, hoL, jokS_t (jokS_t (jokS_t hoS)), hP1, hS1, jok_up hM q x v (fun _ => jokS_h hoS) (fun z => absurd hq2 z)⟩
    · cases h1
  · split at h1
    · rename_i q st
      obtain ⟨hq, h1⟩ := cd_some h1
      simp only [Bool.and_eq_true, Nat.ble_eq] at hq
      have hq3 : q < 100 := jokS_h hoS
      simp only [jmt, decide_eq_true_eq] at hmt
      obtain ⟨rfl, rfl⟩ := hmt
      have hat := jws_at cA ad μ hq3
      rw [jce_a cA ad (μ q) (by omega : ¬ KD q < 20)] at hat
      obtain ⟨ty, hty⟩ := jtys_at cA hq.1 hq.2
      have hln := LN_ok q
      exact va_alen (rest := st.map (jemb ad)) hx hb hK hP q (KD q - 20) hat hty (o_ln q) hdec (kk _ _ _ _ _ _ h1 (jRel_st hr (jokS_c (show j32 (LN q) by unfold j32; omega) (jokS_t hoS))))
    · cases h1
  · split at h1
    · rename_i y x st
      obtain ⟨hq, h1⟩ := cd_some h1
      have hcat : jcat st ≤ 8 := Nat.le_of_ble_eq_true hq
      simp only [jmt] at hmt
      split at hmt
      · simp only [decide_eq_true_eq] at hmt
        subst hmt
        have hlo : ((st.map (jemb ad)).map fun v => v.category).sum + 13 ≤ R.locals := by
          rw [jcat_cat]
          omega
        refine va_mmax (y := Int32.ofInt y) (x := Int32.ofInt x) (rest := st.map (jemb ad)) hx hb (by rw [hml]; exact hL.2.1.symm) hown (hts _ (hwd _ List.mem_cons_self)) (hts _ jn_max1) (hts _ jn_math) (hts _ jn_max2) hRf hlo (Nat.zero_le _) (Nat.zero_le _) hdec ?_
        have e9 : (if Int32.ofInt x < Int32.ofInt y then Int32.ofInt y else Int32.ofInt x) = Int32.ofInt (max x y) := by
          have hlt := o_lt (jokS_h (jokS_t hoS)) (jokS_h hoS)
          by_cases h9 : x < y
          · rw [if_pos (hlt.mpr h9), Int.max_eq_right (by omega)]
          · rw [if_neg (fun z => h9 (hlt.mp z)), Int.max_eq_left (by omega)]
        rw [e9]
        exact kk _ _ _ _ _ _ h1 (jRel_st hr (jokS_c (by rcases Int.le_total x y with z | z; rw [Int.max_eq_right z]; exact jokS_h hoS; rw [Int.max_eq_left z]; exact jokS_h (jokS_t hoS)) (jokS_t (jokS_t hoS))))
      · cases hmt
    · cases h1
  · split at h1
    · rename_i y x st
      obtain ⟨hq, h1⟩ := cd_some h1
      have hcat : jcat st ≤ 8 := Nat.le_of_ble_eq_true hq
      simp only [jmt] at hmt
      split at hmt
      · simp only [decide_eq_true_eq] at hmt
        subst hmt
        have hlo : ((st.map (jemb ad)).map fun v => v.category).sum + 13 ≤ R.locals := by
          rw [jcat_cat]
          omega
        refine va_mmin (y := Int32.ofInt y) (x := Int32.ofInt x) (rest := st.map (jemb ad)) hx hb (by rw [hml]; exact hL.2.1.symm) hown (hts _ (hwd _ List.mem_cons_self)) (hts _ jn_min1) (hts _ jn_math) (hts _ jn_min2) hRf hlo (Nat.zero_le _) (Nat.zero_le _) hdec ?_
        have e9 : (if Int32.ofInt y < Int32.ofInt x then Int32.ofInt y else Int32.ofInt x) = Int32.ofInt (min x y) := by
          have hlt := o_lt (jokS_h hoS) (jokS_h (jokS_t hoS))
          by_cases h9 : y < x
          · rw [if_pos (hlt.mpr h9), Int.min_eq_right (by omega)]
          · rw [if_neg (fun z => h9 (hlt.mp z)), Int.min_eq_left (by omega)]
        rw [e9]
        exact kk _ _ _ _ _ _ h1 (jRel_st hr (jokS_c (by rcases Int.le_total x y with z | z; rw [Int.min_eq_left z]; exact jokS_h (jokS_t hoS); rw [Int.min_eq_right z]; exact jokS_h hoS) (jokS_t (jokS_t hoS))))
      · cases hmt
    · cases h1
  · split at h1
    · rename_i x st
      obtain ⟨hq, h1⟩ := cd_some h1
      have hcat : jcat st ≤ 8 := Nat.le_of_ble_eq_true hq
      simp only [jmt] at hmt
      split at hmt
      · simp only [decide_eq_true_eq] at hmt
        subst hmt
        have hlo : ((st.map (jemb ad)).map fun v => v.category).sum + 13 ≤ R.locals := by
          rw [jcat_cat]
          omega
        refine va_mabs (x := Int32.ofInt x) (rest := st.map (jemb ad)) hx hb (by rw [hml]; exact hL.2.1.symm) hown (hts _ (hwd _ List.mem_cons_self)) (hts _ jn_abs1) (hts _ jn_math) (hts _ jn_abs2) hRf hlo (Nat.zero_le _) (Nat.zero_le _) hdec ?_
        have e9 : (if 0 ≤ Int32.ofInt x then Int32.ofInt x else 0 - Int32.ofInt x) = Int32.ofInt (jabs x) := by
          have hle : (0 : Int32) ≤ Int32.ofInt x ↔ 0 ≤ x := o_le o_z32 (jokS_h hoS)
          unfold jabs
          by_cases h9 : 0 ≤ x
          · rw [if_pos (hle.mpr h9), if_pos h9]
          · rw [if_neg (fun z => h9 (hle.mp z)), if_neg h9]
            exact o_sub 0 x
        rw [e9]
        exact kk _ _ _ _ _ _ h1 (jRel_st hr (jokS_c (by unfold jabs; split; exact jokS_h hoS; exact o_w32r _) (jokS_t hoS)))
      · cases hmt
    · cases h1
  · split at h1
    · rename_i n dp q sp q0
      obtain ⟨hq, h1⟩ := cd_some h1
      obtain ⟨hg, h1⟩ := gd_some h1
      simp only [Bool.and_eq_true] at hq
      have hk0 : KD q0 = 20 := Nat.eq_of_beq_eq_true hq.1
      have hk1 : KD q = 20 := Nat.eq_of_beq_eq_true hq.2
      have hn : j32 n := jokS_h hoS
      have hdp : j32 dp := jokS_h (jokS_t hoS)
      have hq3 : q < 100 := jokS_h (jokS_t (jokS_t hoS))
      have hsp : j32 sp := jokS_h (jokS_t (jokS_t (jokS_t hoS)))
      have hq03 : q0 < 100 := jokS_h (jokS_t (jokS_t (jokS_t (jokS_t hoS))))
      simp only [jmt] at hmt
      split at hmt
      · simp only [decide_eq_true_eq] at hmt
        subst hmt
        have hat0 := jws_at cA ad μ hq03
        rw [jce_a cA ad (μ q0) (by omega : ¬ KD q0 < 20), jarr_i ad (μ q0) (by omega : KD q0 < 23), hk0] at hat0
        have hat := jws_at cA ad μ hq3
        rw [jce_a cA ad (μ q) (by omega : ¬ KD q < 20), jarr_i ad (μ q) (by omega : KD q < 23), hk1] at hat
        have pos : ∀ {z : Int}, j32 z → 0 ≤ z → ¬ Int32.ofInt z < 0 := fun {z} hz h0 h9 => by
          have := (o_lt hz o_z32).mp h9
          omega
        refine va_copyi (ty := .int) (rest := []) (sp := Int32.ofInt sp) (dp := Int32.ofInt dp) (n := Int32.ofInt n) hx hb (by rw [hml]; exact hL.2.1.symm) hown (hts _ (hwd _ List.mem_cons_self)) (hts _ jn_arr1) (hts _ jn_arr2) (hts _ jn_arr3) hK hP hD hS q0 q 0 0 hat0 hat rfl rfl rfl (pos hsp hg.2.1) (pos hdp hg.2.2.1) (pos hn hg.1) (by rw [o_cl hsp, o_cl hn]; omega) (by rw [o_cl hdp, o_cl hn]; omega) (fun _ _ => rfl) hRf (Nat.le_trans (show 0 + (nativeFrameWords "java/lang/System" "arraycopy" 5 + 11) ≤ 40 by decide +kernel) hRl) hdec fun H1 locs1 hP1 hD1 hS1 => ?_
        have ef : (va_cpy (fun j : Nat => Int32.ofInt (μ q0 j)) (fun j : Nat => Int32.ofInt (μ q j)) (Int32.ofInt sp).toNatClampNeg (Int32.ofInt dp).toNatClampNeg (Int32.ofInt n).toNatClampNeg) = fun j : Nat => Int32.ofInt ((fun j => if dp ≤ j ∧ j < dp + n then μ q0 (sp + (j - dp)) else μ q j) (j : Int)) := by
          funext j
          unfold va_cpy
          rw [o_cl hsp, o_cl hdp, o_cl hn]
          show _ = Int32.ofInt (if dp ≤ (j : Int) ∧ (j : Int) < dp + n then μ q0 (sp + ((j : Int) - dp)) else μ q j)
          by_cases hj : dp.toNat ≤ j ∧ j < dp.toNat + n.toNat
          · rw [if_pos hj, if_pos (by omega)]
            have e5 : ((sp.toNat + (j - dp.toNat) : Nat) : Int) = sp + ((j : Int) - dp) := by omega
            show Int32.ofInt (μ q0 ((sp.toNat + (j - dp.toNat) : Nat) : Int)) = _
            rw [e5]
          · rw [if_neg hj, if_neg (by omega)]
        rw [ef] at hP1
        rw [jws_set (μ' := jfill μ q (fun j => if dp ≤ j ∧ j < dp + n then μ q0 (sp + (j - dp)) else μ q j)) hq3 (fun z hz => jfill_ne hz) (by rw [jfill_eq, jce_a cA ad _ (by omega : ¬ KD q < 20), jarr_i ad _ (by omega : KD q < 23), hk1])] at hP1
        refine kk _ _ _ _ _ _ h1 ⟨hL, hoL, fun _ h9 => absurd h9 List.not_mem_nil, hP1, hS1, jok_fill hM q _ (fun j z => by omega) (fun j _ => ?_)⟩
        show j32 (if dp ≤ j ∧ j < dp + n then μ q0 (sp + (j - dp)) else μ q j)
        split
        · exact (hM q0 _).2 (by omega)
        · exact (hM q _).2 (by omega)
      · cases hmt
    · cases h1
  · cases h1
end J1
end
section
abbrev jIm : Type := MethodName × ByteArray × Nat × Option FieldType × jT × Nat × Bool
def jIs_0 : List jIm := [(yJ6_bitCount_0f7a4, cJ6_bitCount_0f7a4, 1, (some .int), T_bitCount, 1, true), (yJ7_fill_53178, cJ7_fill_53178, 4, none, T_fill, 2, true), (yX0_size, cX0_size, 1, (some .int), T_X0_size, 0, false), (yX0_set, cX0_set, 1, (some .int), T_X0_set, 0, false), (yX0_last, cX0_last, 1, (some .int), T_X0_last, 0, false), (yX0_add, cX0_add, 2, none, T_X0_add, 1, false), (yX0_takeLast, cX0_takeLast, 2, (some .int), T_X0_takeLast, 0, false), (yX0_clear, cX0_clear, 1, none, T_X0_clear, 0, false), (yX0_copy, cX0_copy, 2, none, T_X0_copy, 1, false), (yX1_dishes, cX1_dishes, 1, (some .int), T_X1_dishes, 0, false), (yX1_guests, cX1_guests, 1, (some .int), T_X1_guests, 0, false), (yX1_hasDish, cX1_hasDish, 2, (some .boolean), T_X1_hasDish, 1, false), (yX1_hasGuest, cX1_hasGuest, 2, (some .boolean), T_X1_hasGuest, 1, false), (yX1_all, cX1_all, 1, (some .int), T_X1_all, 0, false), (yX1_stuffsOf, cX1_stuffsOf, 2, (some .int), T_X1_stuffsOf, 1, false), (yX1_costOf, cX1_costOf, 2, (some .int), T_X1_costOf, 1, false), (yX1_heatOf, cX1_heatOf, 2, (some .int), T_X1_heatOf, 1, false), (yX1_hoursOf, cX1_hoursOf, 2, (some .int), T_X1_hoursOf, 1, false), (yX1_lovedBy, cX1_lovedBy, 2, (some .int), T_X1_lovedBy, 1, false), (yX1_barredBy, cX1_barredBy, 2, (some .int), T_X1_barredBy, 1, false), (yX1_holdersOf, cX1_holdersOf, 2, (some .int), T_X1_holdersOf, 1, false), (yX1_draftDish, cX1_draftDish, 6, none, T_X1_draftDish, 5, false), (yX1_draftGuest, cX1_draftGuest, 4, none, T_X1_draftGuest, 3, false), (yX1_takeIn, cX1_takeIn, 5, none, T_X1_takeIn, 2, false), (yX1_price, cX1_price, 3, none, T_X1_price, 2, false), (yX1_costOfAll, cX1_costOfAll, 4, (some .int), T_X1_costOfAll, 1, false), (yX1_isHungry, cX1_isHungry, 3, (some .boolean), T_X1_isHungry, 2, false), (yX1_hungryAt, cX1_hungryAt, 4, (some .int), T_X1_hungryAt, 1, false), (yX1_barredTo, cX1_barredTo, 4, (some .int), T_X1_barredTo, 1, false), (yX1_barredToNobody, cX1_barredToNobody, 3, (some .int), T_X1_barredToNobody, 0, false), (yX1_hotDishes, cX1_hotDishes, 3, (some .int), T_X1_hotDishes, 0, false), (yX1_holdersOfSome, cX1_holdersOfSome, 5, (some .int), T_X1_holdersOfSome, 2, false), (yX1_sharing, cX1_sharing, 3, (some .int), T_X1_sharing, 2, false), (yX1_partOf, cX1_partOf, 6, (some .int), T_X1_partOf, 2, false), (yX2_allows, cX2_allows, 2, (some .boolean), T_X2_allows, 2, true), (yX2_share, cX2_share, 1, (some .int), T_X2_share, 0, false), (yX2_heat, cX2_heat, 1, (some .int), T_X2_heat, 0, false), (yX2_most, cX2_most, 2, (some .int), T_X2_most, 1, false), (yX2_change, cX2_change, 4, (some .int), T_X2_change, 2, false), (yX2_restock, cX2_restock, 4, (some .int), T_X2_restock, 2, false)]
def jIs_1 : List jIm := [(yX2_copy, cX2_copy, 2, none, T_X2_copy, 1, false), (yX2_useUp, cX2_useUp, 4, none, T_X2_useUp, 2, false), (yX2_refusal, cX2_refusal, 8, (some .int), T_X2_refusal, 4, false), (yX2_isAgainstHeat, cX2_isAgainstHeat, 5, (some .boolean), T_X2_isAgainstHeat, 4, false), (yX3_value, cX3_value, 4, (some .int), T_X3_value, 2, false), (yX3_setValue, cX3_setValue, 5, none, T_X3_setValue, 3, false), (yX3_countRows, cX3_countRows, 6, (some .long), T_X3_countRows, 2, false), (yX3_countOn, cX3_countOn, 5, none, T_X3_countOn, 2, false), (yX3_countWith, cX3_countWith, 5, (some .int), T_X3_countWith, 2, false), (yX3_mending, cX3_mending, 7, (some .int), T_X3_mending, 3, false), (yX3_fewestChanges, cX3_fewestChanges, 6, (some .int), T_X3_fewestChanges, 3, false), (yX3_changesWith, cX3_changesWith, 5, (some .int), T_X3_changesWith, 3, false), (yX3_tellMended, cX3_tellMended, 9, none, T_X3_tellMended, 3, false), (yX3_playBoth, cX3_playBoth, 8, (some .int), T_X3_playBoth, 2, false), (yX3_playGreedy, cX3_playGreedy, 8, (some .int), T_X3_playGreedy, 4, false), (yX3_worthToOther, cX3_worthToOther, 7, (some .int), T_X3_worthToOther, 3, false), (yX3_mostJoyful, cX3_mostJoyful, 5, (some .int), T_X3_mostJoyful, 1, false), (yX3_leastFor, cX3_leastFor, 5, (some .int), T_X3_leastFor, 2, false), (yX4_size, cX4_size, 1, (some .int), T_X4_size, 0, false), (yX4_at, cX4_at, 2, (some .int), T_X4_at, 1, false), (yX4_isKnown, cX4_isKnown, 2, (some .boolean), T_X4_isKnown, 0, false), (yX4_clear, cX4_clear, 1, none, T_X4_clear, 0, false), (yX4_addAll, cX4_addAll, 3, none, T_X4_addAll, 1, false), (yX4_read, cX4_read, 6, (some .int), T_X4_read, 2, false), (yX4_exchange, cX4_exchange, 4, (some .boolean), T_X4_exchange, 2, false), (yX4_reverse, cX4_reverse, 2, none, T_X4_reverse, 0, false), (yX4_put, cX4_put, 3, none, T_X4_put, 2, false), (yX4_fault, cX4_fault, 4, (some .int), T_X4_fault, 2, false), (yX4_whyAt, cX4_whyAt, 5, (some .int), T_X4_whyAt, 3, false), (yX4_setTill, cX4_setTill, 4, (some .int), T_X4_setTill, 1, false), (yX4_costTill, cX4_costTill, 5, (some .int), T_X4_costTill, 2, false), (yX4_hungryTill, cX4_hungryTill, 5, (some .int), T_X4_hungryTill, 2, false), (yX4_mostAtOnce, cX4_mostAtOnce, 7, (some .int), T_X4_mostAtOnce, 1, false), (yX4_cook, cX4_cook, 8, (some .int), T_X4_cook, 3, false), (yX4_placesEaten, cX4_placesEaten, 5, (some .int), T_X4_placesEaten, 2, false), (yX4_stuffsEaten, cX4_stuffsEaten, 5, (some .int), T_X4_stuffsEaten, 2, false), (yX5_begin, cX5_begin, 1, none, T_X5_begin, 0, false), (yX5_addLine, cX5_addLine, 1, none, T_X5_addLine, 0, false), (yX5_weigh, cX5_weigh, 3, none, T_X5_weigh, 2, false), (yX5_weighAll, cX5_weighAll, 4, none, T_X5_weighAll, 2, false)]
def jIs_2 : List jIm := [(yX5_endWith, cX5_endWith, 2, none, T_X5_endWith, 1, false), (yX5_limit, cX5_limit, 4, none, T_X5_limit, 2, false), (yX5_greatest, cX5_greatest, 6, (some .int), T_X5_greatest, 3, false), (yX5_seek, cX5_seek, 6, (some .int), T_X5_seek, 3, false), (yX5_isGoal, cX5_isGoal, 5, (some .boolean), T_X5_isGoal, 4, false), (yX5_worth, cX5_worth, 5, (some .int), T_X5_worth, 2, false), (yX5_sum, cX5_sum, 4, (some .int), T_X5_sum, 2, true), (yX5_lead, cX5_lead, 5, none, T_X5_lead, 1, false), (yX5_isMarked, cX5_isMarked, 3, (some .boolean), T_X5_isMarked, 2, false), (yX5_tell, cX5_tell, 8, none, T_X5_tell, 2, false), (yX5_possibleAt, cX5_possibleAt, 5, (some .int), T_X5_possibleAt, 2, false), (yX5_joiningStuffs, cX5_joiningStuffs, 7, (some .int), T_X5_joiningStuffs, 3, false), (yX5_findBeginnings, cX5_findBeginnings, 6, none, T_X5_findBeginnings, 1, false), (yX5_isHeatLost, cX5_isHeatLost, 3, (some .boolean), T_X5_isHeatLost, 3, true), (yX5_findGaps, cX5_findGaps, 6, none, T_X5_findGaps, 2, false), (yX5_joins, cX5_joins, 6, (some .boolean), T_X5_joins, 3, false), (yX6_read, cX6_read, 5, (some .int), T_X6_read, 2, false), (yX6_readLine, cX6_readLine, 4, (some .boolean), T_X6_readLine, 2, false), (yX6_readGuest, cX6_readGuest, 4, (some .boolean), T_X6_readGuest, 2, false), (yX6_readDish, cX6_readDish, 7, (some .boolean), T_X6_readDish, 2, false), (yX6_readDigit, cX6_readDigit, 3, (some .int), T_X6_readDigit, 1, false), (yX6_readStuffs, cX6_readStuffs, 5, (some .int), T_X6_readStuffs, 1, false), (yX7_size, cX7_size, 1, (some .int), T_X7_size, 0, false), (yX7_at, cX7_at, 2, (some .int), T_X7_at, 1, false), (yX7_clear, cX7_clear, 1, none, T_X7_clear, 0, false), (yX7_add, cX7_add, 2, none, T_X7_add, 1, false), (yX8_learn, cX8_learn, 4, none, T_X8_learn, 2, false), (yX8_isStocked, cX8_isStocked, 3, (some .boolean), T_X8_isStocked, 1, false), (yX8_begin, cX8_begin, 4, none, T_X8_begin, 3, false), (yX8_allow, cX8_allow, 3, none, T_X8_allow, 2, false), (yX8_dishes, cX8_dishes, 1, (some .int), T_X8_dishes, 0, false), (yX8_sets, cX8_sets, 1, (some .int), T_X8_sets, 0, false), (yX8_from, cX8_from, 1, (some .int), T_X8_from, 0, false), (yX8_start, cX8_start, 1, (some .int), T_X8_start, 0, false), (yX8_hot, cX8_hot, 1, (some .int), T_X8_hot, 0, false), (yX8_isHotToStay, cX8_isHotToStay, 1, (some .boolean), T_X8_isHotToStay, 0, false), (yX8_near, cX8_near, 2, (some .int), T_X8_near, 1, false), (yX8_fits, cX8_fits, 2, (some .boolean), T_X8_fits, 1, false), (yX8_ends, cX8_ends, 2, (some .int), T_X8_ends, 1, false), (yX8_more, cX8_more, 2, (some .int), T_X8_more, 1, false)]
def jIs_3 : List jIm := [(yX8_open, cX8_open, 6, (some .int), T_X8_open, 1, false), (yX8_reach, cX8_reach, 4, none, T_X8_reach, 0, false), (yX8_inSetsAbove, cX8_inSetsAbove, 4, (some .int), T_X8_inSetsAbove, 1, false), (yX9_read, cX9_read, 2, (some .int), T_X9_read, 1, false), (yX9_readExpression, cX9_readExpression, 4, (some .boolean), T_X9_readExpression, 2, false), (yX9_readSum, cX9_readSum, 6, (some .boolean), T_X9_readSum, 2, false), (yX9_readProduct, cX9_readProduct, 6, (some .boolean), T_X9_readProduct, 2, false), (yX9_readFactor, cX9_readFactor, 5, (some .boolean), T_X9_readFactor, 2, false), (yX9_readThing, cX9_readThing, 4, (some .boolean), T_X9_readThing, 2, false), (yX9_readBracket, cX9_readBracket, 3, (some .boolean), T_X9_readBracket, 2, false), (yX9_readNumber, cX9_readNumber, 4, none, T_X9_readNumber, 1, false), (yX9_isQuality, cX9_isQuality, 1, (some .boolean), T_X9_isQuality, 1, true), (yX9_emit, cX9_emit, 2, none, T_X9_emit, 1, false), (yX9_of, cX9_of, 7, (some .int), T_X9_of, 3, false), (yX9_ofAll, cX9_ofAll, 5, (some .int), T_X9_ofAll, 2, false), (yX9_push, cX9_push, 2, none, T_X9_push, 1, false), (yX9_pop, cX9_pop, 1, (some .int), T_X9_pop, 0, false), (yX9_quality, cX9_quality, 5, (some .int), T_X9_quality, 4, true), (yX9_result, cX9_result, 3, (some .int), T_X9_result, 3, true), (yX10_length, cX10_length, 1, (some .int), T_X10_length, 0, false), (yX10_append, cX10_append, 3, (some .boolean), T_X10_append, 1, false), (yX10_cutTo, cX10_cutTo, 2, (some .boolean), T_X10_cutTo, 1, false), (yX10_clear, cX10_clear, 1, none, T_X10_clear, 0, false), (yX10_at, cX10_at, 3, (some .int), T_X10_at, 2, false), (yX10_hasDigit, cX10_hasDigit, 4, (some .boolean), T_X10_hasDigit, 2, false), (yX11_sign, cX11_sign, 2, (some .int), T_X11_sign, 1, false), (yX11_end, cX11_end, 2, (some .boolean), T_X11_end, 1, false), (yX11_kitchen, cX11_kitchen, 2, (some .int), T_X11_kitchen, 0, false), (yX11_rule, cX11_rule, 2, (some .int), T_X11_rule, 0, false), (yX11_dish, cX11_dish, 3, (some .int), T_X11_dish, 2, false), (yX11_guest, cX11_guest, 3, (some .int), T_X11_guest, 2, false), (yX11_joy, cX11_joy, 3, (some .int), T_X11_joy, 2, false), (yX11_law, cX11_law, 3, (some .int), T_X11_law, 2, false), (yX11_store, cX11_store, 4, (some .int), T_X11_store, 2, false), (yX11_sheet, cX11_sheet, 8, (some .int), T_X11_sheet, 4, false), (yX11_asEntry, cX11_asEntry, 3, (some .int), T_X11_asEntry, 2, true), (yX11_serve, cX11_serve, 3, (some .int), T_X11_serve, 1, false), (yX11_back, cX11_back, 1, (some .int), T_X11_back, 0, false), (yX11_over, cX11_over, 2, (some .int), T_X11_over, 0, false), (yX11_can, cX11_can, 3, (some .int), T_X11_can, 0, false)]
def jIs_4 : List jIm := [(yX11_menu, cX11_menu, 3, (some .int), T_X11_menu, 1, false), (yX11_look, cX11_look, 5, (some .int), T_X11_look, 1, false), (yX11_swap, cX11_swap, 4, (some .boolean), T_X11_swap, 3, false), (yX11_turn, cX11_turn, 2, (some .boolean), T_X11_turn, 1, false), (yX11_joined, cX11_joined, 4, (some .int), T_X11_joined, 2, false), (yX11_falls, cX11_falls, 6, (some .int), T_X11_falls, 3, false), (yX11_isLaid, cX11_isLaid, 2, (some .boolean), T_X11_isLaid, 1, false), (yX11_isWhole, cX11_isWhole, 2, (some .boolean), T_X11_isWhole, 1, false), (yX11_longest, cX11_longest, 1, (some .int), T_X11_longest, 0, false), (yX11_ways, cX11_ways, 2, (some .long), T_X11_ways, 1, false), (yX11_between, cX11_between, 3, (some .int), T_X11_between, 2, false), (yX11_shortest, cX11_shortest, 3, (some .int), T_X11_shortest, 2, false), (yX11_bears, cX11_bears, 2, (some .int), T_X11_bears, 1, false), (yX11_beside, cX11_beside, 2, (some .int), T_X11_beside, 1, false), (yX11_parts, cX11_parts, 4, (some .int), T_X11_parts, 0, false), (yX11_rare, cX11_rare, 5, (some .int), T_X11_rare, 0, false), (yX11_round, cX11_round, 5, (some .int), T_X11_round, 0, false), (yX11_shut, cX11_shut, 2, (some .int), T_X11_shut, 1, false), (yX11_goOn, cX11_goOn, 2, none, T_X11_goOn, 1, false), (yX11_beginAnew, cX11_beginAnew, 2, none, T_X11_beginAnew, 1, false), (yX11_tellMost, cX11_tellMost, 1, (some .int), T_X11_tellMost, 0, false), (yX11_tellBetween, cX11_tellBetween, 4, (some .int), T_X11_tellBetween, 3, false), (yX11_goRound, cX11_goRound, 2, none, T_X11_goRound, 1, false), (yX11_best, cX11_best, 4, (some .int), T_X11_best, 2, false), (yX11_fair, cX11_fair, 5, (some .int), T_X11_fair, 2, false), (yX11_cheap, cX11_cheap, 2, (some .int), T_X11_cheap, 1, false), (yX11_dear, cX11_dear, 2, (some .int), T_X11_dear, 1, false), (yX11_tellJoy, cX11_tellJoy, 4, (some .int), T_X11_tellJoy, 2, false), (yX11_tellCost, cX11_tellCost, 5, (some .int), T_X11_tellCost, 3, false), (yX11_game, cX11_game, 1, (some .int), T_X11_game, 0, false), (yX11_greedy, cX11_greedy, 1, (some .int), T_X11_greedy, 0, false), (yX11_mend, cX11_mend, 3, (some .int), T_X11_mend, 2, false), (yX11_fills, cX11_fills, 3, (some .long), T_X11_fills, 1, false), (yX11_sure, cX11_sure, 5, (some .int), T_X11_sure, 2, false), (yX11_layFilled, cX11_layFilled, 3, none, T_X11_layFilled, 1, false), (yX11_hearths, cX11_hearths, 4, (some .int), T_X11_hearths, 1, false), (yX11_late, cX11_late, 3, (some .int), T_X11_late, 2, false), (yX11_poison, cX11_poison, 6, (some .int), T_X11_poison, 2, false), (yX11_eats, cX11_eats, 7, (some .int), T_X11_eats, 2, false), (yX11_made, cX11_made, 2, (some .int), T_X11_made, 0, false)]
def jIs_5 : List jIm := [(yX11_keep, cX11_keep, 2, (some .boolean), T_X11_keep, 1, false), (yX11_again, cX11_again, 2, (some .boolean), T_X11_again, 1, false), (yX11_count, cX11_count, 2, (some .int), T_X11_count, 1, false), (yX11_row, cX11_row, 2, (some .int), T_X11_row, 1, false), (yX11_menusLaid, cX11_menusLaid, 3, (some .int), T_X11_menusLaid, 0, false), (yX12_thrown, cX12_thrown, 1, (some .int), T_X12_thrown, 0, false), (yX12_in, cX12_in, 3, (some .boolean), T_X12_in, 3, true), (yX12_has, cX12_has, 2, (some .boolean), T_X12_has, 2, true), (yX12_lost, cX12_lost, 1, (some .int), T_X12_lost, 0, false), (yX12_tell, cX12_tell, 2, none, T_X12_tell, 1, false), (yX12_isDish, cX12_isDish, 2, (some .boolean), T_X12_isDish, 1, false), (yX12_isGuest, cX12_isGuest, 2, (some .boolean), T_X12_isGuest, 1, false), (yX12_sign, cX12_sign, 3, (some .int), T_X12_sign, 1, false), (yX12_end, cX12_end, 2, (some .boolean), T_X12_end, 1, false), (yX12_begin, cX12_begin, 4, none, T_X12_begin, 3, false), (yX12_here, cX12_here, 1, (some .int), T_X12_here, 0, false), (yX12_fine, cX12_fine, 1, (some .boolean), T_X12_fine, 0, false), (yX12_fault, cX12_fault, 2, none, T_X12_fault, 1, false), (yX12_passes, cX12_passes, 2, (some .boolean), T_X12_passes, 1, false), (yX12_number, cX12_number, 4, (some .int), T_X12_number, 1, false), (yX12_letters, cX12_letters, 5, (some .int), T_X12_letters, 1, false), (yX12_kitchen, cX12_kitchen, 5, (some .int), T_X12_kitchen, 0, false), (yX12_readGuest, cX12_readGuest, 2, none, T_X12_readGuest, 1, false), (yX12_held, cX12_held, 3, (some .int), T_X12_held, 1, false), (yX12_sum, cX12_sum, 5, (some .int), T_X12_sum, 1, false), (yX12_product, cX12_product, 5, (some .int), T_X12_product, 1, false), (yX12_thing, cX12_thing, 4, (some .int), T_X12_thing, 1, false), (yX12_letter, cX12_letter, 3, (some .int), T_X12_letter, 1, false), (yX12_rule, cX12_rule, 3, (some .int), T_X12_rule, 0, false), (yX12_joyOf, cX12_joyOf, 3, (some .int), T_X12_joyOf, 2, false), (yX12_joyOfAll, cX12_joyOfAll, 4, (some .int), T_X12_joyOfAll, 1, false), (yX12_isHungry, cX12_isHungry, 3, (some .boolean), T_X12_isHungry, 2, false), (yX12_dish, cX12_dish, 5, (some .int), T_X12_dish, 2, false), (yX12_guest, cX12_guest, 3, (some .int), T_X12_guest, 2, false), (yX12_joy, cX12_joy, 3, (some .int), T_X12_joy, 2, false), (yX12_isLaw, cX12_isLaw, 2, (some .boolean), T_X12_isLaw, 2, true), (yX12_law, cX12_law, 4, (some .int), T_X12_law, 2, false), (yX12_store, cX12_store, 4, (some .int), T_X12_store, 2, false), (yX12_sheet, cX12_sheet, 9, (some .int), T_X12_sheet, 4, false), (yX12_shared, cX12_shared, 3, (some .int), T_X12_shared, 2, false)]
def jIs_6 : List jIm := [(yX12_hasHot, cX12_hasHot, 3, (some .boolean), T_X12_hasHot, 1, false), (yX12_fits, cX12_fits, 7, (some .boolean), T_X12_fits, 3, false), (yX12_refusal, cX12_refusal, 4, (some .int), T_X12_refusal, 3, false), (yX12_servedSet, cX12_servedSet, 3, (some .int), T_X12_servedSet, 0, false), (yX12_servedLast, cX12_servedLast, 1, (some .int), T_X12_servedLast, 0, false), (yX12_serve, cX12_serve, 3, (some .int), T_X12_serve, 1, false), (yX12_back, cX12_back, 1, (some .int), T_X12_back, 0, false), (yX12_over, cX12_over, 3, (some .int), T_X12_over, 0, false), (yX12_can, cX12_can, 3, (some .int), T_X12_can, 0, false), (yX12_menu, cX12_menu, 3, (some .int), T_X12_menu, 1, false), (yX12_isMenu, cX12_isMenu, 2, (some .boolean), T_X12_isMenu, 1, false), (yX12_isWhole, cX12_isWhole, 3, (some .boolean), T_X12_isWhole, 1, false), (yX12_lookOn, cX12_lookOn, 5, (some .int), T_X12_lookOn, 1, false), (yX12_lookFromNothing, cX12_lookFromNothing, 1, none, T_X12_lookFromNothing, 0, false), (yX12_look, cX12_look, 3, (some .int), T_X12_look, 1, false), (yX12_swap, cX12_swap, 5, (some .boolean), T_X12_swap, 3, false), (yX12_turn, cX12_turn, 5, (some .boolean), T_X12_turn, 1, false), (yX12_joined, cX12_joined, 4, (some .int), T_X12_joined, 2, false), (yX12_isLawful, cX12_isLawful, 2, (some .boolean), T_X12_isLawful, 1, false), (yX12_falls, cX12_falls, 9, (some .int), T_X12_falls, 3, false), (yX12_place, cX12_place, 2, (some .int), T_X12_place, 2, true), (yX12_all, cX12_all, 1, (some .int), T_X12_all, 0, false), (yX12_may, cX12_may, 4, (some .boolean), T_X12_may, 3, false), (yX12_isState, cX12_isState, 2, (some .boolean), T_X12_isState, 2, true), (yX12_noEnds, cX12_noEnds, 2, none, T_X12_noEnds, 0, false), (yX12_findEnds, cX12_findEnds, 6, none, T_X12_findEnds, 1, false), (yX12_tellWay, cX12_tellWay, 7, none, T_X12_tellWay, 3, false), (yX12_findRows, cX12_findRows, 9, none, T_X12_findRows, 3, false), (yX12_longestBy, cX12_longestBy, 7, (some .int), T_X12_longestBy, 1, false), (yX12_longest, cX12_longest, 1, (some .int), T_X12_longest, 0, false), (yX12_ways, cX12_ways, 6, (some .long), T_X12_ways, 1, false), (yX12_tellFrom, cX12_tellFrom, 3, (some .boolean), T_X12_tellFrom, 2, false), (yX12_betweenBy, cX12_betweenBy, 7, (some .int), T_X12_betweenBy, 3, false), (yX12_between, cX12_between, 3, (some .int), T_X12_between, 2, false), (yX12_shortest, cX12_shortest, 3, (some .int), T_X12_shortest, 2, false), (yX12_bears, cX12_bears, 4, (some .int), T_X12_bears, 1, false), (yX12_besides, cX12_besides, 4, (some .int), T_X12_besides, 1, false), (yX12_beside, cX12_beside, 2, (some .int), T_X12_beside, 1, false), (yX12_parts, cX12_parts, 6, (some .int), T_X12_parts, 0, false), (yX12_rare, cX12_rare, 6, (some .int), T_X12_rare, 0, false)]
def jIs_7 : List jIm := [(yX12_round, cX12_round, 5, (some .int), T_X12_round, 0, false), (yX12_shut, cX12_shut, 5, (some .int), T_X12_shut, 1, false), (yX12_joyIn, cX12_joyIn, 5, (some .int), T_X12_joyIn, 2, false), (yX12_costIn, cX12_costIn, 4, (some .int), T_X12_costIn, 1, false), (yX12_scoreOf, cX12_scoreOf, 7, (some .int), T_X12_scoreOf, 2, false), (yX12_findBest, cX12_findBest, 10, (some .boolean), T_X12_findBest, 4, false), (yX12_tellBest, cX12_tellBest, 4, (some .int), T_X12_tellBest, 3, false), (yX12_best, cX12_best, 3, (some .int), T_X12_best, 2, false), (yX12_fair, cX12_fair, 3, (some .int), T_X12_fair, 2, false), (yX12_tellCost, cX12_tellCost, 4, (some .int), T_X12_tellCost, 3, false), (yX12_cheap, cX12_cheap, 6, (some .int), T_X12_cheap, 1, false), (yX12_dear, cX12_dear, 2, (some .int), T_X12_dear, 1, false), (yX12_findGame, cX12_findGame, 3, none, T_X12_findGame, 0, false), (yX12_findTurn, cX12_findTurn, 8, none, T_X12_findTurn, 2, false), (yX12_game, cX12_game, 2, (some .int), T_X12_game, 0, false), (yX12_findGreedy, cX12_findGreedy, 13, none, T_X12_findGreedy, 2, false), (yX12_greedy, cX12_greedy, 3, (some .int), T_X12_greedy, 0, false), (yX12_menuAt, cX12_menuAt, 3, (some .int), T_X12_menuAt, 2, false), (yX12_mend, cX12_mend, 9, (some .int), T_X12_mend, 2, false), (yX12_tellMended, cX12_tellMended, 6, none, T_X12_tellMended, 2, false), (yX12_findFills, cX12_findFills, 8, (some .long), T_X12_findFills, 1, false), (yX12_isAsked, cX12_isAsked, 5, (some .boolean), T_X12_isAsked, 3, false), (yX12_fills, cX12_fills, 7, (some .long), T_X12_fills, 1, false), (yX12_sure, cX12_sure, 8, (some .int), T_X12_sure, 2, false), (yX12_hearths, cX12_hearths, 6, (some .int), T_X12_hearths, 1, false), (yX12_late, cX12_late, 7, (some .int), T_X12_late, 2, false), (yX12_ateOf, cX12_ateOf, 5, (some .int), T_X12_ateOf, 2, false), (yX12_poison, cX12_poison, 5, (some .int), T_X12_poison, 2, false), (yX12_eats, cX12_eats, 8, (some .int), T_X12_eats, 2, false), (yX12_canAll, cX12_canAll, 8, (some .boolean), T_X12_canAll, 1, false), (yX12_made, cX12_made, 3, (some .int), T_X12_made, 0, false), (yX12_keep, cX12_keep, 4, (some .boolean), T_X12_keep, 1, false), (yX12_again, cX12_again, 4, (some .boolean), T_X12_again, 1, false), (yX12_count, cX12_count, 4, (some .int), T_X12_count, 1, false), (yX12_row, cX12_row, 2, (some .int), T_X12_row, 1, false)]
def jIs : List jIm := jIs_0 ++ (jIs_1 ++ (jIs_2 ++ (jIs_3 ++ (jIs_4 ++ (jIs_5 ++ (jIs_6 ++ (jIs_7)))))))
set_option maxRecDepth 100000 in
theorem jIs_Ms : jMs = jIs.map (fun q => (q.2.2.2.2.1, q.2.2.1)) := rfl
def jpc : List jIn → Nat
  | (_, _, _, _, _, pc) :: _ => pc
  | [] => 1000000
def jtg (T : jT) (is : List jIn) (a b : Nat) : Nat := bif Nat.beq a 0 then jpc (is.drop b) else jpc (jcode T b)
def jlok (T : jT) (nL L : Nat) : Bool := decide ((T.2.getD L ([], 0)).1.length = nL)
def jsel (D x : Int) : List (Int × Int) → Int
  | [] => D
  | q :: l => if x = q.1 then q.2 else jsel D x l
theorem jsw_sel (k : Int → Option jO) (f : Int → Int) (d x : Int) : ∀ l : List (Int × Int), ∃ t, jsw k d x l = k t ∧ f t = jsel (f d) x (l.map fun q => (q.1, f q.2))
  | [] => ⟨d, rfl, rfl⟩
  | q :: l => by
    obtain ⟨t, h1, h2⟩ := jsw_sel k f d x l
    show ∃ t, (if x = q.1 then k q.2 else jsw k d x l) = k t ∧ f t = if x = q.1 then f q.2 else jsel (f d) x (l.map fun q => (q.1, f q.2))
    by_cases h : x = q.1
    · rw [if_pos h, if_pos h]
      exact ⟨_, rfl, rfl⟩
    · rw [if_neg h, if_neg h]
      exact ⟨t, h1, h2⟩
theorem jsel_look (pc d x : Int) : ∀ l : List (Int × Int), pc + Op.lookupswitch.offset l d x = jsel (pc + d) x (l.map fun q => (q.1, pc + q.2))
  | [] => rfl
  | q :: l => by
    obtain ⟨a, o⟩ := q
    rw [Op.lookupswitch.offset_cons]
    show pc + (if a = x then o else Op.lookupswitch.offset l d x) = if x = a then pc + o else jsel (pc + d) x (l.map fun q => (q.1, pc + q.2))
    by_cases h : x = a
    · rw [if_pos h.symm, if_pos h]
    · rw [if_neg (fun z => h z.symm), if_neg h]
      exact jsel_look pc d x l
theorem jsel_app (D x : Int) : ∀ A B : List (Int × Int), jsel D x (A ++ B) = jsel (jsel D x B) x A
  | [], B => rfl
  | q :: l, B => by
    show (if x = q.1 then q.2 else jsel D x (l ++ B)) = if x = q.1 then q.2 else jsel (jsel D x B) x l
    rw [jsel_app D x l B]
theorem jsel_tab (lo x : Int) (g : Nat → Int) : ∀ (n : Nat) (D : Int), jsel D x ((List.range n).map (fun j : Nat => (lo + (j : Int), g j))) = if lo ≤ x ∧ x < lo + n then g (x - lo).toNat else D
  | 0, D => by
    rw [if_neg (by omega)]
    rfl
  | n + 1, D => by
    rw [List.range_succ, List.map_append, jsel_app, jsel_tab lo x g n]
    show (if lo ≤ x ∧ x < lo + n then g (x - lo).toNat else if x = lo + (n : Int) then g n else D) = _
    by_cases h : lo ≤ x ∧ x < lo + n
    · rw [if_pos h, if_pos (by omega)]
    · rw [if_neg h]
      by_cases h2 : x = lo + (n : Int)
      · rw [if_pos h2, if_pos (by omega)]
        have e : (x - lo).toNat = n := by omega
        rw [e]
      · rw [if_neg h2, if_neg (by omega)]
def jrc : Option FieldType → Nat
  | none => 0
  | some .long => 2
  | some _ => 1
/-- is an entry what stands there: of control and calls too -/
def jck (own : String) (cc : ByteArray) (nL : Nat) (ret : Option FieldType) (T : jT) : jIn → List jIn → Bool
  | (i, a, b, c, _, pc), is => match i with
    | .nop => decide (jpc (jcode T a) = pc) && jlok T nL a
    | .athrow => true
    | _ => match decode cc pc with
      | .error _ => false
      | .ok (raw, len) => match i with
        | .goto _ => (match raw with
          | .goto off => decide (len = 3 ∧ (pc : Int) + off = (jtg T is a b : Nat)) && (Nat.beq a 0 || jlok T nL b)
          | _ => false)
        | .ifCond q _ => (match raw with
          | .ifCond q' off => decide (q' = q ∧ len = 3 ∧ (pc : Int) + off = (jtg T is a b : Nat) ∧ jpc is = pc + 3) && (Nat.beq a 0 || jlok T nL b)
          | _ => false)
        | .if_icmp q _ => (match raw with
          | .if_icmp q' off => decide (q' = q ∧ len = 3 ∧ (pc : Int) + off = (jtg T is a b : Nat) ∧ jpc is = pc + 3) && (Nat.beq a 0 || jlok T nL b)
          | _ => false)
        | .lookupswitch d ps => (match raw with
          | .lookupswitch d' ps' => decide ((pc : Int) + d' = (jpc (is.drop d.toNat) : Nat)) && decide (ps'.toList.map (fun q => (q.1, (pc : Int) + q.2)) = ps.toList.map (fun q => (q.1, ((jpc (is.drop q.2.toNat) : Nat) : Int)))) && ((ps'.toList.zip (ps'.toList.drop 1)).all (fun (a, next) => a.1 < next.1))
          | .tableswitch d' lo hi offs => decide ((pc : Int) + d' = (jpc (is.drop d.toNat) : Nat) ∧ hi = lo + offs.size - 1) && decide ((List.range offs.size).map (fun j : Nat => (lo + (j : Int), (pc : Int) + (offs.toList.getD j 0))) = ps.toList.map (fun q => (q.1, ((jpc (is.drop q.2.toNat) : Nat) : Int))))
          | _ => false)
        | .invokevirtual y => (match raw with
          | .invokevirtual _ => (match jIs[y]? with
            | some q => decide (len = 3 ∧ jpc is = pc + 3 ∧ q.2.2.2.2.2.2 = false ∧ a = q.2.2.2.2.2.1 + 1 ∧ b = jrc q.2.2.2.1) && (match vwCl[c]? with
              | some r => decide (r.1 = q.1.cls)
              | none => false)
            | none => false)
          | _ => false)
        | .invokestatic y => (match raw with
          | .invokestatic _ => (match jIs[y]? with
            | some q => decide (len = 3 ∧ jpc is = pc + 3 ∧ q.2.2.2.2.2.2 = true ∧ a = q.2.2.2.2.2.1 ∧ b = jrc q.2.2.2.1)
            | none => false)
          | _ => false)
        | .ireturn => decide (raw = .ireturn ∧ len = 1 ∧ (a = 0 ∧ ret = some .int ∨ a = 1 ∧ ret = some .boolean))
        | .lreturn => decide (raw = .lreturn ∧ len = 1 ∧ ret = some .long)
        | .return_ => decide (raw = .return_ ∧ len = 1 ∧ ret = none)
        | i => jmt nL i a b raw len && decide (jpc is = pc + len)
def jcks (own : String) (cc : ByteArray) (nL : Nat) (ret : Option FieldType) (T : jT) : List jIn → Bool
  | [] => true
  | e :: is => jck own cc nL ret T e is && jcks own cc nL ret T is
/-- the words that code needs, each with its place among the tables' -/
def jwc (own : String) (cc : ByteArray) (e : jIn) : List Jvm.Cond := match e with
  | (i, a, b, _, _, pc) => match i with
    | .nop => []
    | .athrow => []
    | _ => match decode cc pc with
      | .error _ => []
      | .ok (raw, _) => match i with
        | .invokevirtual y => (match raw, jIs[y]? with
          | .invokevirtual n, some q => [.methodLink own n q.1]
          | _, _ => [])
        | .invokestatic y => (match raw, jIs[y]? with
          | .invokestatic n, some q => [.methodLink own n q.1]
          | _, _ => [])
        | i => jwd own i a b raw
theorem jcks_drop {own : String} {cc : ByteArray} {nL : Nat} {ret : Option FieldType} {T : jT} : ∀ {is : List jIn} (k : Nat), jcks own cc nL ret T is = true → jcks own cc nL ret T (is.drop k) = true
  | [], k, _ => by simp [jcks]
  | _ :: _, 0, h => h
  | e :: is, k + 1, h => by
    have h : (jck own cc nL ret T e is && jcks own cc nL ret T is) = true := h
    rw [Bool.and_eq_true] at h
    exact jcks_drop (is := is) k h.2
def jokO (o : jO) : Prop := jokM o.2 ∧ ∀ v, o.1 = some (some v) → jok v
def jQ (D : va_G) (cA : Nat → ClassId) (ad : Nat → Nat) (o : jO) : Array Value → State → Outcome → State → Prop := fun _ st oc t => oc = .returned ((o.1.getD none).map (jemb ad)) ∧ va_P D vwCl (jws cA ad o.2) t.heap ∧ va_F (jA ad) st t ∧ jokO o
def jPre (D : va_G) (cA : Nat → ClassId) (ad : Nat → Nat) (μ : jM) : State → Prop := fun U => va_P D vwCl (jws cA ad μ) U.heap ∧ va_K D vwCl (jtys cA) U
def jWs (q : jIm) : List Jvm.Cond := .code q.1 q.2.1 q.2.2.1 q.2.2.2.1 :: jTs
def jRm (d : Nat) : Room := { frames := d, cells := 0, slots := 0, locals := 70 * d }
def jar (q : jIm) : Nat := bif q.2.2.2.2.2.2 then q.2.2.2.2.2.1 else q.2.2.2.2.2.1 + 1
/-- a method's own facts -/
def jMok (q : jIm) : Prop := plainName q.1.cls = true ∧ jcks q.1.cls q.2.1 q.2.2.1 q.2.2.2.1 q.2.2.2.2.1 q.2.2.2.2.1.1 = true ∧ (∀ e ∈ q.2.2.2.2.1.1, ∀ x ∈ jwc q.1.cls q.2.1 e, x ∈ jTs) ∧ q.2.2.1 ≤ 40 ∧ jpc (jcode q.2.2.2.2.1 0) = 0 ∧ (Cond.code q.1 q.2.1 q.2.2.1 q.2.2.2.1 ∈ jTs) ∧ (Cond.initialized q.1.cls ∈ jTs) ∧ (q.2.2.2.2.2.2 = false → Cond.instanceMethod q.1 ∈ jTs ∧ Cond.selects q.1.cls q.1 q.1 ∈ jTs) ∧ (q.2.2.2.2.2.2 = true → Cond.static q.1 ∈ jTs) ∧ (q.1.cls ≠ "java/lang/invoke/MethodHandle" ∧ q.1.cls ≠ "java/lang/invoke/VarHandle" ∧ (parseMethodDescriptor q.1.desc).map (fun d => d.parameters.length) = some q.2.2.2.2.2.1)
def jMet (l : Launch) (D : va_G) (cA : Nat → ClassId) (ad : Nat → Nat) (d : Nat) : Prop := ∀ (n : Nat) (q : jIm) (as : jSt) (μ : jM) (o : jO), jIs[n]? = some q → CL d n as μ = some o → o.1 ≠ none → as.length = jar q → jokS as → jokM μ → Met l q.1 (jWs q) (jRm d) (va_Pc (as.map (jemb ad)) (jPre D cA ad μ)) (jQ D cA ad o) 0 0 (jA ad)
section FL
variable {p : Program} {l : Launch} {e : Env} {R : Room} {s : State} {m : MethodId} {args : Array Value} {below : List Frame} {meth : Method} {c : Code} {Q : State → Prop} {cc : ByteArray} {own : String} {nL : Nat} {D : va_G} {cA : Nat → ClassId} {ad : Nat → Nat}
theorem j_callW {pc : Nat} {ls : Array Slot} {st0 rest : List Value} {a : Array Value} {H : Heap} {locs : List Loc} {o : jO} (hr : va_Run p l e R s m args below meth c H locs 0 0 0 0 (F0 m pc ls st0) rest (jQ D cA ad o a) (jA ad)) (hS : va_S (jA ad) s.heap H locs)
    (kk : ∀ (H1 : Heap) (locs1 : List Loc), jokO o → va_P D vwCl (jws cA ad o.2) H1 → va_S (jA ad) s.heap H1 locs1 → W p l e R s m args below meth c H1 locs1 0 0 Q (F0 m (pc + 3) ls (((o.1.getD none).map (jemb ad)).toList ++ rest))) : W p l e R s m args below meth c H locs 0 0 Q (F0 m pc ls st0) := by
  intro T hT X
  obtain ⟨v, st₀, t, T', L, h0, X', hL, e1, e2, ⟨hv, hP, ⟨hz, hk⟩, hok⟩, st⟩ := hr T hT X
  cases hv
  rw [h0] at hz hk
  obtain ⟨t2, a1, b1⟩ := kk T'.heap (locs ++ L) hok (by rw [e1]; exact hP) ⟨Nat.le_trans hS.1 (by rw [e1]; exact hz), fun q h1 h2 => by rw [e1, hk q (Nat.lt_of_lt_of_le h1 hS.1) h2]; exact hS.2.1 q h1 h2, fun q hq => by
      rcases List.mem_append.mp hq with h | h
      · exact hS.2.2 q h
      · exact hL q h⟩ T' rfl X'
  exact ⟨t2, st t2 a1, b1⟩
theorem jPre_blind {μ : jM} {av : List Value} : FrameBlind (va_Pc av (jPre D cA ad μ)) := fun a U g mk q => by
  obtain ⟨q0, qP, qK⟩ := q
  exact ⟨q0, qP, va_K.moved (u := U) (U := U.calling g mk a) (Vm.Alike.refl U.vm) qK⟩
theorem j_recv {μ : jM} {H : Heap} {k ci : Nat} {r : vw_C} (hK : va_K D vwCl (jtys cA) s) (hP : va_P D vwCl (jws cA ad μ) H) (hc : vwCl[ci]? = some r) (hk : k < 100) (hq : KD k = ci) : ∃ cell : Cell, H[ad k]? = some cell ∧ cell.vm.isStatics = false ∧ s.vm.findClass r.1 = some cell.cls := by
  have hl : ci < 13 := by
    have := (List.getElem?_eq_some_iff.mp hc).1
    exact this
  have hat := jws_at cA ad μ hk
  rw [jce_o cA ad (μ k) (by omega : KD k < 20), hq] at hat
  exact va_recv hK hP hc hat
set_option maxHeartbeats 4000000 in
/-- a call of an instance method of ours -/
theorem j_virt {d : Nat} (hx : p.tables.exec = Jvm.exec) (hb : c.code = cc) (hml : c.maxLocals = nL) (hown : s.vm.findClass own = some m.cls) (hts : ∀ w ∈ jTs, w.before args s = true) (hK : va_K D vwCl (jtys cA) s) (hR : d + 1 ≤ R.frames) (hRl : 70 * (d + 1) ≤ R.locals) (hM : jMet l D cA ad d) (hIs : ∀ q ∈ jIs, jMok q)
    {n index pc k : Nat} {q : jIm} (hq : jIs[n]? = some q) (hst : q.2.2.2.2.2.2 = false) (hdec : decode cc pc = .ok (.invokevirtual index, 3)) (hlink : Cond.methodLink own index q.1 ∈ jTs) {as rest : jSt} {μ : jM} {o : jO} (hc : CL d n (jR k :: as) μ = some o) (hne : o.1 ≠ none) (hlen : as.length = q.2.2.2.2.2.1) {ci : Nat} {r : vw_C} (hci : vwCl[ci]? = some r) (hcn : r.1 = q.1.cls) (hkd : KD k = ci) {H : Heap} {locs : List Loc} {ls : Array Slot} (hoS : jokS (jR k :: as)) (hoM : jokM μ) (hP : va_P D vwCl (jws cA ad μ) H) (hls : ls.size = nL) (hcat : jcat rest ≤ 8) :
    va_Run p l e R s m args below meth c H locs 0 0 0 0 (F0 m pc ls (((jR k :: as).reverse ++ rest).map (jemb ad))) (rest.map (jemb ad)) (jQ D cA ad o (((jR k :: as).map (jemb ad))).toArray) (jA ad) := by
  obtain ⟨o1, o2, o3, o4, o5, o6, o7, o8, o9, o10⟩ := hIs q (List.mem_of_getElem? hq)
  obtain ⟨i1, i2⟩ := o8 hst
  have hk : k < 100 := jokS_h hoS
  have met := hM n q (jR k :: as) μ o hq hc hne (by unfold jar; rw [hst]; show as.length + 1 = _; rw [hlen]; rfl) hoS hoM
  have cw : CallW R s args own q.1.cls index q.1 q.2.1 q.2.2.1 q.2.2.2.1 (jWs q) (jRm d) 0 0 q.2.2.2.2.2.1 := by
    refine cwV (Ts := jTs) (ws' := jTs) q.2.2.2.2.2.1 hts (jTs_good ?_) rfl rfl rfl ⟨rfl, o10⟩ ⟨hR, by show 8 + (q.2.2.1 + 11) + 70 * d ≤ _; omega⟩
    intro x hx
    unfold wsV jWs at hx
    simp only [List.cons_append, List.nil_append, List.mem_cons] at hx
    rcases hx with rfl | rfl | rfl | rfl | rfl | hx
    · exact hlink
    · exact i1
    · exact i2
    · exact o7
    · exact o6
    · exact hx
  have hs : ((jR k :: as).reverse ++ rest).map (jemb ad) = (as.map (jemb ad)).reverse ++ .ref (ad k) :: rest.map (jemb ad) := by
    simp [jemb]
  rw [hs]
  exact va_runV (As := as.map (jemb ad)) (rest := rest.map (jemb ad)) (b := ad k) (C := q.1.cls) ⟨hx, hb, hml, hown, hts⟩ met cw ⟨jPre_blind, by rw [← hcn]; exact j_recv hK hP hci hk hkd, fun U hU hW => ⟨rfl, by rw [hU]; exact hP, va_K.moved hW.alike hK⟩⟩ rfl (by rw [List.length_map]; exact hlen) hls rfl (lv_room (by rw [jcat_cat]; exact hcat)) hdec ⟨Nat.zero_le _, Nat.zero_le _⟩
set_option maxHeartbeats 4000000 in
theorem j_stat {d : Nat} (hx : p.tables.exec = Jvm.exec) (hb : c.code = cc) (hml : c.maxLocals = nL) (hown : s.vm.findClass own = some m.cls) (hts : ∀ w ∈ jTs, w.before args s = true) (hK : va_K D vwCl (jtys cA) s) (hR : d + 1 ≤ R.frames) (hRl : 70 * (d + 1) ≤ R.locals) (hM : jMet l D cA ad d) (hIs : ∀ q ∈ jIs, jMok q)
    {n index pc : Nat} {q : jIm} (hq : jIs[n]? = some q) (hst : q.2.2.2.2.2.2 = true) (hdec : decode cc pc = .ok (.invokestatic index, 3)) (hlink : Cond.methodLink own index q.1 ∈ jTs) {as rest : jSt} {μ : jM} {o : jO} (hc : CL d n as μ = some o) (hne : o.1 ≠ none) (hlen : as.length = q.2.2.2.2.2.1) {H : Heap} {locs : List Loc} {ls : Array Slot} (hoS : jokS as) (hoM : jokM μ) (hP : va_P D vwCl (jws cA ad μ) H) (hls : ls.size = nL) (hcat : jcat rest ≤ 8) :
    va_Run p l e R s m args below meth c H locs 0 0 0 0 (F0 m pc ls ((as.reverse ++ rest).map (jemb ad))) (rest.map (jemb ad)) (jQ D cA ad o ((as.map (jemb ad))).toArray) (jA ad) := by
  obtain ⟨o1, o2, o3, o4, o5, o6, o7, o8, o9, o10⟩ := hIs q (List.mem_of_getElem? hq)
  have i1 := o9 hst
  have met := hM n q as μ o hq hc hne (by unfold jar; rw [hst, hlen]; rfl) hoS hoM
  have cb : CallB R s args own index q.1 q.2.1 q.2.2.1 q.2.2.2.1 (jWs q) (jRm d) 0 0 q.2.2.2.2.2.1 := callB_of (Ts := jTs) (ws' := jTs) q.2.2.2.2.2.1 hts (jTs_good (fun x hx => by
    unfold jWs at hx
    rcases List.mem_cons.mp hx with rfl | hx
    · exact o6
    · exact hx)) rfl rfl rfl (hts _ o7) (hts _ hlink) o10 ⟨hR, by show 8 + (q.2.2.1 + 11) + 70 * d ≤ _; omega⟩
  have hs : (as.reverse ++ rest).map (jemb ad) = (as.map (jemb ad)).reverse ++ rest.map (jemb ad) := by simp
  rw [hs]
  exact va_runS (As := as.map (jemb ad)) (rest := rest.map (jemb ad)) ⟨hx, hb, hml, hown, hts⟩ met ⟨cb, hts _ i1⟩ ⟨jPre_blind, fun U hU hW => ⟨rfl, by rw [hU]; exact hP, va_K.moved hW.alike hK⟩⟩ rfl (by rw [List.length_map]; exact hlen) hls rfl (lv_room (by rw [jcat_cat]; exact hcat)) hdec ⟨Nat.zero_le _, Nat.zero_le _⟩
end FL
end
section
def jctl : Instr → Bool
  | .nop => true
  | .goto _ => true
  | .ifCond _ _ => true
  | .if_icmp _ _ => true
  | .lookupswitch _ _ => true
  | .invokevirtual _ => true
  | .invokestatic _ => true
  | .ireturn => true
  | .lreturn => true
  | .return_ => true
  | .athrow => true
  | _ => false
theorem jB_ctl {J : Nat → jLs → jSt → jM → Option jO} {C : Nat → jSt → jM → Option jO} {n : Nat} {i : Instr} {a b c h pc : Nat} {is : List jIn} {lv : jLs} {st : jSt} {μ : jM} (hc : jctl i = false) : jB J C (n + 1) ((i, a, b, c, h, pc) :: is) lv st μ = j1 i a b lv st μ (fun lv st μ => jB J C n is lv st μ) := by
  cases i <;> first | rfl | cases hc
theorem jck_ctl {own : String} {cc : ByteArray} {nL : Nat} {ret : Option FieldType} {T : jT} {i : Instr} {a b c h pc : Nat} {is : List jIn} (hc : jctl i = false) (hk : jck own cc nL ret T (i, a, b, c, h, pc) is = true) : ∃ raw len, decode cc pc = .ok (raw, len) ∧ jmt nL i a b raw len = true ∧ jpc is = pc + len ∧ jwc own cc (i, a, b, c, h, pc) = jwd own i a b raw := by
  have key : (match decode cc pc with
      | .error _ => false
      | .ok (raw, len) => jmt nL i a b raw len && decide (jpc is = pc + len)) = true := by
    rw [← hk]
    cases i <;> first | rfl | cases hc
  cases hd : decode cc pc with
  | error er =>
    rw [hd] at key
    cases key
  | ok rl =>
    obtain ⟨raw, len⟩ := rl
    rw [hd] at key
    have key : (jmt nL i a b raw len && decide (jpc is = pc + len)) = true := key
    rw [Bool.and_eq_true, decide_eq_true_eq] at key
    refine ⟨raw, len, rfl, key.1, key.2, ?_⟩
    have k2 : jwc own cc (i, a, b, c, h, pc) = (match decode cc pc with
      | .error _ => []
      | .ok (raw, _) => jwd own i a b raw) := by
      cases i <;> first | rfl | cases hc
    rw [k2, hd]
theorem jret_some {c : Nat} {x : Option jO} {st : jSt} {k : jSt → jM → Option jO} {o : jO} (h : jret c x st k = some o) : ∃ o1 : jO, x = some o1 ∧ o1.1 ≠ none ∧ ∃ r, o1.1 = some r ∧ k (r.toList ++ st) o1.2 = some o := by
  match c with
  | 0 =>
    have h : bV x (fun μ => k st μ) = some o := h
    unfold bV at h
    split at h
    · exact ⟨_, rfl, (fun z => by cases z), _, rfl, h⟩
    · cases h
  | 1 =>
    have h : bI x (fun x μ => k (jI x :: st) μ) = some o := h
    unfold bI at h
    split at h
    · exact ⟨_, rfl, (fun z => by cases z), _, rfl, h⟩
    · cases h
  | _ + 2 =>
    have h : bL x (fun x μ => k (jL x :: st) μ) = some o := h
    unfold bL at h
    split at h
    · exact ⟨_, rfl, (fun z => by cases z), _, rfl, h⟩
    · cases h
section JB
variable {p : Program} {l : Launch} {e : Env} {R : Room} {s : State} {m : MethodId} {args : Array Value} {below : List Frame} {meth : Method} {c : Code} {Q : State → Prop} {cc : ByteArray} {own : String} {nL : Nat} {D : va_G} {cA : Nat → ClassId} {ad : Nat → Nat}
set_option maxHeartbeats 8000000 in
set_option maxRecDepth 100000 in
theorem jB_snd {d : Nat} (hx : p.tables.exec = Jvm.exec) (hb : c.code = cc) (hml : c.maxLocals = nL) (hown : s.vm.findClass own = some m.cls) (hts : ∀ w ∈ jTs, w.before args s = true) (hK : va_K D vwCl (jtys cA) s) (hinj : ∀ i j, i < 100 → j < 100 → ad i = ad j → i = j) (hR : d + 1 ≤ R.frames) (hRl : 70 * (d + 1) ≤ R.locals) (hM : jMet l D cA ad d) (hIs : ∀ q ∈ jIs, jMok q)
    {T : jT} {ret : Option FieldType} {J : Nat → jLs → jSt → jM → Option jO} {o : jO}
    (hJ : ∀ (L : Nat) (lv : jLs) (st : jSt) (μ : jM) (H : Heap) (locs : List Loc) (ls : Array Slot), J L lv st μ = some o → jlok T nL L = true → jRel D cA ad s nL lv st μ H locs ls → W p l e R s m args below meth c H locs 0 0 Q (F0 m (jpc (jcode T L)) ls (st.map (jemb ad))))
    (hRI : ∀ (pc : Nat) (x : Int) (μ : jM) (H : Heap) (locs : List Loc) (ls : Array Slot), decode cc pc = .ok (.ireturn, 1) → (ret = some .int ∨ ret = some .boolean ∧ (x = 0 ∨ x = 1)) → o = (some (some (jI x)), μ) → j32 x → jokM μ → va_P D vwCl (jws cA ad μ) H → va_S (jA ad) s.heap H locs → W p l e R s m args below meth c H locs 0 0 Q (F0 m pc ls [.int (Int32.ofInt x)]))
    (hRL : ∀ (pc : Nat) (x : Int) (μ : jM) (H : Heap) (locs : List Loc) (ls : Array Slot), decode cc pc = .ok (.lreturn, 1) → ret = some .long → o = (some (some (jL x)), μ) → j64 x → jokM μ → va_P D vwCl (jws cA ad μ) H → va_S (jA ad) s.heap H locs → W p l e R s m args below meth c H locs 0 0 Q (F0 m pc ls [.long (Int64.ofInt x)]))
    (hRV : ∀ (pc : Nat) (μ : jM) (H : Heap) (locs : List Loc) (ls : Array Slot), decode cc pc = .ok (.return_, 1) → ret = none → o = (some none, μ) → jokM μ → va_P D vwCl (jws cA ad μ) H → va_S (jA ad) s.heap H locs → W p l e R s m args below meth c H locs 0 0 Q (F0 m pc ls []))
    (hRT : ∀ (a b c0 h pc : Nat) (μ : jM) (H : Heap) (locs : List Loc) (ls : Array Slot), (Instr.athrow, a, b, c0, h, pc) ∈ T.1 → o = (none, μ) → jokM μ → ls.size = nL → va_P D vwCl (jws cA ad μ) H → va_S (jA ad) s.heap H locs → W p l e R s m args below meth c H locs 0 0 Q (F0 m pc ls []))
    (hwd : ∀ e ∈ T.1, ∀ x ∈ jwc own cc e, x ∈ jTs) :
    ∀ (n : Nat) (is : List jIn) (lv : jLs) (st : jSt) (μ : jM) (H : Heap) (locs : List Loc) (ls : Array Slot), (∀ e ∈ is, e ∈ T.1) → jcks own cc nL ret T is = true → jB J (CL d) n is lv st μ = some o → jRel D cA ad s nL lv st μ H locs ls → W p l e R s m args below meth c H locs 0 0 Q (F0 m (jpc is) ls (st.map (jemb ad)))
  | 0, _, _, _, _, _, _, _, _, _, h, _ => by cases h
  | _ + 1, [], _, _, _, _, _, _, _, _, h, _ => by cases h
  | n + 1, (i, a, b, c0, h0, pc) :: is, lv, st, μ, H, locs, ls, hsub, hcks, h, hr => by
    have ih := jB_snd hx hb hml hown hts hK hinj hR hRl hM hIs hJ hRI hRL hRV hRT hwd n
    have hcks : (jck own cc nL ret T (i, a, b, c0, h0, pc) is && jcks own cc nL ret T is) = true := hcks
    rw [Bool.and_eq_true] at hcks
    obtain ⟨hck, hkr⟩ := hcks
    have hmem : (i, a, b, c0, h0, pc) ∈ T.1 := hsub _ List.mem_cons_self
    have hwm := hwd _ hmem
    have hsub2 : ∀ e ∈ is, e ∈ T.1 := fun x hx => hsub x (List.mem_cons_of_mem _ hx)
    have hoS := hr.2.2.1
    have hP := hr.2.2.2.1
    have hS := hr.2.2.2.2.1
    have hM2 := hr.2.2.2.2.2
    have hls : ls.size = nL := hr.1.2.1
    show W p l e R s m args below meth c H locs 0 0 Q (F0 m pc ls (st.map (jemb ad)))
    have goOn : ∀ (st' : jSt) (μ' : jM) (H' : Heap) (locs' : List Loc) (k : Nat), jB J (CL d) n (is.drop k) lv st' μ' = some o → jRel D cA ad s nL lv st' μ' H' locs' ls → W p l e R s m args below meth c H' locs' 0 0 Q (F0 m (jpc (is.drop k)) ls (st'.map (jemb ad))) := fun st' μ' H' locs' k h9 hr9 => ih (is.drop k) lv st' μ' H' locs' ls (fun x hx => hsub2 x (List.mem_of_mem_drop hx)) (jcks_drop k hkr) h9 hr9
    have goT : ∀ (st' : jSt), (bif Nat.beq a 0 then jB J (CL d) n (is.drop b) lv st' μ else J b lv st' μ) = some o → (Nat.beq a 0 = true ∨ jlok T nL b = true) → jokS st' → W p l e R s m args below meth c H locs 0 0 Q (F0 m (jtg T is a b) ls (st'.map (jemb ad))) := by
      intro st' h9 hl9 hs9
      unfold jtg
      cases ha : Nat.beq a 0 with
      | true =>
        rw [ha] at h9
        exact goOn st' μ H locs b h9 (jRel_st hr hs9)
      | false =>
        rw [ha] at h9 hl9
        exact hJ b lv st' μ H locs ls h9 (by rcases hl9 with z | z; cases z; exact z) (jRel_st hr hs9)
    cases hc : jctl i with
    | false =>
      rw [jB_ctl hc] at h
      obtain ⟨raw, len, hdec, hmt, hpc, hww⟩ := jck_ctl hc hck
      rw [hww] at hwm
      refine j1_snd hx hb hml hown hts hK hinj (by omega) (by omega) hdec hmt hwm h hr fun lv' st' μ' H' locs' ls' h' hr' => ?_
      rw [← hpc]
      exact ih is lv' st' μ' H' locs' ls' hsub2 hkr h' hr'
    | true =>
      cases i <;> first | (cases hc; done) | skip
      case nop =>
        have hck : (decide (jpc (jcode T a) = pc) && jlok T nL a) = true := hck
        rw [Bool.and_eq_true, decide_eq_true_eq] at hck
        rw [← hck.1]
        exact hJ a lv st μ H locs ls h hck.2 hr
      case athrow =>
        unfold jB at h
        dsimp only at h
        split at h
        · cases h
          exact hRT _ _ _ _ _ μ H locs ls hmem rfl hM2 hls hP hS
        · cases h
      case goto x =>
        unfold jck at hck
        dsimp only at hck
        split at hck
        · cases hck
        · rename_i raw len hdec
          split at hck
          · simp only [Bool.and_eq_true, Bool.or_eq_true, decide_eq_true_eq] at hck
            obtain ⟨⟨rfl, ht⟩, hlab⟩ := hck
            exact lv_goto hx hb hdec ht (goT st h hlab hoS)
          · cases hck
      case ifCond q x =>
        unfold jck at hck
        dsimp only at hck
        split at hck
        · cases hck
        · rename_i raw len hdec
          split at hck
          · simp only [Bool.and_eq_true, Bool.or_eq_true, decide_eq_true_eq] at hck
            obtain ⟨⟨rfl, rfl, ht, hpc⟩, hlab⟩ := hck
            unfold jB at h
            dsimp only at h
            split at h
            · rename_i q' off _ y st
              have KT := fun z => goT st z hlab (jokS_t hoS)
              have KF := fun z => goOn st μ H locs 0 z (jRel_st hr (jokS_t hoS))
              have hpc2 : jpc (is.drop 0) = pc + 3 := hpc
              rw [hpc2] at KF
              have hy : j32 y := jokS_h hoS
              cases q' <;> simp only [jc] at h
              · refine lv_if_eq hx hb hdec ht (fun z => KT ?_) (fun z => KF ?_)
                · rwa [if_pos ((o_eq hy o_z32).mp z)] at h
                · rwa [if_neg (fun z2 => z ((o_eq hy o_z32).mpr z2))] at h
              · refine lv_if_ne hx hb hdec ht (fun z => KT ?_) (fun z => KF ?_)
                · rwa [if_neg (fun z2 => z ((o_eq hy o_z32).mpr z2))] at h
                · rwa [if_pos ((o_eq hy o_z32).mp z)] at h
              · refine lv_if_lt hx hb hdec ht (fun z => KT ?_) (fun z => KF ?_)
                · rwa [if_pos ((o_lt hy o_z32).mp z)] at h
                · rwa [if_neg (fun z2 => z ((o_lt hy o_z32).mpr z2))] at h
              · refine lv_if_ge hx hb hdec ht (fun z => KT ?_) (fun z => KF ?_)
                · have := (o_le o_z32 hy).mp z
                  rwa [if_neg (by omega)] at h
                · have : ¬ 0 ≤ y := fun z2 => z ((o_le o_z32 hy).mpr z2)
                  rwa [if_pos (by omega)] at h
              · refine lv_if_gt hx hb hdec ht (fun z => KT ?_) (fun z => KF ?_)
                · rwa [if_pos ((o_lt o_z32 hy).mp z)] at h
                · rwa [if_neg (fun z2 => z ((o_lt o_z32 hy).mpr z2))] at h
              · refine lv_if_le hx hb hdec ht (fun z => KT ?_) (fun z => KF ?_)
                · have := (o_le hy o_z32).mp z
                  rwa [if_neg (by omega)] at h
                · have : ¬ y ≤ 0 := fun z2 => z ((o_le hy o_z32).mpr z2)
                  rwa [if_pos (by omega)] at h
            · cases h
          · cases hck
      case if_icmp q x =>
        unfold jck at hck
        dsimp only at hck
        split at hck
        · cases hck
        · rename_i raw len hdec
          split at hck
          · simp only [Bool.and_eq_true, Bool.or_eq_true, decide_eq_true_eq] at hck
            obtain ⟨⟨rfl, rfl, ht, hpc⟩, hlab⟩ := hck
            unfold jB at h
            dsimp only at h
            split at h
            · rename_i q' off _ y x st
              have KT := fun z => goT st z hlab (jokS_t (jokS_t hoS))
              have KF := fun z => goOn st μ H locs 0 z (jRel_st hr (jokS_t (jokS_t hoS)))
              have hpc2 : jpc (is.drop 0) = pc + 3 := hpc
              rw [hpc2] at KF
              have hy : j32 y := jokS_h hoS
              have hx9 : j32 x := jokS_h (jokS_t hoS)
              cases q' <;> simp only [jc] at h
              · refine lv_icmp_eq hx hb hdec ht (fun z => KT ?_) (fun z => KF ?_)
                · rwa [if_pos ((o_eq hx9 hy).mp z)] at h
                · rwa [if_neg (fun z2 => z ((o_eq hx9 hy).mpr z2))] at h
              · refine lv_icmp_ne hx hb hdec ht (fun z => KT ?_) (fun z => KF ?_)
                · rwa [if_neg (fun z2 => z ((o_eq hx9 hy).mpr z2))] at h
                · rwa [if_pos ((o_eq hx9 hy).mp z)] at h
              · refine lv_icmp_lt hx hb hdec ht (fun z => KT ?_) (fun z => KF ?_)
                · rwa [if_pos ((o_lt hx9 hy).mp z)] at h
                · rwa [if_neg (fun z2 => z ((o_lt hx9 hy).mpr z2))] at h
              · refine lv_icmp_ge hx hb hdec ht (fun z => KT ?_) (fun z => KF ?_)
                · have := (o_le hy hx9).mp z
                  rwa [if_neg (by omega)] at h
                · have : ¬ y ≤ x := fun z2 => z ((o_le hy hx9).mpr z2)
                  rwa [if_pos (by omega)] at h
              · refine lv_icmp_gt hx hb hdec ht (fun z => KT ?_) (fun z => KF ?_)
                · rwa [if_pos ((o_lt hy hx9).mp z)] at h
                · rwa [if_neg (fun z2 => z ((o_lt hy hx9).mpr z2))] at h
              · refine lv_icmp_le hx hb hdec ht (fun z => KT ?_) (fun z => KF ?_)
                · have := (o_le hx9 hy).mp z
                  rwa [if_neg (by omega)] at h
                · have : ¬ x ≤ y := fun z2 => z ((o_le hx9 hy).mpr z2)
                  rwa [if_pos (by omega)] at h
            · cases h
          · cases hck
      case lookupswitch dd ps =>
        unfold jB at h
        dsimp only at h
        split at h
        · rename_i x st
          have hx9 : j32 x := jokS_h hoS
          obtain ⟨t, e1, e2⟩ := jsw_sel (fun t => jB J (CL d) n (is.drop t.toNat) lv st μ) (fun t => ((jpc (is.drop t.toNat) : Nat) : Int)) dd x ps.toList
          rw [e1] at h
          have K := goOn st μ H locs t.toNat h (jRel_st hr (jokS_t hoS))
          unfold jck at hck
          dsimp only at hck
          split at hck
          · cases hck
          · rename_i raw len hdec
            split at hck
            · simp only [Bool.and_eq_true, decide_eq_true_eq] at hck
              obtain ⟨⟨hd, hl⟩, hz⟩ := hck
              refine lv_lookup (rest := st.map (jemb ad)) hx hb hdec hz (by rw [o_id hx9]) ?_ K
              rw [jsel_look, hl, hd, ← e2]
            · rename_i d' lo hi offs
              simp only [Bool.and_eq_true, decide_eq_true_eq] at hck
              obtain ⟨⟨hd, hhi⟩, hl⟩ := hck
              rw [← hl, ← hd, jsel_tab lo x (fun j => (pc : Int) + (offs.toList.getD j 0))] at e2
              by_cases hin : lo ≤ x ∧ x < lo + offs.size
              · rw [if_pos hin] at e2
                have ho : offs[(x - lo).toNat]? = some (offs.toList.getD (x - lo).toNat 0) := by
                  have hlt : (x - lo).toNat < offs.size := by omega
                  rw [List.getD_eq_getElem?_getD, Array.getElem?_toList, Array.getElem?_eq_getElem hlt]
                  rfl
                refine lv_tableIn (rest := st.map (jemb ad)) (off := offs.toList.getD (x - lo).toNat 0) hx hb hdec (by rw [o_id hx9]; omega) (by rw [o_id hx9]; omega) (by rw [o_id hx9]; exact ho) ?_ K
                rw [← e2]
              · rw [if_neg hin] at e2
                refine lv_tableOut (rest := st.map (jemb ad)) hx hb hdec (by rw [o_id hx9]; omega) ?_ K
                rw [← e2]
            · cases hck
        · cases h
      case invokevirtual y =>
        unfold jB at h
        dsimp only at h
        obtain ⟨h7, h⟩ := cd_some h
        rw [Bool.and_eq_true] at h7
        have hal : a ≤ st.length := Nat.le_of_ble_eq_true h7.1
        have hcat : jcat (st.drop a) ≤ 8 := Nat.le_of_ble_eq_true h7.2
        split at h
        · rename_i k as hst
          obtain ⟨hkd, h⟩ := cd_some h
          obtain ⟨o1, h1, h2, r, h3, h4⟩ := jret_some h
          unfold jck at hck
          dsimp only at hck
          split at hck
          · cases hck
          · rename_i raw len hdec
            split at hck
            · rename_i index
              split at hck
              · rename_i q hq
                simp only [Bool.and_eq_true, decide_eq_true_eq] at hck
                obtain ⟨⟨rfl, hpc, hstat, ha, hret⟩, hck⟩ := hck
                split at hck
                · rename_i rr hci
                  simp only [decide_eq_true_eq] at hck
                  have hww : Cond.methodLink own index q.1 ∈ jTs := by
                    apply hwm
                    unfold jwc
                    simp only [hdec, hq]
                    exact List.mem_cons_self
                  have hst2 : st = (jR k :: as).reverse ++ st.drop a := by
                    rw [← hst, List.reverse_reverse, List.take_append_drop]
                  have hlen : as.length = q.2.2.2.2.2.1 := by
                    have h8 := congrArg List.length hst
                    rw [List.length_reverse, List.length_take] at h8
                    simp only [List.length_cons] at h8
                    omega
                  have hoA : jokS (jR k :: as) := fun v hv => hoS v (by
                    rw [hst2]
                    exact List.mem_append_left _ (List.mem_reverse.mpr hv))
                  have hoR : jokS (st.drop a) := fun v hv => hoS v (List.mem_of_mem_drop hv)
                  have run := j_virt (R := R) (below := below) (meth := meth) (e := e) (locs := locs) (ls := ls) hx hb hml hown hts hK hR hRl hM hIs hq hstat hdec hww h1 h2 hlen hci hck (Nat.eq_of_beq_eq_true hkd) hoA hM2 hP hls hcat
                  rw [← hst2] at run
                  refine j_callW run hS fun H1 locs1 hok hP1 hS1 => ?_
                  rw [← hpc]
                  have e9 : ((o1.1.getD none).map (jemb ad)).toList ++ (st.drop a).map (jemb ad) = (r.toList ++ st.drop a).map (jemb ad) := by
                    rw [h3]
                    cases r <;> rfl
                  rw [e9]
                  exact ih is lv _ _ H1 locs1 ls hsub2 hkr h4 ⟨hr.1, hr.2.1, fun v hv => by
                    rcases List.mem_append.mp hv with z | z
                    · cases r with
                      | none => cases z
                      | some r => rw [List.mem_singleton.mp z]; exact hok.2 r h3
                    · exact hoR v z, hP1, hS1, hok.1⟩
                · cases hck
              · cases hck
            · cases hck
        · cases h
      case invokestatic y =>
        unfold jB at h
        dsimp only at h
        obtain ⟨h7, h⟩ := cd_some h
        rw [Bool.and_eq_true] at h7
        have hal : a ≤ st.length := Nat.le_of_ble_eq_true h7.1
        have hcat : jcat (st.drop a) ≤ 8 := Nat.le_of_ble_eq_true h7.2
        obtain ⟨o1, h1, h2, r, h3, h4⟩ := jret_some h
        unfold jck at hck
        dsimp only at hck
        split at hck
        · cases hck
        · rename_i raw len hdec
          split at hck
          · rename_i index
            split at hck
            · rename_i q hq
              simp only [decide_eq_true_eq] at hck
              obtain ⟨rfl, hpc, hstat, ha, hret⟩ := hck
              have hww : Cond.methodLink own index q.1 ∈ jTs := by
                apply hwm
                unfold jwc
                simp only [hdec, hq]
                exact List.mem_cons_self
              have hst2 : st = (st.take a).reverse.reverse ++ st.drop a := by
                rw [List.reverse_reverse, List.take_append_drop]
              have hlen : (st.take a).reverse.length = q.2.2.2.2.2.1 := by
                rw [List.length_reverse, List.length_take]
                omega
              have hoA : jokS (st.take a).reverse := fun v hv => hoS v (List.mem_of_mem_take (List.mem_reverse.mp hv))
              have hoR : jokS (st.drop a) := fun v hv => hoS v (List.mem_of_mem_drop hv)
              have run := j_stat (R := R) (below := below) (meth := meth) (e := e) (locs := locs) (ls := ls) hx hb hml hown hts hK hR hRl hM hIs hq hstat hdec hww h1 h2 hlen hoA hM2 hP hls hcat
              rw [← hst2] at run
              refine j_callW run hS fun H1 locs1 hok hP1 hS1 => ?_
              rw [← hpc]
              have e9 : ((o1.1.getD none).map (jemb ad)).toList ++ (st.drop a).map (jemb ad) = (r.toList ++ st.drop a).map (jemb ad) := by
                rw [h3]
                cases r <;> rfl
              rw [e9]
              exact ih is lv _ _ H1 locs1 ls hsub2 hkr h4 ⟨hr.1, hr.2.1, fun v hv => by
                rcases List.mem_append.mp hv with z | z
                · cases r with
                  | none => cases z
                  | some r => rw [List.mem_singleton.mp z]; exact hok.2 r h3
                · exact hoR v z, hP1, hS1, hok.1⟩
            · cases hck
          · cases hck
      case ireturn =>
        unfold jck at hck
        dsimp only at hck
        split at hck
        · cases hck
        · rename_i raw len hdec
          simp only [decide_eq_true_eq] at hck
          obtain ⟨rfl, rfl, hret⟩ := hck
          unfold jB at h
          dsimp only at h
          split at h
          · rename_i x
            cases ha : Nat.beq a 0 with
            | true =>
              rw [ha] at h
              have h : rI x μ = some o := h
              cases h
              have ha0 : a = 0 := Nat.eq_of_beq_eq_true ha
              refine hRI pc x μ H locs ls hdec (Or.inl ?_) rfl (jokS_h hoS) hM2 hP hS
              rcases hret with z | z
              · exact z.2
              · omega
            | false =>
              rw [ha] at h
              obtain ⟨hz, h⟩ := gd_some h
              cases h
              have ha0 : ¬ a = 0 := Nat.ne_of_beq_eq_false ha
              refine hRI pc x μ H locs ls hdec (Or.inr ⟨?_, hz⟩) rfl (jokS_h hoS) hM2 hP hS
              rcases hret with z | z
              · omega
              · exact z.2
          · cases h
      case lreturn =>
        unfold jck at hck
        dsimp only at hck
        split at hck
        · cases hck
        · rename_i raw len hdec
          simp only [decide_eq_true_eq] at hck
          obtain ⟨rfl, rfl, hret⟩ := hck
          unfold jB at h
          dsimp only at h
          split at h
          · rename_i x
            cases h
            exact hRL pc x μ H locs ls hdec hret rfl (jokS_h hoS) hM2 hP hS
          · cases h
      case return_ =>
        unfold jck at hck
        dsimp only at hck
        split at hck
        · cases hck
        · rename_i raw len hdec
          simp only [decide_eq_true_eq] at hck
          obtain ⟨rfl, rfl, hret⟩ := hck
          unfold jB at h
          dsimp only at h
          split at h
          · cases h
            exact hRV pc μ H locs ls hdec hret rfl hM2 hP hS
          · cases h
end JB
end
section
theorem jnth_none : ∀ (n i : Nat), jnth (List.replicate n none) i = none
  | 0, _ => rfl
  | _ + 1, 0 => rfl
  | n + 1, i + 1 => jnth_none n i
theorem j_ent_lg (ad : Nat → Nat) : ∀ (as : jSt), (∀ v ∈ as, jisL (some v) = false) → (lg_sl (as.map (jemb ad))).length = as.length
  | [], _ => rfl
  | v :: as, h => by
    have h1 := h v List.mem_cons_self
    have ih := j_ent_lg ad as (fun x hx => h x (List.mem_cons_of_mem _ hx))
    have hc : ¬ (jemb ad v).category = 2 := fun z => by
      rw [(jcat_l ad v).mp z] at h1
      cases h1
    unfold lg_sl at ih ⊢
    rw [List.map_cons, List.flatMap_cons, if_neg hc, List.length_append, ih]
    simp only [List.length_cons, List.length_nil]
    omega
theorem j_ent_args (ad : Nat → Nat) : ∀ (as : jSt) (k n i : Nat) (v : jV), (∀ v ∈ as, jisL (some v) = false) → jnth (as.map some ++ List.replicate n none) i = some v → (k + i, jemb ad v) ∈ lv_args k (as.map (jemb ad))
  | [], _, n, i, v, _, h => by
    rw [List.map_nil, List.nil_append, jnth_none] at h
    cases h
  | w :: as, k, n, 0, v, hn, h => by
    have h : some w = some v := h
    cases h
    exact List.mem_cons_self
  | w :: as, k, n, i + 1, v, hn, h => by
    have h1 := hn w List.mem_cons_self
    have hc : ¬ (jemb ad w).category = 2 := fun z => by
      rw [(jcat_l ad w).mp z] at h1
      cases h1
    have ih := j_ent_args ad as (k + 1) n i v (fun x hx => hn x (List.mem_cons_of_mem _ hx)) h
    show _ ∈ (k, jemb ad w) :: lv_args (if (jemb ad w).category = 2 then k + 2 else k + 1) (as.map (jemb ad))
    rw [if_neg hc]
    refine List.mem_cons_of_mem _ ?_
    have e : k + (i + 1) = k + 1 + i := by omega
    rw [e]
    exact ih
theorem j_ent_ok : ∀ (as : jSt) (n i : Nat) (v : jV), jnth (as.map some ++ List.replicate n none) i = some v → v ∈ as
  | [], n, i, v, h => by
    rw [List.map_nil, List.nil_append, jnth_none] at h
    cases h
  | w :: as, n, 0, v, h => by
    have h : some w = some v := h
    cases h
    exact List.mem_cons_self
  | w :: as, n, i + 1, v, h => List.mem_cons_of_mem _ (j_ent_ok as n i v h)
theorem CL_inv {d n : Nat} {q : jIm} {as : jSt} {μ : jM} {o : jO} (hq : jIs[n]? = some q) (h : CL (d + 1) n as μ = some o) : (∀ v ∈ as, jisL (some v) = false) ∧ as.length ≤ q.2.2.1 ∧ ∃ N, jn q.2.2.2.2.1 (CL d) N 0 (as.map some ++ List.replicate (q.2.2.1 - as.length) none) [] μ = some o := by
  have hm : jMs[n]? = some (q.2.2.2.2.1, q.2.2.1) := by
    rw [jIs_Ms, List.getElem?_map, hq]
    rfl
  have h : jCL jMs (d + 1) n as μ = some o := h
  unfold jCL at h
  rw [hm] at h
  dsimp only at h
  obtain ⟨h1, h2⟩ := cd_some h
  rw [Bool.and_eq_true] at h1
  refine ⟨fun v hv => ?_, Nat.le_of_ble_eq_true h1.2, (EVc_iff _ _ _ _ _ _ _).mp h2⟩
  have h3 := List.all_eq_true.mp h1.1 v hv
  simpa using h3
section MT
variable {p : Program} {l : Launch} {e : Env} {R : Room} {s : State} {m : MethodId} {args : Array Value} {below : List Frame} {meth : Method} {c : Code} {Q : State → Prop} {cc : ByteArray} {own : String} {nL : Nat} {D : va_G} {cA : Nat → ClassId} {ad : Nat → Nat}
/-- from any of a method's labels to its ends -/
theorem jn_snd {d : Nat} (hx : p.tables.exec = Jvm.exec) (hb : c.code = cc) (hml : c.maxLocals = nL) (hown : s.vm.findClass own = some m.cls) (hts : ∀ w ∈ jTs, w.before args s = true) (hK : va_K D vwCl (jtys cA) s) (hinj : ∀ i j, i < 100 → j < 100 → ad i = ad j → i = j) (hR : d + 1 ≤ R.frames) (hRl : 70 * (d + 1) ≤ R.locals) (hM : jMet l D cA ad d) (hIs : ∀ q ∈ jIs, jMok q)
    {T : jT} {ret : Option FieldType} {o : jO}
    (hRI : ∀ (pc : Nat) (x : Int) (μ : jM) (H : Heap) (locs : List Loc) (ls : Array Slot), decode cc pc = .ok (.ireturn, 1) → (ret = some .int ∨ ret = some .boolean ∧ (x = 0 ∨ x = 1)) → o = (some (some (jI x)), μ) → j32 x → jokM μ → va_P D vwCl (jws cA ad μ) H → va_S (jA ad) s.heap H locs → W p l e R s m args below meth c H locs 0 0 Q (F0 m pc ls [.int (Int32.ofInt x)]))
    (hRL : ∀ (pc : Nat) (x : Int) (μ : jM) (H : Heap) (locs : List Loc) (ls : Array Slot), decode cc pc = .ok (.lreturn, 1) → ret = some .long → o = (some (some (jL x)), μ) → j64 x → jokM μ → va_P D vwCl (jws cA ad μ) H → va_S (jA ad) s.heap H locs → W p l e R s m args below meth c H locs 0 0 Q (F0 m pc ls [.long (Int64.ofInt x)]))
    (hRV : ∀ (pc : Nat) (μ : jM) (H : Heap) (locs : List Loc) (ls : Array Slot), decode cc pc = .ok (.return_, 1) → ret = none → o = (some none, μ) → jokM μ → va_P D vwCl (jws cA ad μ) H → va_S (jA ad) s.heap H locs → W p l e R s m args below meth c H locs 0 0 Q (F0 m pc ls []))
    (hRT : ∀ (a b c0 h pc : Nat) (μ : jM) (H : Heap) (locs : List Loc) (ls : Array Slot), (Instr.athrow, a, b, c0, h, pc) ∈ T.1 → o = (none, μ) → jokM μ → ls.size = nL → va_P D vwCl (jws cA ad μ) H → va_S (jA ad) s.heap H locs → W p l e R s m args below meth c H locs 0 0 Q (F0 m pc ls []))
    (hwd : ∀ e ∈ T.1, ∀ x ∈ jwc own cc e, x ∈ jTs) (hcks : jcks own cc nL ret T T.1 = true) :
    ∀ (N L : Nat) (lv : jLs) (st : jSt) (μ : jM) (H : Heap) (locs : List Loc) (ls : Array Slot), jn T (CL d) N L lv st μ = some o → jRel D cA ad s nL lv st μ H locs ls → W p l e R s m args below meth c H locs 0 0 Q (F0 m (jpc (jcode T L)) ls (st.map (jemb ad)))
  | 0, _, _, _, _, _, _, _, h, _ => by cases h
  | N + 1, L, lv, st, μ, H, locs, ls, h, hr => by
    have ih := jn_snd hx hb hml hown hts hK hinj hR hRl hM hIs hRI hRL hRV hRT hwd hcks N
    refine jB_snd hx hb hml hown hts hK hinj hR hRl hM hIs (T := T) (J := fun L' lv' st' μ' => jn T (CL d) N L' (jlive T L' lv') st' μ') ?_ hRI hRL hRV hRT hwd 400 (jcode T L) lv st μ H locs ls (fun x hx => List.mem_of_mem_drop hx) (jcks_drop _ hcks) h hr
    intro L' lv' st' μ' H' locs' ls' h' hl' hr'
    have hl : (T.2.getD L' ([], 0)).1.length = nL := by simpa [jlok] using hl'
    exact ih L' (jlive T L' lv') st' μ' H' locs' ls' h' ⟨jmk_rl _ hl hr'.1, jmk_ok _ hr'.2.1, hr'.2.2⟩
/-- the start of a method -/
theorem j_ent {as : jSt} {μ : jM} (hn : ∀ v ∈ as, jisL (some v) = false) (hle : as.length ≤ nL) (hoS : jokS as) (hoM : jokM μ) (hP : va_P D vwCl (jws cA ad μ) s.heap) : ∃ ls, entryFrame m (as.map (jemb ad)).toArray nL = F0 m 0 ls [] ∧ jRel D cA ad s nL (as.map some ++ List.replicate (nL - as.length) none) [] μ s.heap [] ls := by
  refine ⟨_, lg_entry_eq m _ nL, ?_⟩
  have hl := lv_entry (as.map (jemb ad)) (n := nL) (by rw [j_ent_lg ad as hn]; exact hle)
  refine ⟨⟨by simp; omega, hl.1, hl.2.1, fun i v h => ?_⟩, fun i v h => hoS v (j_ent_ok _ _ _ _ h), fun v hv => (by cases hv), hP, va_S.rf, hoM⟩
  have h2 := j_ent_args ad as 0 _ i v hn h
  rw [Nat.zero_add] at h2
  exact hl.2.2 _ h2
end MT
set_option maxHeartbeats 4000000 in
theorem j_met (l : Launch) (D : va_G) (cA : Nat → ClassId) (ad : Nat → Nat) (hinj : ∀ i j, i < 100 → j < 100 → ad i = ad j → i = j) (hIs : ∀ q ∈ jIs, jMok q) : ∀ d, jMet l D cA ad d
  | 0 => fun n q as μ o hq h => by cases h
  | d + 1 => by
    have ih := j_met l D cA ad hinj hIs d
    intro n q as μ o hq h hne hlen hoS hoM
    obtain ⟨o1, o2, o3, o4, o5, o6, o7, o8, o9, o10⟩ := hIs q (List.mem_of_getElem? hq)
    obtain ⟨hn, hle, N, hN⟩ := CL_inv hq h
    refine Met.ofW (cc := q.2.1) (maxL := q.2.2.1) (ret := q.2.2.2.1) o1 rfl ?_
    intro p e s m args below meth c s₁ B hml hv
    obtain ⟨rfl, hP, hK⟩ := hv
    have hx := B.exec
    have hb := B.bytes
    have hr := B.returns
    have hts0 := atoms_spec (ws := jWs q) B.pre
    have hts : ∀ w ∈ jTs, w.before _ s = true := fun w hw => hts0 w (List.mem_cons_of_mem _ hw)
    have hown : s.vm.findClass q.1.cls = some m.cls := findClass_of_methodNamed B.named
    have hlocks : meth.locks = false := B.notSynchronized
    obtain ⟨ls, he, hrel⟩ := j_ent (D := D) (cA := cA) (ad := ad) (s := s) (m := m) (nL := q.2.2.1) hn hle hoS hoM hP
    rw [he]
    have fin := jn_snd (Q := MQ below (jQ D cA ad o) (as.map (jemb ad)).toArray s 0 0 (jA ad)) (R := (headSpec (jWs q) (jRm (d + 1))).room) (p := p) (e := e) (below := below) (meth := meth) (o := o) (T := q.2.2.2.2.1) hx hb hml hown hts hK hinj (Nat.le_refl (d + 1)) (Nat.le_refl (70 * (d + 1))) ih hIs (ret := q.2.2.2.1) ?_ ?_ ?_ ?_ o3 o2 N 0 _ [] μ s.heap [] ls hN hrel
    · rw [o5] at fin
      exact fin
    · intro pc x μ' H locs ls' hdec hret ho hx9 hM9 hP9 hS9
      subst ho
      have hq9 : ∀ t : State, t.heap = H → s.WarmedH t.vm → jQ D cA ad (some (some (jI x)), μ') (as.map (jemb ad)).toArray s (.returned (some (.int (Int32.ofInt x)))) t := fun t ht _ => ⟨rfl, by rw [ht]; exact hP9, hS9.F ht, hM9, fun v hv => by cases hv; exact hx9⟩
      rcases hret with z | ⟨z, hz⟩
      · exact W.iret hx hb (hr.trans z) hq9 hS9.2.2 hdec hlocks
      · exact W.zret hx hb (hr.trans z) (o_boolN hz) hq9 hS9.2.2 hdec hlocks
    · intro pc x μ' H locs ls' hdec hret ho hx9 hM9 hP9 hS9
      subst ho
      exact W.lret hx hb (hr.trans hret) (fun t ht _ => ⟨rfl, by rw [ht]; exact hP9, hS9.F ht, hM9, fun v hv => by cases hv; exact hx9⟩) hS9.2.2 hdec hlocks
    · intro pc μ' H locs ls' hdec hret ho hM9 hP9 hS9
      subst ho
      exact W.vret hx hb (hr.trans hret) (fun t ht _ => ⟨rfl, by rw [ht]; exact hP9, hS9.F ht, hM9, fun v hv => by cases hv⟩) hS9.2.2 hdec hlocks
    · intro a b c0 h0 pc μ' H locs ls' hmem ho
      subst ho
      exact absurd rfl hne
end
section
theorem jTs_p {L : List Jvm.Cond} (ps : List Nat) (hp : L = ps.filterMap (fun i => lw_tbl[i]?)) (hg : L.all goodWord = true) : ∀ x ∈ L, x ∈ jTs := by
  intro x hx
  have h1 := List.all_eq_true.mp hg x hx
  rw [hp] at hx
  obtain ⟨i, -, hi⟩ := List.mem_filterMap.mp hx
  exact jTs_ix i hi h1
theorem jwc_all {own : String} {cc : ByteArray} {l : List jIn} (h : ∀ x ∈ l.flatMap (jwc own cc), x ∈ jTs) : ∀ e ∈ l, ∀ x ∈ jwc own cc e, x ∈ jTs := fun e he x hx => h x (List.mem_flatMap.mpr ⟨e, he, hx⟩)
theorem jok_0 : jMok (yJ6_bitCount_0f7a4, cJ6_bitCount_0f7a4, 1, (some .int), T_bitCount, 1, true) := ⟨by decide +kernel, by decide +kernel, jwc_all (jTs_p [640, 641, 641, 642] (by decide +kernel) (by decide +kernel)), by decide, by decide +kernel, jTs_ix 639 (by decide +kernel) rfl, jTs_ix 120 (by decide +kernel) rfl, fun h => (by cases h), fun _ => jTs_ix 638 (by decide +kernel) rfl, by decide +kernel⟩
theorem jok_1 : jMok (yJ7_fill_53178, cJ7_fill_53178, 4, none, T_fill, 2, true) := ⟨by decide +kernel, by decide +kernel, jwc_all (jTs_p [] (by decide +kernel) (by decide +kernel)), by decide, by decide +kernel, jTs_ix 234 (by decide +kernel) rfl, jTs_ix 111 (by decide +kernel) rfl, fun h => (by cases h), fun _ => jTs_ix 233 (by decide +kernel) rfl, by decide +kernel⟩
theorem jok_2 : jMok (yX0_size, cX0_size, 1, (some .int), T_X0_size, 0, false) := ⟨by decide +kernel, by decide +kernel, jwc_all (jTs_p [255] (by decide +kernel) (by decide +kernel)), by decide, by decide +kernel, jTs_ix 663 (by decide +kernel) rfl, jTs_ix 112 (by decide +kernel) rfl, fun _ => ⟨jTs_ix 661 (by decide +kernel) rfl, jTs_ix 662 (by decide +kernel) rfl⟩, fun h => (by cases h), by decide +kernel⟩
theorem jok_3 : jMok (yX0_set, cX0_set, 1, (some .int), T_X0_set, 0, false) := ⟨by decide +kernel, by decide +kernel, jwc_all (jTs_p [256] (by decide +kernel) (by decide +kernel)), by decide, by decide +kernel, jTs_ix 616 (by decide +kernel) rfl, jTs_ix 112 (by decide +kernel) rfl, fun _ => ⟨jTs_ix 614 (by decide +kernel) rfl, jTs_ix 615 (by decide +kernel) rfl⟩, fun h => (by cases h), by decide +kernel⟩
theorem jok_4 : jMok (yX0_last, cX0_last, 1, (some .int), T_X0_last, 0, false) := ⟨by decide +kernel, by decide +kernel, jwc_all (jTs_p [255, 255, 254, 255] (by decide +kernel) (by decide +kernel)), by decide, by decide +kernel, jTs_ix 620 (by decide +kernel) rfl, jTs_ix 112 (by decide +kernel) rfl, fun _ => ⟨jTs_ix 618 (by decide +kernel) rfl, jTs_ix 619 (by decide +kernel) rfl⟩, fun h => (by cases h), by decide +kernel⟩
theorem jok_5 : jMok (yX0_add, cX0_add, 2, none, T_X0_add, 1, false) := ⟨by decide +kernel, by decide +kernel, jwc_all (jTs_p [255, 254, 255, 255, 255, 256, 256] (by decide +kernel) (by decide +kernel)), by decide, by decide +kernel, jTs_ix 659 (by decide +kernel) rfl, jTs_ix 112 (by decide +kernel) rfl, fun _ => ⟨jTs_ix 657 (by decide +kernel) rfl, jTs_ix 658 (by decide +kernel) rfl⟩, fun h => (by cases h), by decide +kernel⟩
theorem jok_6 : jMok (yX0_takeLast, cX0_takeLast, 2, (some .int), T_X0_takeLast, 0, false) := ⟨by decide +kernel, by decide +kernel, jwc_all (jTs_p [672, 255, 255, 256, 256] (by decide +kernel) (by decide +kernel)), by decide, by decide +kernel, jTs_ix 671 (by decide +kernel) rfl, jTs_ix 112 (by decide +kernel) rfl, fun _ => ⟨jTs_ix 669 (by decide +kernel) rfl, jTs_ix 670 (by decide +kernel) rfl⟩, fun h => (by cases h), by decide +kernel⟩
theorem jok_7 : jMok (yX0_clear, cX0_clear, 1, none, T_X0_clear, 0, false) := ⟨by decide +kernel, by decide +kernel, jwc_all (jTs_p [255, 256] (by decide +kernel) (by decide +kernel)), by decide, by decide +kernel, jTs_ix 685 (by decide +kernel) rfl, jTs_ix 112 (by decide +kernel) rfl, fun _ => ⟨jTs_ix 683 (by decide +kernel) rfl, jTs_ix 684 (by decide +kernel) rfl⟩, fun h => (by cases h), by decide +kernel⟩
theorem jok_8 : jMok (yX0_copy, cX0_copy, 2, none, T_X0_copy, 1, false) := ⟨by decide +kernel, by decide +kernel, jwc_all (jTs_p [254, 254, 1309, 255, 255, 256, 256] (by decide +kernel) (by decide +kernel)), by decide, by decide +kernel, jTs_ix 1308 (by decide +kernel) rfl, jTs_ix 112 (by decide +kernel) rfl, fun _ => ⟨jTs_ix 1306 (by decide +kernel) rfl, jTs_ix 1307 (by decide +kernel) rfl⟩, fun h => (by cases h), by decide +kernel⟩
theorem jok_9 : jMok (yX1_dishes, cX1_dishes, 1, (some .int), T_X1_dishes, 0, false) := ⟨by decide +kernel, by decide +kernel, jwc_all (jTs_p [161] (by decide +kernel) (by decide +kernel)), by decide, by decide +kernel, jTs_ix 463 (by decide +kernel) rfl, jTs_ix 107 (by decide +kernel) rfl, fun _ => ⟨jTs_ix 461 (by decide +kernel) rfl, jTs_ix 462 (by decide +kernel) rfl⟩, fun h => (by cases h), by decide +kernel⟩
theorem jok_10 : jMok (yX1_guests, cX1_guests, 1, (some .int), T_X1_guests, 0, false) := ⟨by decide +kernel, by decide +kernel, jwc_all (jTs_p [162] (by decide +kernel) (by decide +kernel)), by decide, by decide +kernel, jTs_ix 467 (by decide +kernel) rfl, jTs_ix 107 (by decide +kernel) rfl, fun _ => ⟨jTs_ix 465 (by decide +kernel) rfl, jTs_ix 466 (by decide +kernel) rfl⟩, fun h => (by cases h), by decide +kernel⟩
theorem jok_11 : jMok (yX1_hasDish, cX1_hasDish, 2, (some .boolean), T_X1_hasDish, 1, false) := ⟨by decide +kernel, by decide +kernel, jwc_all (jTs_p [161] (by decide +kernel) (by decide +kernel)), by decide, by decide +kernel, jTs_ix 603 (by decide +kernel) rfl, jTs_ix 107 (by decide +kernel) rfl, fun _ => ⟨jTs_ix 601 (by decide +kernel) rfl, jTs_ix 602 (by decide +kernel) rfl⟩, fun h => (by cases h), by decide +kernel⟩
theorem jok_12 : jMok (yX1_hasGuest, cX1_hasGuest, 2, (some .boolean), T_X1_hasGuest, 1, false) := ⟨by decide +kernel, by decide +kernel, jwc_all (jTs_p [162] (by decide +kernel) (by decide +kernel)), by decide, by decide +kernel, jTs_ix 762 (by decide +kernel) rfl, jTs_ix 107 (by decide +kernel) rfl, fun _ => ⟨jTs_ix 760 (by decide +kernel) rfl, jTs_ix 761 (by decide +kernel) rfl⟩, fun h => (by cases h), by decide +kernel⟩
theorem jok_13 : jMok (yX1_all, cX1_all, 1, (some .int), T_X1_all, 0, false) := ⟨by decide +kernel, by decide +kernel, jwc_all (jTs_p [161] (by decide +kernel) (by decide +kernel)), by decide, by decide +kernel, jTs_ix 1057 (by decide +kernel) rfl, jTs_ix 107 (by decide +kernel) rfl, fun _ => ⟨jTs_ix 1055 (by decide +kernel) rfl, jTs_ix 1056 (by decide +kernel) rfl⟩, fun h => (by cases h), by decide +kernel⟩
theorem jok_14 : jMok (yX1_stuffsOf, cX1_stuffsOf, 2, (some .int), T_X1_stuffsOf, 1, false) := ⟨by decide +kernel, by decide +kernel, jwc_all (jTs_p [600, 154] (by decide +kernel) (by decide +kernel)), by decide, by decide +kernel, jTs_ix 632 (by decide +kernel) rfl, jTs_ix 107 (by decide +kernel) rfl, fun _ => ⟨jTs_ix 630 (by decide +kernel) rfl, jTs_ix 631 (by decide +kernel) rfl⟩, fun h => (by cases h), by decide +kernel⟩
theorem jok_15 : jMok (yX1_costOf, cX1_costOf, 2, (some .int), T_X1_costOf, 1, false) := ⟨by decide +kernel, by decide +kernel, jwc_all (jTs_p [600, 155] (by decide +kernel) (by decide +kernel)), by decide, by decide +kernel, jTs_ix 607 (by decide +kernel) rfl, jTs_ix 107 (by decide +kernel) rfl, fun _ => ⟨jTs_ix 605 (by decide +kernel) rfl, jTs_ix 606 (by decide +kernel) rfl⟩, fun h => (by cases h), by decide +kernel⟩
theorem jok_16 : jMok (yX1_heatOf, cX1_heatOf, 2, (some .int), T_X1_heatOf, 1, false) := ⟨by decide +kernel, by decide +kernel, jwc_all (jTs_p [600, 156] (by decide +kernel) (by decide +kernel)), by decide, by decide +kernel, jTs_ix 1094 (by decide +kernel) rfl, jTs_ix 107 (by decide +kernel) rfl, fun _ => ⟨jTs_ix 1092 (by decide +kernel) rfl, jTs_ix 1093 (by decide +kernel) rfl⟩, fun h => (by cases h), by decide +kernel⟩
theorem jok_17 : jMok (yX1_hoursOf, cX1_hoursOf, 2, (some .int), T_X1_hoursOf, 1, false) := ⟨by decide +kernel, by decide +kernel, jwc_all (jTs_p [600, 157] (by decide +kernel) (by decide +kernel)), by decide, by decide +kernel, jTs_ix 1098 (by decide +kernel) rfl, jTs_ix 107 (by decide +kernel) rfl, fun _ => ⟨jTs_ix 1096 (by decide +kernel) rfl, jTs_ix 1097 (by decide +kernel) rfl⟩, fun h => (by cases h), by decide +kernel⟩
theorem jok_18 : jMok (yX1_lovedBy, cX1_lovedBy, 2, (some .int), T_X1_lovedBy, 1, false) := ⟨by decide +kernel, by decide +kernel, jwc_all (jTs_p [759, 158] (by decide +kernel) (by decide +kernel)), by decide, by decide +kernel, jTs_ix 1079 (by decide +kernel) rfl, jTs_ix 107 (by decide +kernel) rfl, fun _ => ⟨jTs_ix 1077 (by decide +kernel) rfl, jTs_ix 1078 (by decide +kernel) rfl⟩, fun h => (by cases h), by decide +kernel⟩
theorem jok_19 : jMok (yX1_barredBy, cX1_barredBy, 2, (some .int), T_X1_barredBy, 1, false) := ⟨by decide +kernel, by decide +kernel, jwc_all (jTs_p [759, 159] (by decide +kernel) (by decide +kernel)), by decide, by decide +kernel, jTs_ix 758 (by decide +kernel) rfl, jTs_ix 107 (by decide +kernel) rfl, fun _ => ⟨jTs_ix 756 (by decide +kernel) rfl, jTs_ix 757 (by decide +kernel) rfl⟩, fun h => (by cases h), by decide +kernel⟩
theorem jok_20 : jMok (yX1_holdersOf, cX1_holdersOf, 2, (some .int), T_X1_holdersOf, 1, false) := ⟨by decide +kernel, by decide +kernel, jwc_all (jTs_p [160] (by decide +kernel) (by decide +kernel)), by decide, by decide +kernel, jTs_ix 654 (by decide +kernel) rfl, jTs_ix 107 (by decide +kernel) rfl, fun _ => ⟨jTs_ix 652 (by decide +kernel) rfl, jTs_ix 653 (by decide +kernel) rfl⟩, fun h => (by cases h), by decide +kernel⟩
theorem jok_21 : jMok (yX1_draftDish, cX1_draftDish, 6, none, T_X1_draftDish, 5, false) := ⟨by decide +kernel, by decide +kernel, jwc_all (jTs_p [161, 154, 155, 156, 157] (by decide +kernel) (by decide +kernel)), by decide, by decide +kernel, jTs_ix 505 (by decide +kernel) rfl, jTs_ix 107 (by decide +kernel) rfl, fun _ => ⟨jTs_ix 503 (by decide +kernel) rfl, jTs_ix 504 (by decide +kernel) rfl⟩, fun h => (by cases h), by decide +kernel⟩
theorem jok_22 : jMok (yX1_draftGuest, cX1_draftGuest, 4, none, T_X1_draftGuest, 3, false) := ⟨by decide +kernel, by decide +kernel, jwc_all (jTs_p [162, 158, 159] (by decide +kernel) (by decide +kernel)), by decide, by decide +kernel, jTs_ix 488 (by decide +kernel) rfl, jTs_ix 107 (by decide +kernel) rfl, fun _ => ⟨jTs_ix 486 (by decide +kernel) rfl, jTs_ix 487 (by decide +kernel) rfl⟩, fun h => (by cases h), by decide +kernel⟩
theorem jok_23 : jMok (yX1_takeIn, cX1_takeIn, 5, none, T_X1_takeIn, 2, false) := ⟨by decide +kernel, by decide +kernel, jwc_all (jTs_p [161, 162, 161, 160, 154, 161, 162] (by decide +kernel) (by decide +kernel)), by decide, by decide +kernel, jTs_ix 509 (by decide +kernel) rfl, jTs_ix 107 (by decide +kernel) rfl, fun _ => ⟨jTs_ix 507 (by decide +kernel) rfl, jTs_ix 508 (by decide +kernel) rfl⟩, fun h => (by cases h), by decide +kernel⟩
theorem jok_24 : jMok (yX1_price, cX1_price, 3, none, T_X1_price, 2, false) := ⟨by decide +kernel, by decide +kernel, jwc_all (jTs_p [600, 155] (by decide +kernel) (by decide +kernel)), by decide, by decide +kernel, jTs_ix 599 (by decide +kernel) rfl, jTs_ix 107 (by decide +kernel) rfl, fun _ => ⟨jTs_ix 597 (by decide +kernel) rfl, jTs_ix 598 (by decide +kernel) rfl⟩, fun h => (by cases h), by decide +kernel⟩
theorem jok_25 : jMok (yX1_costOfAll, cX1_costOfAll, 4, (some .int), T_X1_costOfAll, 1, false) := ⟨by decide +kernel, by decide +kernel, jwc_all (jTs_p [161, 155] (by decide +kernel) (by decide +kernel)), by decide, by decide +kernel, jTs_ix 1321 (by decide +kernel) rfl, jTs_ix 107 (by decide +kernel) rfl, fun _ => ⟨jTs_ix 1319 (by decide +kernel) rfl, jTs_ix 1320 (by decide +kernel) rfl⟩, fun h => (by cases h), by decide +kernel⟩
theorem jok_26 : jMok (yX1_isHungry, cX1_isHungry, 3, (some .boolean), T_X1_isHungry, 2, false) := ⟨by decide +kernel, by decide +kernel, jwc_all (jTs_p [755, 629] (by decide +kernel) (by decide +kernel)), by decide, by decide +kernel, jTs_ix 754 (by decide +kernel) rfl, jTs_ix 107 (by decide +kernel) rfl, fun _ => ⟨jTs_ix 752 (by decide +kernel) rfl, jTs_ix 753 (by decide +kernel) rfl⟩, fun h => (by cases h), by decide +kernel⟩
theorem jok_27 : jMok (yX1_hungryAt, cX1_hungryAt, 4, (some .int), T_X1_hungryAt, 1, false) := ⟨by decide +kernel, by decide +kernel, jwc_all (jTs_p [162, 751] (by decide +kernel) (by decide +kernel)), by decide, by decide +kernel, jTs_ix 750 (by decide +kernel) rfl, jTs_ix 107 (by decide +kernel) rfl, fun _ => ⟨jTs_ix 748 (by decide +kernel) rfl, jTs_ix 749 (by decide +kernel) rfl⟩, fun h => (by cases h), by decide +kernel⟩
theorem jok_28 : jMok (yX1_barredTo, cX1_barredTo, 4, (some .int), T_X1_barredTo, 1, false) := ⟨by decide +kernel, by decide +kernel, jwc_all (jTs_p [161, 751] (by decide +kernel) (by decide +kernel)), by decide, by decide +kernel, jTs_ix 1019 (by decide +kernel) rfl, jTs_ix 107 (by decide +kernel) rfl, fun _ => ⟨jTs_ix 1017 (by decide +kernel) rfl, jTs_ix 1018 (by decide +kernel) rfl⟩, fun h => (by cases h), by decide +kernel⟩
theorem jok_29 : jMok (yX1_barredToNobody, cX1_barredToNobody, 3, (some .int), T_X1_barredToNobody, 0, false) := ⟨by decide +kernel, by decide +kernel, jwc_all (jTs_p [1132, 162, 1133] (by decide +kernel) (by decide +kernel)), by decide, by decide +kernel, jTs_ix 1131 (by decide +kernel) rfl, jTs_ix 107 (by decide +kernel) rfl, fun _ => ⟨jTs_ix 1129 (by decide +kernel) rfl, jTs_ix 1130 (by decide +kernel) rfl⟩, fun h => (by cases h), by decide +kernel⟩
theorem jok_30 : jMok (yX1_hotDishes, cX1_hotDishes, 3, (some .int), T_X1_hotDishes, 0, false) := ⟨by decide +kernel, by decide +kernel, jwc_all (jTs_p [161, 156] (by decide +kernel) (by decide +kernel)), by decide, by decide +kernel, jTs_ix 646 (by decide +kernel) rfl, jTs_ix 107 (by decide +kernel) rfl, fun _ => ⟨jTs_ix 644 (by decide +kernel) rfl, jTs_ix 645 (by decide +kernel) rfl⟩, fun h => (by cases h), by decide +kernel⟩
theorem jok_31 : jMok (yX1_holdersOfSome, cX1_holdersOfSome, 5, (some .int), T_X1_holdersOfSome, 2, false) := ⟨by decide +kernel, by decide +kernel, jwc_all (jTs_p [161, 154, 637] (by decide +kernel) (by decide +kernel)), by decide, by decide +kernel, jTs_ix 636 (by decide +kernel) rfl, jTs_ix 107 (by decide +kernel) rfl, fun _ => ⟨jTs_ix 634 (by decide +kernel) rfl, jTs_ix 635 (by decide +kernel) rfl⟩, fun h => (by cases h), by decide +kernel⟩
theorem jok_32 : jMok (yX1_sharing, cX1_sharing, 3, (some .int), T_X1_sharing, 2, false) := ⟨by decide +kernel, by decide +kernel, jwc_all (jTs_p [629, 633] (by decide +kernel) (by decide +kernel)), by decide, by decide +kernel, jTs_ix 628 (by decide +kernel) rfl, jTs_ix 107 (by decide +kernel) rfl, fun _ => ⟨jTs_ix 626 (by decide +kernel) rfl, jTs_ix 627 (by decide +kernel) rfl⟩, fun h => (by cases h), by decide +kernel⟩
theorem jok_33 : jMok (yX1_partOf, cX1_partOf, 6, (some .int), T_X1_partOf, 2, false) := ⟨by decide +kernel, by decide +kernel, jwc_all (jTs_p [161, 161, 1034] (by decide +kernel) (by decide +kernel)), by decide, by decide +kernel, jTs_ix 1033 (by decide +kernel) rfl, jTs_ix 107 (by decide +kernel) rfl, fun _ => ⟨jTs_ix 1031 (by decide +kernel) rfl, jTs_ix 1032 (by decide +kernel) rfl⟩, fun h => (by cases h), by decide +kernel⟩
theorem jok_34 : jMok (yX2_allows, cX2_allows, 2, (some .boolean), T_X2_allows, 2, true) := ⟨by decide +kernel, by decide +kernel, jwc_all (jTs_p [] (by decide +kernel) (by decide +kernel)), by decide, by decide +kernel, jTs_ix 569 (by decide +kernel) rfl, jTs_ix 110 (by decide +kernel) rfl, fun h => (by cases h), fun _ => jTs_ix 568 (by decide +kernel) rfl, by decide +kernel⟩
theorem jok_35 : jMok (yX2_share, cX2_share, 1, (some .int), T_X2_share, 0, false) := ⟨by decide +kernel, by decide +kernel, jwc_all (jTs_p [236] (by decide +kernel) (by decide +kernel)), by decide, by decide +kernel, jTs_ix 834 (by decide +kernel) rfl, jTs_ix 110 (by decide +kernel) rfl, fun _ => ⟨jTs_ix 832 (by decide +kernel) rfl, jTs_ix 833 (by decide +kernel) rfl⟩, fun h => (by cases h), by decide +kernel⟩
theorem jok_36 : jMok (yX2_heat, cX2_heat, 1, (some .int), T_X2_heat, 0, false) := ⟨by decide +kernel, by decide +kernel, jwc_all (jTs_p [238] (by decide +kernel) (by decide +kernel)), by decide, by decide +kernel, jTs_ix 830 (by decide +kernel) rfl, jTs_ix 110 (by decide +kernel) rfl, fun _ => ⟨jTs_ix 828 (by decide +kernel) rfl, jTs_ix 829 (by decide +kernel) rfl⟩, fun h => (by cases h), by decide +kernel⟩
theorem jok_37 : jMok (yX2_most, cX2_most, 2, (some .int), T_X2_most, 1, false) := ⟨by decide +kernel, by decide +kernel, jwc_all (jTs_p [237, 235, 841] (by decide +kernel) (by decide +kernel)), by decide, by decide +kernel, jTs_ix 840 (by decide +kernel) rfl, jTs_ix 110 (by decide +kernel) rfl, fun _ => ⟨jTs_ix 838 (by decide +kernel) rfl, jTs_ix 839 (by decide +kernel) rfl⟩, fun h => (by cases h), by decide +kernel⟩
theorem jok_38 : jMok (yX2_change, cX2_change, 4, (some .int), T_X2_change, 2, false) := ⟨by decide +kernel, by decide +kernel, jwc_all (jTs_p [236, 237, 238, 236, 236, 237, 237, 238, 238] (by decide +kernel) (by decide +kernel)), by decide, by decide +kernel, jTs_ix 573 (by decide +kernel) rfl, jTs_ix 110 (by decide +kernel) rfl, fun _ => ⟨jTs_ix 571 (by decide +kernel) rfl, jTs_ix 572 (by decide +kernel) rfl⟩, fun h => (by cases h), by decide +kernel⟩
theorem jok_39 : jMok (yX2_restock, cX2_restock, 4, (some .int), T_X2_restock, 2, false) := ⟨by decide +kernel, by decide +kernel, jwc_all (jTs_p [235, 235] (by decide +kernel) (by decide +kernel)), by decide, by decide +kernel, jTs_ix 581 (by decide +kernel) rfl, jTs_ix 110 (by decide +kernel) rfl, fun _ => ⟨jTs_ix 579 (by decide +kernel) rfl, jTs_ix 580 (by decide +kernel) rfl⟩, fun h => (by cases h), by decide +kernel⟩
theorem jok_40 : jMok (yX2_copy, cX2_copy, 2, none, T_X2_copy, 1, false) := ⟨by decide +kernel, by decide +kernel, jwc_all (jTs_p [236, 236, 237, 237, 238, 238, 235, 235, 812] (by decide +kernel) (by decide +kernel)), by decide, by decide +kernel, jTs_ix 811 (by decide +kernel) rfl, jTs_ix 110 (by decide +kernel) rfl, fun _ => ⟨jTs_ix 809 (by decide +kernel) rfl, jTs_ix 810 (by decide +kernel) rfl⟩, fun h => (by cases h), by decide +kernel⟩
theorem jok_41 : jMok (yX2_useUp, cX2_useUp, 4, none, T_X2_useUp, 2, false) := ⟨by decide +kernel, by decide +kernel, jwc_all (jTs_p [235, 235, 651, 655, 681] (by decide +kernel) (by decide +kernel)), by decide, by decide +kernel, jTs_ix 680 (by decide +kernel) rfl, jTs_ix 110 (by decide +kernel) rfl, fun _ => ⟨jTs_ix 678 (by decide +kernel) rfl, jTs_ix 679 (by decide +kernel) rfl⟩, fun h => (by cases h), by decide +kernel⟩
theorem jok_42 : jMok (yX2_refusal, cX2_refusal, 8, (some .int), T_X2_refusal, 4, false) := ⟨by decide +kernel, by decide +kernel, jwc_all (jTs_p [236, 625, 643, 647, 651, 655, 237, 235] (by decide +kernel) (by decide +kernel)), by decide, by decide +kernel, jTs_ix 624 (by decide +kernel) rfl, jTs_ix 110 (by decide +kernel) rfl, fun _ => ⟨jTs_ix 622 (by decide +kernel) rfl, jTs_ix 623 (by decide +kernel) rfl⟩, fun h => (by cases h), by decide +kernel⟩
theorem jok_43 : jMok (yX2_isAgainstHeat, cX2_isAgainstHeat, 5, (some .boolean), T_X2_isAgainstHeat, 4, false) := ⟨by decide +kernel, by decide +kernel, jwc_all (jTs_p [238, 238] (by decide +kernel) (by decide +kernel)), by decide, by decide +kernel, jTs_ix 650 (by decide +kernel) rfl, jTs_ix 110 (by decide +kernel) rfl, fun _ => ⟨jTs_ix 649 (by decide +kernel) rfl, jTs_ix 13 (by decide +kernel) rfl⟩, fun h => (by cases h), by decide +kernel⟩
theorem jok_44 : jMok (yX3_value, cX3_value, 4, (some .int), T_X3_value, 2, false) := ⟨by decide +kernel, by decide +kernel, jwc_all (jTs_p [363, 363] (by decide +kernel) (by decide +kernel)), by decide, by decide +kernel, jTs_ix 978 (by decide +kernel) rfl, jTs_ix 116 (by decide +kernel) rfl, fun _ => ⟨jTs_ix 977 (by decide +kernel) rfl, jTs_ix 27 (by decide +kernel) rfl⟩, fun h => (by cases h), by decide +kernel⟩
theorem jok_45 : jMok (yX3_setValue, cX3_setValue, 5, none, T_X3_setValue, 3, false) := ⟨by decide +kernel, by decide +kernel, jwc_all (jTs_p [363, 363] (by decide +kernel) (by decide +kernel)), by decide, by decide +kernel, jTs_ix 967 (by decide +kernel) rfl, jTs_ix 116 (by decide +kernel) rfl, fun _ => ⟨jTs_ix 966 (by decide +kernel) rfl, jTs_ix 25 (by decide +kernel) rfl⟩, fun h => (by cases h), by decide +kernel⟩
theorem jok_46 : jMok (yX3_countRows, cX3_countRows, 6, (some .long), T_X3_countRows, 2, false) := ⟨by decide +kernel, by decide +kernel, jwc_all (jTs_p [962, 963, 964, 962, 968, 969, 970, 970, 969, 971, 979] (by decide +kernel) (by decide +kernel)), by decide, by decide +kernel, jTs_ix 961 (by decide +kernel) rfl, jTs_ix 116 (by decide +kernel) rfl, fun _ => ⟨jTs_ix 959 (by decide +kernel) rfl, jTs_ix 960 (by decide +kernel) rfl⟩, fun h => (by cases h), by decide +kernel⟩
theorem jok_47 : jMok (yX3_countOn, cX3_countOn, 5, none, T_X3_countOn, 2, false) := ⟨by decide +kernel, by decide +kernel, jwc_all (jTs_p [983, 984, 969, 985, 971, 964] (by decide +kernel) (by decide +kernel)), by decide, by decide +kernel, jTs_ix 982 (by decide +kernel) rfl, jTs_ix 116 (by decide +kernel) rfl, fun _ => ⟨jTs_ix 981 (by decide +kernel) rfl, jTs_ix 28 (by decide +kernel) rfl⟩, fun h => (by cases h), by decide +kernel⟩
theorem jok_48 : jMok (yX3_countWith, cX3_countWith, 5, (some .int), T_X3_countWith, 2, false) := ⟨by decide +kernel, by decide +kernel, jwc_all (jTs_p [975] (by decide +kernel) (by decide +kernel)), by decide, by decide +kernel, jTs_ix 974 (by decide +kernel) rfl, jTs_ix 116 (by decide +kernel) rfl, fun _ => ⟨jTs_ix 973 (by decide +kernel) rfl, jTs_ix 26 (by decide +kernel) rfl⟩, fun h => (by cases h), by decide +kernel⟩
theorem jok_49 : jMok (yX3_mending, cX3_mending, 7, (some .int), T_X3_mending, 3, false) := ⟨by decide +kernel, by decide +kernel, jwc_all (jTs_p [968, 983, 969, 985, 1185, 964, 975, 1197] (by decide +kernel) (by decide +kernel)), by decide, by decide +kernel, jTs_ix 1184 (by decide +kernel) rfl, jTs_ix 116 (by decide +kernel) rfl, fun _ => ⟨jTs_ix 1182 (by decide +kernel) rfl, jTs_ix 1183 (by decide +kernel) rfl⟩, fun h => (by cases h), by decide +kernel⟩
theorem jok_50 : jMok (yX3_fewestChanges, cX3_fewestChanges, 6, (some .int), T_X3_fewestChanges, 3, false) := ⟨by decide +kernel, by decide +kernel, jwc_all (jTs_p [1189, 1190, 1191, 1196] (by decide +kernel) (by decide +kernel)), by decide, by decide +kernel, jTs_ix 1188 (by decide +kernel) rfl, jTs_ix 116 (by decide +kernel) rfl, fun _ => ⟨jTs_ix 1187 (by decide +kernel) rfl, jTs_ix 39 (by decide +kernel) rfl⟩, fun h => (by cases h), by decide +kernel⟩
theorem jok_51 : jMok (yX3_changesWith, cX3_changesWith, 5, (some .int), T_X3_changesWith, 3, false) := ⟨by decide +kernel, by decide +kernel, jwc_all (jTs_p [1189, 1195, 975] (by decide +kernel) (by decide +kernel)), by decide, by decide +kernel, jTs_ix 1194 (by decide +kernel) rfl, jTs_ix 116 (by decide +kernel) rfl, fun _ => ⟨jTs_ix 1193 (by decide +kernel) rfl, jTs_ix 40 (by decide +kernel) rfl⟩, fun h => (by cases h), by decide +kernel⟩
theorem jok_52 : jMok (yX3_tellMended, cX3_tellMended, 9, none, T_X3_tellMended, 3, false) := ⟨by decide +kernel, by decide +kernel, jwc_all (jTs_p [1154, 1190, 983, 985, 1191, 975, 1155] (by decide +kernel) (by decide +kernel)), by decide, by decide +kernel, jTs_ix 1200 (by decide +kernel) rfl, jTs_ix 116 (by decide +kernel) rfl, fun _ => ⟨jTs_ix 1199 (by decide +kernel) rfl, jTs_ix 41 (by decide +kernel) rfl⟩, fun h => (by cases h), by decide +kernel⟩
theorem jok_53 : jMok (yX3_playBoth, cX3_playBoth, 8, (some .int), T_X3_playBoth, 2, false) := ⟨by decide +kernel, by decide +kernel, jwc_all (jTs_p [968, 962, 983, 969, 985, 1150, 970, 975, 964, 962, 963, 975, 1154, 983, 963, 985, 1150, 1155, 1156, 1155] (by decide +kernel) (by decide +kernel)), by decide, by decide +kernel, jTs_ix 1149 (by decide +kernel) rfl, jTs_ix 116 (by decide +kernel) rfl, fun _ => ⟨jTs_ix 1147 (by decide +kernel) rfl, jTs_ix 1148 (by decide +kernel) rfl⟩, fun h => (by cases h), by decide +kernel⟩
theorem jok_54 : jMok (yX3_playGreedy, cX3_playGreedy, 8, (some .int), T_X3_playGreedy, 4, false) := ⟨by decide +kernel, by decide +kernel, jwc_all (jTs_p [364, 364, 1167, 968, 962, 983, 969, 985, 970, 1168, 964, 962, 963, 975, 1154, 1156, 1155] (by decide +kernel) (by decide +kernel)), by decide, by decide +kernel, jTs_ix 1166 (by decide +kernel) rfl, jTs_ix 116 (by decide +kernel) rfl, fun _ => ⟨jTs_ix 1164 (by decide +kernel) rfl, jTs_ix 1165 (by decide +kernel) rfl⟩, fun h => (by cases h), by decide +kernel⟩
theorem jok_55 : jMok (yX3_worthToOther, cX3_worthToOther, 7, (some .int), T_X3_worthToOther, 3, false) := ⟨by decide +kernel, by decide +kernel, jwc_all (jTs_p [1172, 975, 975, 1176] (by decide +kernel) (by decide +kernel)), by decide, by decide +kernel, jTs_ix 1171 (by decide +kernel) rfl, jTs_ix 116 (by decide +kernel) rfl, fun _ => ⟨jTs_ix 1170 (by decide +kernel) rfl, jTs_ix 37 (by decide +kernel) rfl⟩, fun h => (by cases h), by decide +kernel⟩
theorem jok_56 : jMok (yX3_mostJoyful, cX3_mostJoyful, 5, (some .int), T_X3_mostJoyful, 1, false) := ⟨by decide +kernel, by decide +kernel, jwc_all (jTs_p [364, 364, 364] (by decide +kernel) (by decide +kernel)), by decide, by decide +kernel, jTs_ix 1175 (by decide +kernel) rfl, jTs_ix 116 (by decide +kernel) rfl, fun _ => ⟨jTs_ix 1174 (by decide +kernel) rfl, jTs_ix 38 (by decide +kernel) rfl⟩, fun h => (by cases h), by decide +kernel⟩
theorem jok_57 : jMok (yX3_leastFor, cX3_leastFor, 5, (some .int), T_X3_leastFor, 2, false) := ⟨by decide +kernel, by decide +kernel, jwc_all (jTs_p [975, 975] (by decide +kernel) (by decide +kernel)), by decide, by decide +kernel, jTs_ix 1153 (by decide +kernel) rfl, jTs_ix 116 (by decide +kernel) rfl, fun _ => ⟨jTs_ix 1152 (by decide +kernel) rfl, jTs_ix 36 (by decide +kernel) rfl⟩, fun h => (by cases h), by decide +kernel⟩
theorem jok_58 : jMok (yX4_size, cX4_size, 1, (some .int), T_X4_size, 0, false) := ⟨by decide +kernel, by decide +kernel, jwc_all (jTs_p [273] (by decide +kernel) (by decide +kernel)), by decide, by decide +kernel, jTs_ix 711 (by decide +kernel) rfl, jTs_ix 113 (by decide +kernel) rfl, fun _ => ⟨jTs_ix 709 (by decide +kernel) rfl, jTs_ix 710 (by decide +kernel) rfl⟩, fun h => (by cases h), by decide +kernel⟩
theorem jok_59 : jMok (yX4_at, cX4_at, 2, (some .int), T_X4_at, 1, false) := ⟨by decide +kernel, by decide +kernel, jwc_all (jTs_p [273, 271, 271] (by decide +kernel) (by decide +kernel)), by decide, by decide +kernel, jTs_ix 723 (by decide +kernel) rfl, jTs_ix 113 (by decide +kernel) rfl, fun _ => ⟨jTs_ix 721 (by decide +kernel) rfl, jTs_ix 722 (by decide +kernel) rfl⟩, fun h => (by cases h), by decide +kernel⟩
theorem jok_60 : jMok (yX4_isKnown, cX4_isKnown, 2, (some .boolean), T_X4_isKnown, 0, false) := ⟨by decide +kernel, by decide +kernel, jwc_all (jTs_p [273, 720] (by decide +kernel) (by decide +kernel)), by decide, by decide +kernel, jTs_ix 795 (by decide +kernel) rfl, jTs_ix 113 (by decide +kernel) rfl, fun _ => ⟨jTs_ix 793 (by decide +kernel) rfl, jTs_ix 794 (by decide +kernel) rfl⟩, fun h => (by cases h), by decide +kernel⟩
theorem jok_61 : jMok (yX4_clear, cX4_clear, 1, none, T_X4_clear, 0, false) := ⟨by decide +kernel, by decide +kernel, jwc_all (jTs_p [273] (by decide +kernel) (by decide +kernel)), by decide, by decide +kernel, jTs_ix 799 (by decide +kernel) rfl, jTs_ix 113 (by decide +kernel) rfl, fun _ => ⟨jTs_ix 797 (by decide +kernel) rfl, jTs_ix 798 (by decide +kernel) rfl⟩, fun h => (by cases h), by decide +kernel⟩
theorem jok_62 : jMok (yX4_addAll, cX4_addAll, 3, none, T_X4_addAll, 1, false) := ⟨by decide +kernel, by decide +kernel, jwc_all (jTs_p [273, 273, 271, 271, 273, 720, 273, 273] (by decide +kernel) (by decide +kernel)), by decide, by decide +kernel, jTs_ix 803 (by decide +kernel) rfl, jTs_ix 113 (by decide +kernel) rfl, fun _ => ⟨jTs_ix 801 (by decide +kernel) rfl, jTs_ix 802 (by decide +kernel) rfl⟩, fun h => (by cases h), by decide +kernel⟩
theorem jok_63 : jMok (yX4_read, cX4_read, 6, (some .int), T_X4_read, 2, false) := ⟨by decide +kernel, by decide +kernel, jwc_all (jTs_p [698, 699, 273, 271, 699, 271, 273, 273, 273] (by decide +kernel) (by decide +kernel)), by decide, by decide +kernel, jTs_ix 697 (by decide +kernel) rfl, jTs_ix 113 (by decide +kernel) rfl, fun _ => ⟨jTs_ix 695 (by decide +kernel) rfl, jTs_ix 696 (by decide +kernel) rfl⟩, fun h => (by cases h), by decide +kernel⟩
theorem jok_64 : jMok (yX4_exchange, cX4_exchange, 4, (some .boolean), T_X4_exchange, 2, false) := ⟨by decide +kernel, by decide +kernel, jwc_all (jTs_p [273, 273, 720, 720, 771, 771] (by decide +kernel) (by decide +kernel)), by decide, by decide +kernel, jTs_ix 770 (by decide +kernel) rfl, jTs_ix 113 (by decide +kernel) rfl, fun _ => ⟨jTs_ix 768 (by decide +kernel) rfl, jTs_ix 769 (by decide +kernel) rfl⟩, fun h => (by cases h), by decide +kernel⟩
theorem jok_65 : jMok (yX4_reverse, cX4_reverse, 2, none, T_X4_reverse, 0, false) := ⟨by decide +kernel, by decide +kernel, jwc_all (jTs_p [273, 273, 783] (by decide +kernel) (by decide +kernel)), by decide, by decide +kernel, jTs_ix 782 (by decide +kernel) rfl, jTs_ix 113 (by decide +kernel) rfl, fun _ => ⟨jTs_ix 780 (by decide +kernel) rfl, jTs_ix 781 (by decide +kernel) rfl⟩, fun h => (by cases h), by decide +kernel⟩
theorem jok_66 : jMok (yX4_put, cX4_put, 3, none, T_X4_put, 2, false) := ⟨by decide +kernel, by decide +kernel, jwc_all (jTs_p [271, 271] (by decide +kernel) (by decide +kernel)), by decide, by decide +kernel, jTs_ix 774 (by decide +kernel) rfl, jTs_ix 113 (by decide +kernel) rfl, fun _ => ⟨jTs_ix 773 (by decide +kernel) rfl, jTs_ix 16 (by decide +kernel) rfl⟩, fun h => (by cases h), by decide +kernel⟩
theorem jok_67 : jMok (yX4_fault, cX4_fault, 4, (some .int), T_X4_fault, 2, false) := ⟨by decide +kernel, by decide +kernel, jwc_all (jTs_p [273, 716] (by decide +kernel) (by decide +kernel)), by decide, by decide +kernel, jTs_ix 715 (by decide +kernel) rfl, jTs_ix 113 (by decide +kernel) rfl, fun _ => ⟨jTs_ix 713 (by decide +kernel) rfl, jTs_ix 714 (by decide +kernel) rfl⟩, fun h => (by cases h), by decide +kernel⟩
theorem jok_68 : jMok (yX4_whyAt, cX4_whyAt, 5, (some .int), T_X4_whyAt, 3, false) := ⟨by decide +kernel, by decide +kernel, jwc_all (jTs_p [273, 720, 724, 720, 728] (by decide +kernel) (by decide +kernel)), by decide, by decide +kernel, jTs_ix 719 (by decide +kernel) rfl, jTs_ix 113 (by decide +kernel) rfl, fun _ => ⟨jTs_ix 717 (by decide +kernel) rfl, jTs_ix 718 (by decide +kernel) rfl⟩, fun h => (by cases h), by decide +kernel⟩
theorem jok_69 : jMok (yX4_setTill, cX4_setTill, 4, (some .int), T_X4_setTill, 1, false) := ⟨by decide +kernel, by decide +kernel, jwc_all (jTs_p [720, 720] (by decide +kernel) (by decide +kernel)), by decide, by decide +kernel, jTs_ix 727 (by decide +kernel) rfl, jTs_ix 113 (by decide +kernel) rfl, fun _ => ⟨jTs_ix 726 (by decide +kernel) rfl, jTs_ix 15 (by decide +kernel) rfl⟩, fun h => (by cases h), by decide +kernel⟩
theorem jok_70 : jMok (yX4_costTill, cX4_costTill, 5, (some .int), T_X4_costTill, 2, false) := ⟨by decide +kernel, by decide +kernel, jwc_all (jTs_p [720, 742] (by decide +kernel) (by decide +kernel)), by decide, by decide +kernel, jTs_ix 741 (by decide +kernel) rfl, jTs_ix 113 (by decide +kernel) rfl, fun _ => ⟨jTs_ix 739 (by decide +kernel) rfl, jTs_ix 740 (by decide +kernel) rfl⟩, fun h => (by cases h), by decide +kernel⟩
theorem jok_71 : jMok (yX4_hungryTill, cX4_hungryTill, 5, (some .int), T_X4_hungryTill, 2, false) := ⟨by decide +kernel, by decide +kernel, jwc_all (jTs_p [720, 747] (by decide +kernel) (by decide +kernel)), by decide, by decide +kernel, jTs_ix 746 (by decide +kernel) rfl, jTs_ix 113 (by decide +kernel) rfl, fun _ => ⟨jTs_ix 744 (by decide +kernel) rfl, jTs_ix 745 (by decide +kernel) rfl⟩, fun h => (by cases h), by decide +kernel⟩
theorem jok_72 : jMok (yX4_mostAtOnce, cX4_mostAtOnce, 7, (some .int), T_X4_mostAtOnce, 1, false) := ⟨by decide +kernel, by decide +kernel, jwc_all (jTs_p [273, 720, 1228, 1229] (by decide +kernel) (by decide +kernel)), by decide, by decide +kernel, jTs_ix 1227 (by decide +kernel) rfl, jTs_ix 113 (by decide +kernel) rfl, fun _ => ⟨jTs_ix 1225 (by decide +kernel) rfl, jTs_ix 1226 (by decide +kernel) rfl⟩, fun h => (by cases h), by decide +kernel⟩
theorem jok_73 : jMok (yX4_cook, cX4_cook, 8, (some .int), T_X4_cook, 3, false) := ⟨by decide +kernel, by decide +kernel, jwc_all (jTs_p [272, 1238, 273, 272, 272, 272, 272, 720, 1228, 272, 1239, 272, 1229] (by decide +kernel) (by decide +kernel)), by decide, by decide +kernel, jTs_ix 1237 (by decide +kernel) rfl, jTs_ix 113 (by decide +kernel) rfl, fun _ => ⟨jTs_ix 1235 (by decide +kernel) rfl, jTs_ix 1236 (by decide +kernel) rfl⟩, fun h => (by cases h), by decide +kernel⟩
theorem jok_74 : jMok (yX4_placesEaten, cX4_placesEaten, 5, (some .int), T_X4_placesEaten, 2, false) := ⟨by decide +kernel, by decide +kernel, jwc_all (jTs_p [273, 720, 1248] (by decide +kernel) (by decide +kernel)), by decide, by decide +kernel, jTs_ix 1257 (by decide +kernel) rfl, jTs_ix 113 (by decide +kernel) rfl, fun _ => ⟨jTs_ix 1255 (by decide +kernel) rfl, jTs_ix 1256 (by decide +kernel) rfl⟩, fun h => (by cases h), by decide +kernel⟩
theorem jok_75 : jMok (yX4_stuffsEaten, cX4_stuffsEaten, 5, (some .int), T_X4_stuffsEaten, 2, false) := ⟨by decide +kernel, by decide +kernel, jwc_all (jTs_p [273, 720, 1248, 720, 1249] (by decide +kernel) (by decide +kernel)), by decide, by decide +kernel, jTs_ix 1247 (by decide +kernel) rfl, jTs_ix 113 (by decide +kernel) rfl, fun _ => ⟨jTs_ix 1245 (by decide +kernel) rfl, jTs_ix 1246 (by decide +kernel) rfl⟩, fun h => (by cases h), by decide +kernel⟩
theorem jok_76 : jMok (yX5_begin, cX5_begin, 1, none, T_X5_begin, 0, false) := ⟨by decide +kernel, by decide +kernel, jwc_all (jTs_p [336, 337, 338, 334, 876] (by decide +kernel) (by decide +kernel)), by decide, by decide +kernel, jTs_ix 875 (by decide +kernel) rfl, jTs_ix 115 (by decide +kernel) rfl, fun _ => ⟨jTs_ix 873 (by decide +kernel) rfl, jTs_ix 874 (by decide +kernel) rfl⟩, fun h => (by cases h), by decide +kernel⟩
theorem jok_77 : jMok (yX5_addLine, cX5_addLine, 1, none, T_X5_addLine, 0, false) := ⟨by decide +kernel, by decide +kernel, jwc_all (jTs_p [336, 336, 336] (by decide +kernel) (by decide +kernel)), by decide, by decide +kernel, jTs_ix 884 (by decide +kernel) rfl, jTs_ix 115 (by decide +kernel) rfl, fun _ => ⟨jTs_ix 882 (by decide +kernel) rfl, jTs_ix 883 (by decide +kernel) rfl⟩, fun h => (by cases h), by decide +kernel⟩
theorem jok_78 : jMok (yX5_weigh, cX5_weigh, 3, none, T_X5_weigh, 2, false) := ⟨by decide +kernel, by decide +kernel, jwc_all (jTs_p [336, 332, 336] (by decide +kernel) (by decide +kernel)), by decide, by decide +kernel, jTs_ix 889 (by decide +kernel) rfl, jTs_ix 115 (by decide +kernel) rfl, fun _ => ⟨jTs_ix 887 (by decide +kernel) rfl, jTs_ix 888 (by decide +kernel) rfl⟩, fun h => (by cases h), by decide +kernel⟩
theorem jok_79 : jMok (yX5_weighAll, cX5_weighAll, 4, none, T_X5_weighAll, 2, false) := ⟨by decide +kernel, by decide +kernel, jwc_all (jTs_p [881, 885, 886] (by decide +kernel) (by decide +kernel)), by decide, by decide +kernel, jTs_ix 880 (by decide +kernel) rfl, jTs_ix 115 (by decide +kernel) rfl, fun _ => ⟨jTs_ix 878 (by decide +kernel) rfl, jTs_ix 879 (by decide +kernel) rfl⟩, fun h => (by cases h), by decide +kernel⟩
end
section
theorem jok_80 : jMok (yX5_endWith, cX5_endWith, 2, none, T_X5_endWith, 1, false) := ⟨by decide +kernel, by decide +kernel, jwc_all (jTs_p [337] (by decide +kernel) (by decide +kernel)), by decide, by decide +kernel, jTs_ix 1005 (by decide +kernel) rfl, jTs_ix 115 (by decide +kernel) rfl, fun _ => ⟨jTs_ix 1003 (by decide +kernel) rfl, jTs_ix 1004 (by decide +kernel) rfl⟩, fun h => (by cases h), by decide +kernel⟩
theorem jok_81 : jMok (yX5_limit, cX5_limit, 4, none, T_X5_limit, 2, false) := ⟨by decide +kernel, by decide +kernel, jwc_all (jTs_p [338, 334, 1117] (by decide +kernel) (by decide +kernel)), by decide, by decide +kernel, jTs_ix 1116 (by decide +kernel) rfl, jTs_ix 115 (by decide +kernel) rfl, fun _ => ⟨jTs_ix 1114 (by decide +kernel) rfl, jTs_ix 1115 (by decide +kernel) rfl⟩, fun h => (by cases h), by decide +kernel⟩
theorem jok_82 : jMok (yX5_greatest, cX5_greatest, 6, (some .int), T_X5_greatest, 3, false) := ⟨by decide +kernel, by decide +kernel, jwc_all (jTs_p [898, 899, 903, 904, 916, 922] (by decide +kernel) (by decide +kernel)), by decide, by decide +kernel, jTs_ix 897 (by decide +kernel) rfl, jTs_ix 115 (by decide +kernel) rfl, fun _ => ⟨jTs_ix 895 (by decide +kernel) rfl, jTs_ix 896 (by decide +kernel) rfl⟩, fun h => (by cases h), by decide +kernel⟩
theorem jok_83 : jMok (yX5_seek, cX5_seek, 6, (some .int), T_X5_seek, 3, false) := ⟨by decide +kernel, by decide +kernel, jwc_all (jTs_p [894, 333, 876, 339, 898, 899, 903, 904, 916, 333, 908, 337, 912, 339, 923] (by decide +kernel) (by decide +kernel)), by decide, by decide +kernel, jTs_ix 893 (by decide +kernel) rfl, jTs_ix 115 (by decide +kernel) rfl, fun _ => ⟨jTs_ix 891 (by decide +kernel) rfl, jTs_ix 892 (by decide +kernel) rfl⟩, fun h => (by cases h), by decide +kernel⟩
theorem jok_84 : jMok (yX5_isGoal, cX5_isGoal, 5, (some .boolean), T_X5_isGoal, 4, false) := ⟨by decide +kernel, by decide +kernel, jwc_all (jTs_p [908, 337, 912, 912, 338, 334, 899, 913, 338] (by decide +kernel) (by decide +kernel)), by decide, by decide +kernel, jTs_ix 907 (by decide +kernel) rfl, jTs_ix 115 (by decide +kernel) rfl, fun _ => ⟨jTs_ix 906 (by decide +kernel) rfl, jTs_ix 21 (by decide +kernel) rfl⟩, fun h => (by cases h), by decide +kernel⟩
theorem jok_85 : jMok (yX5_worth, cX5_worth, 5, (some .int), T_X5_worth, 2, false) := ⟨by decide +kernel, by decide +kernel, jwc_all (jTs_p [920, 336, 332, 899, 913, 921] (by decide +kernel) (by decide +kernel)), by decide, by decide +kernel, jTs_ix 919 (by decide +kernel) rfl, jTs_ix 115 (by decide +kernel) rfl, fun _ => ⟨jTs_ix 918 (by decide +kernel) rfl, jTs_ix 22 (by decide +kernel) rfl⟩, fun h => (by cases h), by decide +kernel⟩
theorem jok_86 : jMok (yX5_sum, cX5_sum, 4, (some .int), T_X5_sum, 2, true) := ⟨by decide +kernel, by decide +kernel, jwc_all (jTs_p [] (by decide +kernel) (by decide +kernel)), by decide, by decide +kernel, jTs_ix 915 (by decide +kernel) rfl, jTs_ix 115 (by decide +kernel) rfl, fun h => (by cases h), fun _ => jTs_ix 914 (by decide +kernel) rfl, by decide +kernel⟩
theorem jok_87 : jMok (yX5_lead, cX5_lead, 5, none, T_X5_lead, 1, false) := ⟨by decide +kernel, by decide +kernel, jwc_all (jTs_p [903, 921, 899, 908, 927, 928, 932, 333, 908, 936] (by decide +kernel) (by decide +kernel)), by decide, by decide +kernel, jTs_ix 926 (by decide +kernel) rfl, jTs_ix 115 (by decide +kernel) rfl, fun _ => ⟨jTs_ix 925 (by decide +kernel) rfl, jTs_ix 23 (by decide +kernel) rfl⟩, fun h => (by cases h), by decide +kernel⟩
theorem jok_88 : jMok (yX5_isMarked, cX5_isMarked, 3, (some .boolean), T_X5_isMarked, 2, false) := ⟨by decide +kernel, by decide +kernel, jwc_all (jTs_p [333] (by decide +kernel) (by decide +kernel)), by decide, by decide +kernel, jTs_ix 935 (by decide +kernel) rfl, jTs_ix 115 (by decide +kernel) rfl, fun _ => ⟨jTs_ix 934 (by decide +kernel) rfl, jTs_ix 24 (by decide +kernel) rfl⟩, fun h => (by cases h), by decide +kernel⟩
theorem jok_89 : jMok (yX5_tell, cX5_tell, 8, none, T_X5_tell, 2, false) := ⟨by decide +kernel, by decide +kernel, jwc_all (jTs_p [899, 944, 339, 927, 936, 932, 948] (by decide +kernel) (by decide +kernel)), by decide, by decide +kernel, jTs_ix 943 (by decide +kernel) rfl, jTs_ix 115 (by decide +kernel) rfl, fun _ => ⟨jTs_ix 941 (by decide +kernel) rfl, jTs_ix 942 (by decide +kernel) rfl⟩, fun h => (by cases h), by decide +kernel⟩
theorem jok_90 : jMok (yX5_possibleAt, cX5_possibleAt, 5, (some .int), T_X5_possibleAt, 2, false) := ⟨by decide +kernel, by decide +kernel, jwc_all (jTs_p [903, 912, 333] (by decide +kernel) (by decide +kernel)), by decide, by decide +kernel, jTs_ix 1218 (by decide +kernel) rfl, jTs_ix 115 (by decide +kernel) rfl, fun _ => ⟨jTs_ix 1216 (by decide +kernel) rfl, jTs_ix 1217 (by decide +kernel) rfl⟩, fun h => (by cases h), by decide +kernel⟩
theorem jok_91 : jMok (yX5_joiningStuffs, cX5_joiningStuffs, 7, (some .int), T_X5_joiningStuffs, 3, false) := ⟨by decide +kernel, by decide +kernel, jwc_all (jTs_p [1266, 908, 1267, 1271, 1286, 1290, 1291] (by decide +kernel) (by decide +kernel)), by decide, by decide +kernel, jTs_ix 1265 (by decide +kernel) rfl, jTs_ix 115 (by decide +kernel) rfl, fun _ => ⟨jTs_ix 1263 (by decide +kernel) rfl, jTs_ix 1264 (by decide +kernel) rfl⟩, fun h => (by cases h), by decide +kernel⟩
theorem jok_92 : jMok (yX5_findBeginnings, cX5_findBeginnings, 6, none, T_X5_findBeginnings, 1, false) := ⟨by decide +kernel, by decide +kernel, jwc_all (jTs_p [333, 876, 333, 903, 928, 333, 936, 1275, 333] (by decide +kernel) (by decide +kernel)), by decide, by decide +kernel, jTs_ix 1274 (by decide +kernel) rfl, jTs_ix 115 (by decide +kernel) rfl, fun _ => ⟨jTs_ix 1273 (by decide +kernel) rfl, jTs_ix 43 (by decide +kernel) rfl⟩, fun h => (by cases h), by decide +kernel⟩
theorem jok_93 : jMok (yX5_isHeatLost, cX5_isHeatLost, 3, (some .boolean), T_X5_isHeatLost, 3, true) := ⟨by decide +kernel, by decide +kernel, jwc_all (jTs_p [1278, 1282, 1282] (by decide +kernel) (by decide +kernel)), by decide, by decide +kernel, jTs_ix 1277 (by decide +kernel) rfl, jTs_ix 115 (by decide +kernel) rfl, fun h => (by cases h), fun _ => jTs_ix 1276 (by decide +kernel) rfl, by decide +kernel⟩
theorem jok_94 : jMok (yX5_findGaps, cX5_findGaps, 6, none, T_X5_findGaps, 2, false) := ⟨by decide +kernel, by decide +kernel, jwc_all (jTs_p [335, 876, 1278, 1282, 908, 335, 333] (by decide +kernel) (by decide +kernel)), by decide, by decide +kernel, jTs_ix 1289 (by decide +kernel) rfl, jTs_ix 115 (by decide +kernel) rfl, fun _ => ⟨jTs_ix 1288 (by decide +kernel) rfl, jTs_ix 44 (by decide +kernel) rfl⟩, fun h => (by cases h), by decide +kernel⟩
theorem jok_95 : jMok (yX5_joins, cX5_joins, 6, (some .boolean), T_X5_joins, 3, false) := ⟨by decide +kernel, by decide +kernel, jwc_all (jTs_p [1295, 1290, 1296, 1297, 1298, 1299, 1300, 335] (by decide +kernel) (by decide +kernel)), by decide, by decide +kernel, jTs_ix 1294 (by decide +kernel) rfl, jTs_ix 115 (by decide +kernel) rfl, fun _ => ⟨jTs_ix 1293 (by decide +kernel) rfl, jTs_ix 45 (by decide +kernel) rfl⟩, fun h => (by cases h), by decide +kernel⟩
theorem jok_96 : jMok (yX6_read, cX6_read, 5, (some .int), T_X6_read, 2, false) := ⟨by decide +kernel, by decide +kernel, jwc_all (jTs_p [188, 460, 189, 464, 190, 468, 469, 188, 188, 473, 188, 188, 188, 468, 188, 189, 190, 506] (by decide +kernel) (by decide +kernel)), by decide, by decide +kernel, jTs_ix 459 (by decide +kernel) rfl, jTs_ix 108 (by decide +kernel) rfl, fun _ => ⟨jTs_ix 457 (by decide +kernel) rfl, jTs_ix 458 (by decide +kernel) rfl⟩, fun h => (by cases h), by decide +kernel⟩
theorem jok_97 : jMok (yX6_readLine, cX6_readLine, 4, (some .boolean), T_X6_readLine, 2, false) := ⟨by decide +kernel, by decide +kernel, jwc_all (jTs_p [188, 473, 190, 477, 189, 489] (by decide +kernel) (by decide +kernel)), by decide, by decide +kernel, jTs_ix 472 (by decide +kernel) rfl, jTs_ix 108 (by decide +kernel) rfl, fun _ => ⟨jTs_ix 471 (by decide +kernel) rfl, jTs_ix 0 (by decide +kernel) rfl⟩, fun h => (by cases h), by decide +kernel⟩
theorem jok_98 : jMok (yX6_readGuest, cX6_readGuest, 4, (some .boolean), T_X6_readGuest, 2, false) := ⟨by decide +kernel, by decide +kernel, jwc_all (jTs_p [188, 188, 481, 188, 473, 188, 188, 190, 481, 485, 190, 190] (by decide +kernel) (by decide +kernel)), by decide, by decide +kernel, jTs_ix 480 (by decide +kernel) rfl, jTs_ix 108 (by decide +kernel) rfl, fun _ => ⟨jTs_ix 479 (by decide +kernel) rfl, jTs_ix 1 (by decide +kernel) rfl⟩, fun h => (by cases h), by decide +kernel⟩
theorem jok_99 : jMok (yX6_readDish, cX6_readDish, 7, (some .boolean), T_X6_readDish, 2, false) := ⟨by decide +kernel, by decide +kernel, jwc_all (jTs_p [481, 188, 493, 498, 188, 493, 498, 188, 473, 188, 188, 188, 473, 188, 188, 188, 493, 498, 189, 502, 189, 189] (by decide +kernel) (by decide +kernel)), by decide, by decide +kernel, jTs_ix 492 (by decide +kernel) rfl, jTs_ix 108 (by decide +kernel) rfl, fun _ => ⟨jTs_ix 491 (by decide +kernel) rfl, jTs_ix 3 (by decide +kernel) rfl⟩, fun h => (by cases h), by decide +kernel⟩
theorem jok_100 : jMok (yX6_readDigit, cX6_readDigit, 3, (some .int), T_X6_readDigit, 1, false) := ⟨by decide +kernel, by decide +kernel, jwc_all (jTs_p [188, 473, 188, 188] (by decide +kernel) (by decide +kernel)), by decide, by decide +kernel, jTs_ix 501 (by decide +kernel) rfl, jTs_ix 108 (by decide +kernel) rfl, fun _ => ⟨jTs_ix 500 (by decide +kernel) rfl, jTs_ix 4 (by decide +kernel) rfl⟩, fun h => (by cases h), by decide +kernel⟩
theorem jok_101 : jMok (yX6_readStuffs, cX6_readStuffs, 5, (some .int), T_X6_readStuffs, 1, false) := ⟨by decide +kernel, by decide +kernel, jwc_all (jTs_p [188, 473, 188, 188] (by decide +kernel) (by decide +kernel)), by decide, by decide +kernel, jTs_ix 484 (by decide +kernel) rfl, jTs_ix 108 (by decide +kernel) rfl, fun _ => ⟨jTs_ix 483 (by decide +kernel) rfl, jTs_ix 2 (by decide +kernel) rfl⟩, fun h => (by cases h), by decide +kernel⟩
theorem jok_102 : jMok (yX7_size, cX7_size, 1, (some .int), T_X7_size, 0, false) := ⟨by decide +kernel, by decide +kernel, jwc_all (jTs_p [377] (by decide +kernel) (by decide +kernel)), by decide, by decide +kernel, jTs_ix 952 (by decide +kernel) rfl, jTs_ix 117 (by decide +kernel) rfl, fun _ => ⟨jTs_ix 950 (by decide +kernel) rfl, jTs_ix 951 (by decide +kernel) rfl⟩, fun h => (by cases h), by decide +kernel⟩
theorem jok_103 : jMok (yX7_at, cX7_at, 2, (some .int), T_X7_at, 1, false) := ⟨by decide +kernel, by decide +kernel, jwc_all (jTs_p [377, 376] (by decide +kernel) (by decide +kernel)), by decide, by decide +kernel, jTs_ix 1424 (by decide +kernel) rfl, jTs_ix 117 (by decide +kernel) rfl, fun _ => ⟨jTs_ix 1422 (by decide +kernel) rfl, jTs_ix 1423 (by decide +kernel) rfl⟩, fun h => (by cases h), by decide +kernel⟩
theorem jok_104 : jMok (yX7_clear, cX7_clear, 1, none, T_X7_clear, 0, false) := ⟨by decide +kernel, by decide +kernel, jwc_all (jTs_p [377] (by decide +kernel) (by decide +kernel)), by decide, by decide +kernel, jTs_ix 732 (by decide +kernel) rfl, jTs_ix 117 (by decide +kernel) rfl, fun _ => ⟨jTs_ix 730 (by decide +kernel) rfl, jTs_ix 731 (by decide +kernel) rfl⟩, fun h => (by cases h), by decide +kernel⟩
theorem jok_105 : jMok (yX7_add, cX7_add, 2, none, T_X7_add, 1, false) := ⟨by decide +kernel, by decide +kernel, jwc_all (jTs_p [377, 376, 376, 377, 377, 377] (by decide +kernel) (by decide +kernel)), by decide, by decide +kernel, jTs_ix 737 (by decide +kernel) rfl, jTs_ix 117 (by decide +kernel) rfl, fun _ => ⟨jTs_ix 735 (by decide +kernel) rfl, jTs_ix 736 (by decide +kernel) rfl⟩, fun h => (by cases h), by decide +kernel⟩
theorem jok_106 : jMok (yX8_learn, cX8_learn, 4, none, T_X8_learn, 2, false) := ⟨by decide +kernel, by decide +kernel, jwc_all (jTs_p [825, 295, 826, 296, 827, 297, 295, 291, 831, 835, 827, 291, 296, 296, 296, 291, 293, 836, 294, 837, 289, 842, 289, 289, 846] (by decide +kernel) (by decide +kernel)), by decide, by decide +kernel, jTs_ix 824 (by decide +kernel) rfl, jTs_ix 114 (by decide +kernel) rfl, fun _ => ⟨jTs_ix 822 (by decide +kernel) rfl, jTs_ix 823 (by decide +kernel) rfl⟩, fun h => (by cases h), by decide +kernel⟩
theorem jok_107 : jMok (yX8_isStocked, cX8_isStocked, 3, (some .boolean), T_X8_isStocked, 1, false) := ⟨by decide +kernel, by decide +kernel, jwc_all (jTs_p [293, 850, 294] (by decide +kernel) (by decide +kernel)), by decide, by decide +kernel, jTs_ix 849 (by decide +kernel) rfl, jTs_ix 114 (by decide +kernel) rfl, fun _ => ⟨jTs_ix 848 (by decide +kernel) rfl, jTs_ix 19 (by decide +kernel) rfl⟩, fun h => (by cases h), by decide +kernel⟩
theorem jok_108 : jMok (yX8_begin, cX8_begin, 4, none, T_X8_begin, 3, false) := ⟨by decide +kernel, by decide +kernel, jwc_all (jTs_p [298, 299, 292, 855] (by decide +kernel) (by decide +kernel)), by decide, by decide +kernel, jTs_ix 854 (by decide +kernel) rfl, jTs_ix 114 (by decide +kernel) rfl, fun _ => ⟨jTs_ix 852 (by decide +kernel) rfl, jTs_ix 853 (by decide +kernel) rfl⟩, fun h => (by cases h), by decide +kernel⟩
theorem jok_109 : jMok (yX8_allow, cX8_allow, 3, none, T_X8_allow, 2, false) := ⟨by decide +kernel, by decide +kernel, jwc_all (jTs_p [292, 292] (by decide +kernel) (by decide +kernel)), by decide, by decide +kernel, jTs_ix 1001 (by decide +kernel) rfl, jTs_ix 114 (by decide +kernel) rfl, fun _ => ⟨jTs_ix 999 (by decide +kernel) rfl, jTs_ix 1000 (by decide +kernel) rfl⟩, fun h => (by cases h), by decide +kernel⟩
theorem jok_110 : jMok (yX8_dishes, cX8_dishes, 1, (some .int), T_X8_dishes, 0, false) := ⟨by decide +kernel, by decide +kernel, jwc_all (jTs_p [295] (by decide +kernel) (by decide +kernel)), by decide, by decide +kernel, jTs_ix 931 (by decide +kernel) rfl, jTs_ix 114 (by decide +kernel) rfl, fun _ => ⟨jTs_ix 929 (by decide +kernel) rfl, jTs_ix 930 (by decide +kernel) rfl⟩, fun h => (by cases h), by decide +kernel⟩
theorem jok_111 : jMok (yX8_sets, cX8_sets, 1, (some .int), T_X8_sets, 0, false) := ⟨by decide +kernel, by decide +kernel, jwc_all (jTs_p [295] (by decide +kernel) (by decide +kernel)), by decide, by decide +kernel, jTs_ix 845 (by decide +kernel) rfl, jTs_ix 114 (by decide +kernel) rfl, fun _ => ⟨jTs_ix 843 (by decide +kernel) rfl, jTs_ix 844 (by decide +kernel) rfl⟩, fun h => (by cases h), by decide +kernel⟩
theorem jok_112 : jMok (yX8_from, cX8_from, 1, (some .int), T_X8_from, 0, false) := ⟨by decide +kernel, by decide +kernel, jwc_all (jTs_p [298] (by decide +kernel) (by decide +kernel)), by decide, by decide +kernel, jTs_ix 902 (by decide +kernel) rfl, jTs_ix 114 (by decide +kernel) rfl, fun _ => ⟨jTs_ix 900 (by decide +kernel) rfl, jTs_ix 901 (by decide +kernel) rfl⟩, fun h => (by cases h), by decide +kernel⟩
theorem jok_113 : jMok (yX8_start, cX8_start, 1, (some .int), T_X8_start, 0, false) := ⟨by decide +kernel, by decide +kernel, jwc_all (jTs_p [299] (by decide +kernel) (by decide +kernel)), by decide, by decide +kernel, jTs_ix 947 (by decide +kernel) rfl, jTs_ix 114 (by decide +kernel) rfl, fun _ => ⟨jTs_ix 945 (by decide +kernel) rfl, jTs_ix 946 (by decide +kernel) rfl⟩, fun h => (by cases h), by decide +kernel⟩
theorem jok_114 : jMok (yX8_hot, cX8_hot, 1, (some .int), T_X8_hot, 0, false) := ⟨by decide +kernel, by decide +kernel, jwc_all (jTs_p [296] (by decide +kernel) (by decide +kernel)), by decide, by decide +kernel, jTs_ix 1285 (by decide +kernel) rfl, jTs_ix 114 (by decide +kernel) rfl, fun _ => ⟨jTs_ix 1283 (by decide +kernel) rfl, jTs_ix 1284 (by decide +kernel) rfl⟩, fun h => (by cases h), by decide +kernel⟩
theorem jok_115 : jMok (yX8_isHotToStay, cX8_isHotToStay, 1, (some .boolean), T_X8_isHotToStay, 0, false) := ⟨by decide +kernel, by decide +kernel, jwc_all (jTs_p [297] (by decide +kernel) (by decide +kernel)), by decide, by decide +kernel, jTs_ix 1281 (by decide +kernel) rfl, jTs_ix 114 (by decide +kernel) rfl, fun _ => ⟨jTs_ix 1279 (by decide +kernel) rfl, jTs_ix 1280 (by decide +kernel) rfl⟩, fun h => (by cases h), by decide +kernel⟩
theorem jok_116 : jMok (yX8_near, cX8_near, 2, (some .int), T_X8_near, 1, false) := ⟨by decide +kernel, by decide +kernel, jwc_all (jTs_p [291, 291] (by decide +kernel) (by decide +kernel)), by decide, by decide +kernel, jTs_ix 939 (by decide +kernel) rfl, jTs_ix 114 (by decide +kernel) rfl, fun _ => ⟨jTs_ix 937 (by decide +kernel) rfl, jTs_ix 938 (by decide +kernel) rfl⟩, fun h => (by cases h), by decide +kernel⟩
theorem jok_117 : jMok (yX8_fits, cX8_fits, 2, (some .boolean), T_X8_fits, 1, false) := ⟨by decide +kernel, by decide +kernel, jwc_all (jTs_p [289] (by decide +kernel) (by decide +kernel)), by decide, by decide +kernel, jTs_ix 1270 (by decide +kernel) rfl, jTs_ix 114 (by decide +kernel) rfl, fun _ => ⟨jTs_ix 1268 (by decide +kernel) rfl, jTs_ix 1269 (by decide +kernel) rfl⟩, fun h => (by cases h), by decide +kernel⟩
theorem jok_118 : jMok (yX8_ends, cX8_ends, 2, (some .int), T_X8_ends, 1, false) := ⟨by decide +kernel, by decide +kernel, jwc_all (jTs_p [290] (by decide +kernel) (by decide +kernel)), by decide, by decide +kernel, jTs_ix 911 (by decide +kernel) rfl, jTs_ix 114 (by decide +kernel) rfl, fun _ => ⟨jTs_ix 909 (by decide +kernel) rfl, jTs_ix 910 (by decide +kernel) rfl⟩, fun h => (by cases h), by decide +kernel⟩
theorem jok_119 : jMok (yX8_more, cX8_more, 2, (some .int), T_X8_more, 1, false) := ⟨by decide +kernel, by decide +kernel, jwc_all (jTs_p [850, 298, 850] (by decide +kernel) (by decide +kernel)), by decide, by decide +kernel, jTs_ix 867 (by decide +kernel) rfl, jTs_ix 114 (by decide +kernel) rfl, fun _ => ⟨jTs_ix 865 (by decide +kernel) rfl, jTs_ix 866 (by decide +kernel) rfl⟩, fun h => (by cases h), by decide +kernel⟩
theorem jok_120 : jMok (yX8_open, cX8_open, 6, (some .int), T_X8_open, 1, false) := ⟨by decide +kernel, by decide +kernel, jwc_all (jTs_p [864, 292, 292, 297, 296, 296, 295, 289] (by decide +kernel) (by decide +kernel)), by decide, by decide +kernel, jTs_ix 863 (by decide +kernel) rfl, jTs_ix 114 (by decide +kernel) rfl, fun _ => ⟨jTs_ix 861 (by decide +kernel) rfl, jTs_ix 862 (by decide +kernel) rfl⟩, fun h => (by cases h), by decide +kernel⟩
theorem jok_121 : jMok (yX8_reach, cX8_reach, 4, none, T_X8_reach, 0, false) := ⟨by decide +kernel, by decide +kernel, jwc_all (jTs_p [290, 855, 298, 298, 842, 290, 298, 299, 298, 842, 290, 860, 295, 290, 291, 290] (by decide +kernel) (by decide +kernel)), by decide, by decide +kernel, jTs_ix 859 (by decide +kernel) rfl, jTs_ix 114 (by decide +kernel) rfl, fun _ => ⟨jTs_ix 857 (by decide +kernel) rfl, jTs_ix 858 (by decide +kernel) rfl⟩, fun h => (by cases h), by decide +kernel⟩
theorem jok_122 : jMok (yX8_inSetsAbove, cX8_inSetsAbove, 4, (some .int), T_X8_inSetsAbove, 1, false) := ⟨by decide +kernel, by decide +kernel, jwc_all (jTs_p [842, 290, 850] (by decide +kernel) (by decide +kernel)), by decide, by decide +kernel, jTs_ix 1061 (by decide +kernel) rfl, jTs_ix 114 (by decide +kernel) rfl, fun _ => ⟨jTs_ix 1059 (by decide +kernel) rfl, jTs_ix 1060 (by decide +kernel) rfl⟩, fun h => (by cases h), by decide +kernel⟩
theorem jok_123 : jMok (yX9_read, cX9_read, 2, (some .int), T_X9_read, 1, false) := ⟨by decide +kernel, by decide +kernel, jwc_all (jTs_p [210, 208, 522, 523, 210, 522, 210, 205, 204, 560, 208, 207] (by decide +kernel) (by decide +kernel)), by decide, by decide +kernel, jTs_ix 521 (by decide +kernel) rfl, jTs_ix 109 (by decide +kernel) rfl, fun _ => ⟨jTs_ix 519 (by decide +kernel) rfl, jTs_ix 520 (by decide +kernel) rfl⟩, fun h => (by cases h), by decide +kernel⟩
theorem jok_124 : jMok (yX9_readExpression, cX9_readExpression, 4, (some .boolean), T_X9_readExpression, 2, false) := ⟨by decide +kernel, by decide +kernel, jwc_all (jTs_p [527, 210, 539, 210, 210, 527, 553] (by decide +kernel) (by decide +kernel)), by decide, by decide +kernel, jTs_ix 526 (by decide +kernel) rfl, jTs_ix 109 (by decide +kernel) rfl, fun _ => ⟨jTs_ix 525 (by decide +kernel) rfl, jTs_ix 5 (by decide +kernel) rfl⟩, fun h => (by cases h), by decide +kernel⟩
theorem jok_125 : jMok (yX9_readSum, cX9_readSum, 6, (some .boolean), T_X9_readSum, 2, false) := ⟨by decide +kernel, by decide +kernel, jwc_all (jTs_p [531, 210, 539, 210, 210, 531, 553, 210, 539] (by decide +kernel) (by decide +kernel)), by decide, by decide +kernel, jTs_ix 530 (by decide +kernel) rfl, jTs_ix 109 (by decide +kernel) rfl, fun _ => ⟨jTs_ix 529 (by decide +kernel) rfl, jTs_ix 6 (by decide +kernel) rfl⟩, fun h => (by cases h), by decide +kernel⟩
theorem jok_126 : jMok (yX9_readProduct, cX9_readProduct, 6, (some .boolean), T_X9_readProduct, 2, false) := ⟨by decide +kernel, by decide +kernel, jwc_all (jTs_p [535, 210, 539, 210, 210, 535, 553, 210, 539] (by decide +kernel) (by decide +kernel)), by decide, by decide +kernel, jTs_ix 534 (by decide +kernel) rfl, jTs_ix 109 (by decide +kernel) rfl, fun _ => ⟨jTs_ix 533 (by decide +kernel) rfl, jTs_ix 7 (by decide +kernel) rfl⟩, fun h => (by cases h), by decide +kernel⟩
theorem jok_127 : jMok (yX9_readFactor, cX9_readFactor, 5, (some .boolean), T_X9_readFactor, 2, false) := ⟨by decide +kernel, by decide +kernel, jwc_all (jTs_p [210, 539, 210, 210, 540, 553] (by decide +kernel) (by decide +kernel)), by decide, by decide +kernel, jTs_ix 538 (by decide +kernel) rfl, jTs_ix 109 (by decide +kernel) rfl, fun _ => ⟨jTs_ix 537 (by decide +kernel) rfl, jTs_ix 8 (by decide +kernel) rfl⟩, fun h => (by cases h), by decide +kernel⟩
theorem jok_128 : jMok (yX9_readThing, cX9_readThing, 4, (some .boolean), T_X9_readThing, 2, false) := ⟨by decide +kernel, by decide +kernel, jwc_all (jTs_p [210, 539, 544, 210, 548, 549, 557, 553, 210, 210] (by decide +kernel) (by decide +kernel)), by decide, by decide +kernel, jTs_ix 543 (by decide +kernel) rfl, jTs_ix 109 (by decide +kernel) rfl, fun _ => ⟨jTs_ix 542 (by decide +kernel) rfl, jTs_ix 9 (by decide +kernel) rfl⟩, fun h => (by cases h), by decide +kernel⟩
theorem jok_129 : jMok (yX9_readBracket, cX9_readBracket, 3, (some .boolean), T_X9_readBracket, 2, false) := ⟨by decide +kernel, by decide +kernel, jwc_all (jTs_p [210, 210, 523, 210, 539, 210, 210] (by decide +kernel) (by decide +kernel)), by decide, by decide +kernel, jTs_ix 547 (by decide +kernel) rfl, jTs_ix 109 (by decide +kernel) rfl, fun _ => ⟨jTs_ix 546 (by decide +kernel) rfl, jTs_ix 10 (by decide +kernel) rfl⟩, fun h => (by cases h), by decide +kernel⟩
theorem jok_130 : jMok (yX9_readNumber, cX9_readNumber, 4, none, T_X9_readNumber, 1, false) := ⟨by decide +kernel, by decide +kernel, jwc_all (jTs_p [210, 548, 210, 539, 210, 210, 553] (by decide +kernel) (by decide +kernel)), by decide, by decide +kernel, jTs_ix 552 (by decide +kernel) rfl, jTs_ix 109 (by decide +kernel) rfl, fun _ => ⟨jTs_ix 551 (by decide +kernel) rfl, jTs_ix 11 (by decide +kernel) rfl⟩, fun h => (by cases h), by decide +kernel⟩
theorem jok_131 : jMok (yX9_isQuality, cX9_isQuality, 1, (some .boolean), T_X9_isQuality, 1, true) := ⟨by decide +kernel, by decide +kernel, jwc_all (jTs_p [] (by decide +kernel) (by decide +kernel)), by decide, by decide +kernel, jTs_ix 559 (by decide +kernel) rfl, jTs_ix 109 (by decide +kernel) rfl, fun h => (by cases h), fun _ => jTs_ix 558 (by decide +kernel) rfl, by decide +kernel⟩
theorem jok_132 : jMok (yX9_emit, cX9_emit, 2, none, T_X9_emit, 1, false) := ⟨by decide +kernel, by decide +kernel, jwc_all (jTs_p [208, 205, 208, 208, 208] (by decide +kernel) (by decide +kernel)), by decide, by decide +kernel, jTs_ix 556 (by decide +kernel) rfl, jTs_ix 109 (by decide +kernel) rfl, fun _ => ⟨jTs_ix 555 (by decide +kernel) rfl, jTs_ix 12 (by decide +kernel) rfl⟩, fun h => (by cases h), by decide +kernel⟩
theorem jok_133 : jMok (yX9_of, cX9_of, 7, (some .int), T_X9_of, 3, false) := ⟨by decide +kernel, by decide +kernel, jwc_all (jTs_p [207, 1076, 1080, 1081, 209, 207, 204, 1082, 557, 1086, 1082, 1099, 1082, 1099, 1099, 1103, 1082, 1099, 1106, 1107] (by decide +kernel) (by decide +kernel)), by decide, by decide +kernel, jTs_ix 1075 (by decide +kernel) rfl, jTs_ix 109 (by decide +kernel) rfl, fun _ => ⟨jTs_ix 1073 (by decide +kernel) rfl, jTs_ix 1074 (by decide +kernel) rfl⟩, fun h => (by cases h), by decide +kernel⟩
theorem jok_134 : jMok (yX9_ofAll, cX9_ofAll, 5, (some .int), T_X9_ofAll, 2, false) := ⟨by decide +kernel, by decide +kernel, jwc_all (jTs_p [1071, 1072] (by decide +kernel) (by decide +kernel)), by decide, by decide +kernel, jTs_ix 1070 (by decide +kernel) rfl, jTs_ix 109 (by decide +kernel) rfl, fun _ => ⟨jTs_ix 1068 (by decide +kernel) rfl, jTs_ix 1069 (by decide +kernel) rfl⟩, fun h => (by cases h), by decide +kernel⟩
theorem jok_135 : jMok (yX9_push, cX9_push, 2, none, T_X9_push, 1, false) := ⟨by decide +kernel, by decide +kernel, jwc_all (jTs_p [209, 209, 206, 206, 209, 209, 209] (by decide +kernel) (by decide +kernel)), by decide, by decide +kernel, jTs_ix 1085 (by decide +kernel) rfl, jTs_ix 109 (by decide +kernel) rfl, fun _ => ⟨jTs_ix 1084 (by decide +kernel) rfl, jTs_ix 32 (by decide +kernel) rfl⟩, fun h => (by cases h), by decide +kernel⟩
theorem jok_136 : jMok (yX9_pop, cX9_pop, 1, (some .int), T_X9_pop, 0, false) := ⟨by decide +kernel, by decide +kernel, jwc_all (jTs_p [209, 209, 206, 209, 209, 206, 209] (by decide +kernel) (by decide +kernel)), by decide, by decide +kernel, jTs_ix 1102 (by decide +kernel) rfl, jTs_ix 109 (by decide +kernel) rfl, fun _ => ⟨jTs_ix 1101 (by decide +kernel) rfl, jTs_ix 33 (by decide +kernel) rfl⟩, fun h => (by cases h), by decide +kernel⟩
theorem jok_137 : jMok (yX9_quality, cX9_quality, 5, (some .int), T_X9_quality, 4, true) := ⟨by decide +kernel, by decide +kernel, jwc_all (jTs_p [1080, 1076, 1081, 1089, 1081, 1081, 1090, 1091, 1095] (by decide +kernel) (by decide +kernel)), by decide, by decide +kernel, jTs_ix 1088 (by decide +kernel) rfl, jTs_ix 109 (by decide +kernel) rfl, fun h => (by cases h), fun _ => jTs_ix 1087 (by decide +kernel) rfl, by decide +kernel⟩
theorem jok_138 : jMok (yX9_result, cX9_result, 3, (some .int), T_X9_result, 3, true) := ⟨by decide +kernel, by decide +kernel, jwc_all (jTs_p [] (by decide +kernel) (by decide +kernel)), by decide, by decide +kernel, jTs_ix 1105 (by decide +kernel) rfl, jTs_ix 109 (by decide +kernel) rfl, fun h => (by cases h), fun _ => jTs_ix 1104 (by decide +kernel) rfl, by decide +kernel⟩
theorem jok_139 : jMok (yX10_length, cX10_length, 1, (some .int), T_X10_length, 0, false) := ⟨by decide +kernel, by decide +kernel, jwc_all (jTs_p [141] (by decide +kernel) (by decide +kernel)), by decide, by decide +kernel, jTs_ix 443 (by decide +kernel) rfl, jTs_ix 106 (by decide +kernel) rfl, fun _ => ⟨jTs_ix 441 (by decide +kernel) rfl, jTs_ix 442 (by decide +kernel) rfl⟩, fun h => (by cases h), by decide +kernel⟩
theorem jok_140 : jMok (yX10_append, cX10_append, 3, (some .boolean), T_X10_append, 1, false) := ⟨by decide +kernel, by decide +kernel, jwc_all (jTs_p [141, 140, 140, 141, 141, 141] (by decide +kernel) (by decide +kernel)), by decide, by decide +kernel, jTs_ix 439 (by decide +kernel) rfl, jTs_ix 106 (by decide +kernel) rfl, fun _ => ⟨jTs_ix 437 (by decide +kernel) rfl, jTs_ix 438 (by decide +kernel) rfl⟩, fun h => (by cases h), by decide +kernel⟩
theorem jok_141 : jMok (yX10_cutTo, cX10_cutTo, 2, (some .boolean), T_X10_cutTo, 1, false) := ⟨by decide +kernel, by decide +kernel, jwc_all (jTs_p [141, 141] (by decide +kernel) (by decide +kernel)), by decide, by decide +kernel, jTs_ix 451 (by decide +kernel) rfl, jTs_ix 106 (by decide +kernel) rfl, fun _ => ⟨jTs_ix 449 (by decide +kernel) rfl, jTs_ix 450 (by decide +kernel) rfl⟩, fun h => (by cases h), by decide +kernel⟩
theorem jok_142 : jMok (yX10_clear, cX10_clear, 1, none, T_X10_clear, 0, false) := ⟨by decide +kernel, by decide +kernel, jwc_all (jTs_p [141] (by decide +kernel) (by decide +kernel)), by decide, by decide +kernel, jTs_ix 513 (by decide +kernel) rfl, jTs_ix 106 (by decide +kernel) rfl, fun _ => ⟨jTs_ix 511 (by decide +kernel) rfl, jTs_ix 512 (by decide +kernel) rfl⟩, fun h => (by cases h), by decide +kernel⟩
theorem jok_143 : jMok (yX10_at, cX10_at, 3, (some .int), T_X10_at, 2, false) := ⟨by decide +kernel, by decide +kernel, jwc_all (jTs_p [141, 140] (by decide +kernel) (by decide +kernel)), by decide, by decide +kernel, jTs_ix 476 (by decide +kernel) rfl, jTs_ix 106 (by decide +kernel) rfl, fun _ => ⟨jTs_ix 474 (by decide +kernel) rfl, jTs_ix 475 (by decide +kernel) rfl⟩, fun h => (by cases h), by decide +kernel⟩
theorem jok_144 : jMok (yX10_hasDigit, cX10_hasDigit, 4, (some .boolean), T_X10_hasDigit, 2, false) := ⟨by decide +kernel, by decide +kernel, jwc_all (jTs_p [497] (by decide +kernel) (by decide +kernel)), by decide, by decide +kernel, jTs_ix 496 (by decide +kernel) rfl, jTs_ix 106 (by decide +kernel) rfl, fun _ => ⟨jTs_ix 494 (by decide +kernel) rfl, jTs_ix 495 (by decide +kernel) rfl⟩, fun h => (by cases h), by decide +kernel⟩
theorem jok_145 : jMok (yX11_sign, cX11_sign, 2, (some .int), T_X11_sign, 1, false) := ⟨by decide +kernel, by decide +kernel, jwc_all (jTs_p [383, 436, 383, 440] (by decide +kernel) (by decide +kernel)), by decide, by decide +kernel, jTs_ix 435 (by decide +kernel) rfl, jTs_ix 105 (by decide +kernel) rfl, fun _ => ⟨jTs_ix 433 (by decide +kernel) rfl, jTs_ix 434 (by decide +kernel) rfl⟩, fun h => (by cases h), by decide +kernel⟩
theorem jok_146 : jMok (yX11_end, cX11_end, 2, (some .boolean), T_X11_end, 1, false) := ⟨by decide +kernel, by decide +kernel, jwc_all (jTs_p [383, 448] (by decide +kernel) (by decide +kernel)), by decide, by decide +kernel, jTs_ix 447 (by decide +kernel) rfl, jTs_ix 105 (by decide +kernel) rfl, fun _ => ⟨jTs_ix 445 (by decide +kernel) rfl, jTs_ix 446 (by decide +kernel) rfl⟩, fun h => (by cases h), by decide +kernel⟩
theorem jok_147 : jMok (yX11_kitchen, cX11_kitchen, 2, (some .int), T_X11_kitchen, 0, false) := ⟨by decide +kernel, by decide +kernel, jwc_all (jTs_p [385, 383, 384, 456, 383, 510] (by decide +kernel) (by decide +kernel)), by decide, by decide +kernel, jTs_ix 455 (by decide +kernel) rfl, jTs_ix 105 (by decide +kernel) rfl, fun _ => ⟨jTs_ix 453 (by decide +kernel) rfl, jTs_ix 454 (by decide +kernel) rfl⟩, fun h => (by cases h), by decide +kernel⟩
theorem jok_148 : jMok (yX11_rule, cX11_rule, 2, (some .int), T_X11_rule, 0, false) := ⟨by decide +kernel, by decide +kernel, jwc_all (jTs_p [386, 383, 518, 383, 510] (by decide +kernel) (by decide +kernel)), by decide, by decide +kernel, jTs_ix 517 (by decide +kernel) rfl, jTs_ix 105 (by decide +kernel) rfl, fun _ => ⟨jTs_ix 515 (by decide +kernel) rfl, jTs_ix 516 (by decide +kernel) rfl⟩, fun h => (by cases h), by decide +kernel⟩
theorem jok_149 : jMok (yX11_dish, cX11_dish, 3, (some .int), T_X11_dish, 2, false) := ⟨by decide +kernel, by decide +kernel, jwc_all (jTs_p [384, 612, 384, 1395, 384, 604, 384, 1396, 384, 1223, 386, 384, 1067, 384, 1397, 1040] (by decide +kernel) (by decide +kernel)), by decide, by decide +kernel, jTs_ix 1333 (by decide +kernel) rfl, jTs_ix 105 (by decide +kernel) rfl, fun _ => ⟨jTs_ix 1331 (by decide +kernel) rfl, jTs_ix 1332 (by decide +kernel) rfl⟩, fun h => (by cases h), by decide +kernel⟩
theorem jok_150 : jMok (yX11_guest, cX11_guest, 3, (some .int), T_X11_guest, 2, false) := ⟨by decide +kernel, by decide +kernel, jwc_all (jTs_p [384, 1015, 384, 1405, 384, 1406] (by decide +kernel) (by decide +kernel)), by decide, by decide +kernel, jTs_ix 1404 (by decide +kernel) rfl, jTs_ix 105 (by decide +kernel) rfl, fun _ => ⟨jTs_ix 1402 (by decide +kernel) rfl, jTs_ix 1403 (by decide +kernel) rfl⟩, fun h => (by cases h), by decide +kernel⟩
theorem jok_151 : jMok (yX11_joy, cX11_joy, 3, (some .int), T_X11_joy, 2, false) := ⟨by decide +kernel, by decide +kernel, jwc_all (jTs_p [384, 1015, 384, 612, 386, 384, 1123] (by decide +kernel) (by decide +kernel)), by decide, by decide +kernel, jTs_ix 1413 (by decide +kernel) rfl, jTs_ix 105 (by decide +kernel) rfl, fun _ => ⟨jTs_ix 1411 (by decide +kernel) rfl, jTs_ix 1412 (by decide +kernel) rfl⟩, fun h => (by cases h), by decide +kernel⟩
theorem jok_152 : jMok (yX11_law, cX11_law, 3, (some .int), T_X11_law, 2, false) := ⟨by decide +kernel, by decide +kernel, jwc_all (jTs_p [567, 387, 570] (by decide +kernel) (by decide +kernel)), by decide, by decide +kernel, jTs_ix 566 (by decide +kernel) rfl, jTs_ix 105 (by decide +kernel) rfl, fun _ => ⟨jTs_ix 564 (by decide +kernel) rfl, jTs_ix 565 (by decide +kernel) rfl⟩, fun h => (by cases h), by decide +kernel⟩
theorem jok_153 : jMok (yX11_store, cX11_store, 4, (some .int), T_X11_store, 2, false) := ⟨by decide +kernel, by decide +kernel, jwc_all (jTs_p [387, 578] (by decide +kernel) (by decide +kernel)), by decide, by decide +kernel, jTs_ix 577 (by decide +kernel) rfl, jTs_ix 105 (by decide +kernel) rfl, fun _ => ⟨jTs_ix 575 (by decide +kernel) rfl, jTs_ix 576 (by decide +kernel) rfl⟩, fun h => (by cases h), by decide +kernel⟩
theorem jok_154 : jMok (yX11_sheet, cX11_sheet, 8, (some .int), T_X11_sheet, 4, false) := ⟨by decide +kernel, by decide +kernel, jwc_all (jTs_p [384, 586, 384, 587, 596, 384, 604] (by decide +kernel) (by decide +kernel)), by decide, by decide +kernel, jTs_ix 585 (by decide +kernel) rfl, jTs_ix 105 (by decide +kernel) rfl, fun _ => ⟨jTs_ix 583 (by decide +kernel) rfl, jTs_ix 584 (by decide +kernel) rfl⟩, fun h => (by cases h), by decide +kernel⟩
theorem jok_155 : jMok (yX11_asEntry, cX11_asEntry, 3, (some .int), T_X11_asEntry, 2, true) := ⟨by decide +kernel, by decide +kernel, jwc_all (jTs_p [590, 593] (by decide +kernel) (by decide +kernel)), by decide, by decide +kernel, jTs_ix 589 (by decide +kernel) rfl, jTs_ix 105 (by decide +kernel) rfl, fun h => (by cases h), fun _ => jTs_ix 588 (by decide +kernel) rfl, by decide +kernel⟩
theorem jok_156 : jMok (yX11_serve, cX11_serve, 3, (some .int), T_X11_serve, 1, false) := ⟨by decide +kernel, by decide +kernel, jwc_all (jTs_p [384, 612, 387, 384, 389, 613, 389, 617, 621, 389, 656, 389, 660] (by decide +kernel) (by decide +kernel)), by decide, by decide +kernel, jTs_ix 611 (by decide +kernel) rfl, jTs_ix 105 (by decide +kernel) rfl, fun _ => ⟨jTs_ix 609 (by decide +kernel) rfl, jTs_ix 610 (by decide +kernel) rfl⟩, fun h => (by cases h), by decide +kernel⟩
theorem jok_157 : jMok (yX11_back, cX11_back, 1, (some .int), T_X11_back, 0, false) := ⟨by decide +kernel, by decide +kernel, jwc_all (jTs_p [389, 668] (by decide +kernel) (by decide +kernel)), by decide, by decide +kernel, jTs_ix 667 (by decide +kernel) rfl, jTs_ix 105 (by decide +kernel) rfl, fun _ => ⟨jTs_ix 665 (by decide +kernel) rfl, jTs_ix 666 (by decide +kernel) rfl⟩, fun h => (by cases h), by decide +kernel⟩
theorem jok_158 : jMok (yX11_over, cX11_over, 2, (some .int), T_X11_over, 0, false) := ⟨by decide +kernel, by decide +kernel, jwc_all (jTs_p [389, 660, 387, 384, 389, 613, 677, 389, 682] (by decide +kernel) (by decide +kernel)), by decide, by decide +kernel, jTs_ix 676 (by decide +kernel) rfl, jTs_ix 105 (by decide +kernel) rfl, fun _ => ⟨jTs_ix 674 (by decide +kernel) rfl, jTs_ix 675 (by decide +kernel) rfl⟩, fun h => (by cases h), by decide +kernel⟩
theorem jok_159 : jMok (yX11_can, cX11_can, 3, (some .int), T_X11_can, 0, false) := ⟨by decide +kernel, by decide +kernel, jwc_all (jTs_p [384, 586, 387, 384, 389, 613, 389, 617, 621] (by decide +kernel) (by decide +kernel)), by decide, by decide +kernel, jTs_ix 689 (by decide +kernel) rfl, jTs_ix 105 (by decide +kernel) rfl, fun _ => ⟨jTs_ix 687 (by decide +kernel) rfl, jTs_ix 688 (by decide +kernel) rfl⟩, fun h => (by cases h), by decide +kernel⟩
end
section
theorem jok_160 : jMok (yX11_menu, cX11_menu, 3, (some .int), T_X11_menu, 1, false) := ⟨by decide +kernel, by decide +kernel, jwc_all (jTs_p [390, 383, 384, 586, 694, 383, 510] (by decide +kernel) (by decide +kernel)), by decide, by decide +kernel, jTs_ix 693 (by decide +kernel) rfl, jTs_ix 105 (by decide +kernel) rfl, fun _ => ⟨jTs_ix 691 (by decide +kernel) rfl, jTs_ix 692 (by decide +kernel) rfl⟩, fun h => (by cases h), by decide +kernel⟩
theorem jok_161 : jMok (yX11_look, cX11_look, 5, (some .int), T_X11_look, 1, false) := ⟨by decide +kernel, by decide +kernel, jwc_all (jTs_p [704, 390, 384, 387, 712, 708, 398, 729, 398, 384, 387, 733, 734, 398, 384, 738, 734, 398, 384, 743, 734] (by decide +kernel) (by decide +kernel)), by decide, by decide +kernel, jTs_ix 703 (by decide +kernel) rfl, jTs_ix 105 (by decide +kernel) rfl, fun _ => ⟨jTs_ix 701 (by decide +kernel) rfl, jTs_ix 702 (by decide +kernel) rfl⟩, fun h => (by cases h), by decide +kernel⟩
theorem jok_162 : jMok (yX11_swap, cX11_swap, 4, (some .boolean), T_X11_swap, 3, false) := ⟨by decide +kernel, by decide +kernel, jwc_all (jTs_p [390, 767] (by decide +kernel) (by decide +kernel)), by decide, by decide +kernel, jTs_ix 766 (by decide +kernel) rfl, jTs_ix 105 (by decide +kernel) rfl, fun _ => ⟨jTs_ix 764 (by decide +kernel) rfl, jTs_ix 765 (by decide +kernel) rfl⟩, fun h => (by cases h), by decide +kernel⟩
theorem jok_163 : jMok (yX11_turn, cX11_turn, 2, (some .boolean), T_X11_turn, 1, false) := ⟨by decide +kernel, by decide +kernel, jwc_all (jTs_p [704, 390, 779] (by decide +kernel) (by decide +kernel)), by decide, by decide +kernel, jTs_ix 778 (by decide +kernel) rfl, jTs_ix 105 (by decide +kernel) rfl, fun _ => ⟨jTs_ix 776 (by decide +kernel) rfl, jTs_ix 777 (by decide +kernel) rfl⟩, fun h => (by cases h), by decide +kernel⟩
theorem jok_164 : jMok (yX11_joined, cX11_joined, 4, (some .int), T_X11_joined, 2, false) := ⟨by decide +kernel, by decide +kernel, jwc_all (jTs_p [788, 788, 391, 796, 391, 390, 800, 391, 390, 800, 391, 384, 387, 712, 398, 729, 398, 391, 384, 387, 733, 734] (by decide +kernel) (by decide +kernel)), by decide, by decide +kernel, jTs_ix 787 (by decide +kernel) rfl, jTs_ix 105 (by decide +kernel) rfl, fun _ => ⟨jTs_ix 785 (by decide +kernel) rfl, jTs_ix 786 (by decide +kernel) rfl⟩, fun h => (by cases h), by decide +kernel⟩
theorem jok_165 : jMok (yX11_falls, cX11_falls, 6, (some .int), T_X11_falls, 3, false) := ⟨by decide +kernel, by decide +kernel, jwc_all (jTs_p [567, 567, 567, 388, 387, 808, 388, 570, 388, 570, 388, 570, 788, 390, 384, 387, 712, 390, 384, 388, 712] (by decide +kernel) (by decide +kernel)), by decide, by decide +kernel, jTs_ix 807 (by decide +kernel) rfl, jTs_ix 105 (by decide +kernel) rfl, fun _ => ⟨jTs_ix 805 (by decide +kernel) rfl, jTs_ix 806 (by decide +kernel) rfl⟩, fun h => (by cases h), by decide +kernel⟩
theorem jok_166 : jMok (yX11_isLaid, cX11_isLaid, 2, (some .boolean), T_X11_isLaid, 1, false) := ⟨by decide +kernel, by decide +kernel, jwc_all (jTs_p [390, 708] (by decide +kernel) (by decide +kernel)), by decide, by decide +kernel, jTs_ix 707 (by decide +kernel) rfl, jTs_ix 105 (by decide +kernel) rfl, fun _ => ⟨jTs_ix 706 (by decide +kernel) rfl, jTs_ix 14 (by decide +kernel) rfl⟩, fun h => (by cases h), by decide +kernel⟩
theorem jok_167 : jMok (yX11_isWhole, cX11_isWhole, 2, (some .boolean), T_X11_isWhole, 1, false) := ⟨by decide +kernel, by decide +kernel, jwc_all (jTs_p [704, 390, 792] (by decide +kernel) (by decide +kernel)), by decide, by decide +kernel, jTs_ix 791 (by decide +kernel) rfl, jTs_ix 105 (by decide +kernel) rfl, fun _ => ⟨jTs_ix 790 (by decide +kernel) rfl, jTs_ix 17 (by decide +kernel) rfl⟩, fun h => (by cases h), by decide +kernel⟩
theorem jok_168 : jMok (yX11_longest, cX11_longest, 1, (some .int), T_X11_longest, 0, false) := ⟨by decide +kernel, by decide +kernel, jwc_all (jTs_p [817, 868] (by decide +kernel) (by decide +kernel)), by decide, by decide +kernel, jTs_ix 816 (by decide +kernel) rfl, jTs_ix 105 (by decide +kernel) rfl, fun _ => ⟨jTs_ix 814 (by decide +kernel) rfl, jTs_ix 815 (by decide +kernel) rfl⟩, fun h => (by cases h), by decide +kernel⟩
theorem jok_169 : jMok (yX11_ways, cX11_ways, 2, (some .long), T_X11_ways, 1, false) := ⟨by decide +kernel, by decide +kernel, jwc_all (jTs_p [957, 817, 397, 395, 958] (by decide +kernel) (by decide +kernel)), by decide, by decide +kernel, jTs_ix 956 (by decide +kernel) rfl, jTs_ix 105 (by decide +kernel) rfl, fun _ => ⟨jTs_ix 954 (by decide +kernel) rfl, jTs_ix 955 (by decide +kernel) rfl⟩, fun h => (by cases h), by decide +kernel⟩
theorem jok_170 : jMok (yX11_between, cX11_between, 3, (some .int), T_X11_between, 2, false) := ⟨by decide +kernel, by decide +kernel, jwc_all (jTs_p [990] (by decide +kernel) (by decide +kernel)), by decide, by decide +kernel, jTs_ix 989 (by decide +kernel) rfl, jTs_ix 105 (by decide +kernel) rfl, fun _ => ⟨jTs_ix 987 (by decide +kernel) rfl, jTs_ix 988 (by decide +kernel) rfl⟩, fun h => (by cases h), by decide +kernel⟩
theorem jok_171 : jMok (yX11_shortest, cX11_shortest, 3, (some .int), T_X11_shortest, 2, false) := ⟨by decide +kernel, by decide +kernel, jwc_all (jTs_p [990] (by decide +kernel) (by decide +kernel)), by decide, by decide +kernel, jTs_ix 1010 (by decide +kernel) rfl, jTs_ix 105 (by decide +kernel) rfl, fun _ => ⟨jTs_ix 1008 (by decide +kernel) rfl, jTs_ix 1009 (by decide +kernel) rfl⟩, fun h => (by cases h), by decide +kernel⟩
theorem jok_172 : jMok (yX11_bears, cX11_bears, 2, (some .int), T_X11_bears, 1, false) := ⟨by decide +kernel, by decide +kernel, jwc_all (jTs_p [384, 1015, 384, 1016, 817, 868] (by decide +kernel) (by decide +kernel)), by decide, by decide +kernel, jTs_ix 1014 (by decide +kernel) rfl, jTs_ix 105 (by decide +kernel) rfl, fun _ => ⟨jTs_ix 1012 (by decide +kernel) rfl, jTs_ix 1013 (by decide +kernel) rfl⟩, fun h => (by cases h), by decide +kernel⟩
theorem jok_173 : jMok (yX11_beside, cX11_beside, 2, (some .int), T_X11_beside, 1, false) := ⟨by decide +kernel, by decide +kernel, jwc_all (jTs_p [384, 612, 384, 387, 1024, 1025] (by decide +kernel) (by decide +kernel)), by decide, by decide +kernel, jTs_ix 1023 (by decide +kernel) rfl, jTs_ix 105 (by decide +kernel) rfl, fun _ => ⟨jTs_ix 1021 (by decide +kernel) rfl, jTs_ix 1022 (by decide +kernel) rfl⟩, fun h => (by cases h), by decide +kernel⟩
theorem jok_174 : jMok (yX11_parts, cX11_parts, 4, (some .int), T_X11_parts, 0, false) := ⟨by decide +kernel, by decide +kernel, jwc_all (jTs_p [398, 729, 384, 586, 384, 387, 1024, 1030, 398, 734, 398, 949] (by decide +kernel) (by decide +kernel)), by decide, by decide +kernel, jTs_ix 1029 (by decide +kernel) rfl, jTs_ix 105 (by decide +kernel) rfl, fun _ => ⟨jTs_ix 1027 (by decide +kernel) rfl, jTs_ix 1028 (by decide +kernel) rfl⟩, fun h => (by cases h), by decide +kernel⟩
theorem jok_175 : jMok (yX11_rare, cX11_rare, 5, (some .int), T_X11_rare, 0, false) := ⟨by decide +kernel, by decide +kernel, jwc_all (jTs_p [384, 1039, 1040, 398, 729, 398, 384, 1039, 734] (by decide +kernel) (by decide +kernel)), by decide, by decide +kernel, jTs_ix 1038 (by decide +kernel) rfl, jTs_ix 105 (by decide +kernel) rfl, fun _ => ⟨jTs_ix 1036 (by decide +kernel) rfl, jTs_ix 1037 (by decide +kernel) rfl⟩, fun h => (by cases h), by decide +kernel⟩
theorem jok_176 : jMok (yX11_round, cX11_round, 5, (some .int), T_X11_round, 0, false) := ⟨by decide +kernel, by decide +kernel, jwc_all (jTs_p [387, 994, 396, 872, 396, 384, 877, 1006, 384, 586, 1045, 396, 395, 1049, 1045, 396, 395, 890, 398, 729, 396, 395, 398, 940] (by decide +kernel) (by decide +kernel)), by decide, by decide +kernel, jTs_ix 1044 (by decide +kernel) rfl, jTs_ix 105 (by decide +kernel) rfl, fun _ => ⟨jTs_ix 1042 (by decide +kernel) rfl, jTs_ix 1043 (by decide +kernel) rfl⟩, fun h => (by cases h), by decide +kernel⟩
theorem jok_177 : jMok (yX11_shut, cX11_shut, 2, (some .int), T_X11_shut, 1, false) := ⟨by decide +kernel, by decide +kernel, jwc_all (jTs_p [387, 994, 395, 856, 384, 1054, 395, 1058] (by decide +kernel) (by decide +kernel)), by decide, by decide +kernel, jTs_ix 1053 (by decide +kernel) rfl, jTs_ix 105 (by decide +kernel) rfl, fun _ => ⟨jTs_ix 1051 (by decide +kernel) rfl, jTs_ix 1052 (by decide +kernel) rfl⟩, fun h => (by cases h), by decide +kernel⟩
theorem jok_178 : jMok (yX11_goOn, cX11_goOn, 2, none, T_X11_goOn, 1, false) := ⟨by decide +kernel, by decide +kernel, jwc_all (jTs_p [395, 384, 387, 821, 395, 389, 613, 389, 617, 851, 395, 856] (by decide +kernel) (by decide +kernel)), by decide, by decide +kernel, jTs_ix 820 (by decide +kernel) rfl, jTs_ix 105 (by decide +kernel) rfl, fun _ => ⟨jTs_ix 819 (by decide +kernel) rfl, jTs_ix 18 (by decide +kernel) rfl⟩, fun h => (by cases h), by decide +kernel⟩
theorem jok_179 : jMok (yX11_beginAnew, cX11_beginAnew, 2, none, T_X11_beginAnew, 1, false) := ⟨by decide +kernel, by decide +kernel, jwc_all (jTs_p [395, 384, 821, 395, 851] (by decide +kernel) (by decide +kernel)), by decide, by decide +kernel, jTs_ix 997 (by decide +kernel) rfl, jTs_ix 105 (by decide +kernel) rfl, fun _ => ⟨jTs_ix 996 (by decide +kernel) rfl, jTs_ix 30 (by decide +kernel) rfl⟩, fun h => (by cases h), by decide +kernel⟩
theorem jok_180 : jMok (yX11_tellMost, cX11_tellMost, 1, (some .int), T_X11_tellMost, 0, false) := ⟨by decide +kernel, by decide +kernel, jwc_all (jTs_p [396, 872, 396, 384, 877, 396, 395, 890, 398, 729, 396, 395, 398, 940, 398, 949] (by decide +kernel) (by decide +kernel)), by decide, by decide +kernel, jTs_ix 871 (by decide +kernel) rfl, jTs_ix 105 (by decide +kernel) rfl, fun _ => ⟨jTs_ix 870 (by decide +kernel) rfl, jTs_ix 20 (by decide +kernel) rfl⟩, fun h => (by cases h), by decide +kernel⟩
theorem jok_181 : jMok (yX11_tellBetween, cX11_tellBetween, 4, (some .int), T_X11_tellBetween, 3, false) := ⟨by decide +kernel, by decide +kernel, jwc_all (jTs_p [384, 612, 384, 612, 387, 994, 395, 998, 395, 856, 396, 872, 396, 384, 877, 396, 1002, 396, 395, 890, 1006, 398, 729, 396, 395, 398, 940, 398, 949] (by decide +kernel) (by decide +kernel)), by decide, by decide +kernel, jTs_ix 993 (by decide +kernel) rfl, jTs_ix 105 (by decide +kernel) rfl, fun _ => ⟨jTs_ix 992 (by decide +kernel) rfl, jTs_ix 29 (by decide +kernel) rfl⟩, fun h => (by cases h), by decide +kernel⟩
theorem jok_182 : jMok (yX11_goRound, cX11_goRound, 2, none, T_X11_goRound, 1, false) := ⟨by decide +kernel, by decide +kernel, jwc_all (jTs_p [395, 998, 395, 856, 396, 384, 387, 1024, 1025, 1002] (by decide +kernel) (by decide +kernel)), by decide, by decide +kernel, jTs_ix 1048 (by decide +kernel) rfl, jTs_ix 105 (by decide +kernel) rfl, fun _ => ⟨jTs_ix 1047 (by decide +kernel) rfl, jTs_ix 31 (by decide +kernel) rfl⟩, fun h => (by cases h), by decide +kernel⟩
theorem jok_183 : jMok (yX11_best, cX11_best, 4, (some .int), T_X11_best, 2, false) := ⟨by decide +kernel, by decide +kernel, jwc_all (jTs_p [396, 872, 396, 1066, 384, 586, 396, 386, 384, 1067, 1108, 1109] (by decide +kernel) (by decide +kernel)), by decide, by decide +kernel, jTs_ix 1065 (by decide +kernel) rfl, jTs_ix 105 (by decide +kernel) rfl, fun _ => ⟨jTs_ix 1063 (by decide +kernel) rfl, jTs_ix 1064 (by decide +kernel) rfl⟩, fun h => (by cases h), by decide +kernel⟩
theorem jok_184 : jMok (yX11_fair, cX11_fair, 5, (some .int), T_X11_fair, 2, false) := ⟨by decide +kernel, by decide +kernel, jwc_all (jTs_p [384, 1122, 396, 872, 384, 1122, 396, 1066, 384, 586, 396, 386, 384, 1123, 1108, 1109] (by decide +kernel) (by decide +kernel)), by decide, by decide +kernel, jTs_ix 1121 (by decide +kernel) rfl, jTs_ix 105 (by decide +kernel) rfl, fun _ => ⟨jTs_ix 1119 (by decide +kernel) rfl, jTs_ix 1120 (by decide +kernel) rfl⟩, fun h => (by cases h), by decide +kernel⟩
theorem jok_185 : jMok (yX11_cheap, cX11_cheap, 2, (some .int), T_X11_cheap, 1, false) := ⟨by decide +kernel, by decide +kernel, jwc_all (jTs_p [384, 1128, 1134] (by decide +kernel) (by decide +kernel)), by decide, by decide +kernel, jTs_ix 1127 (by decide +kernel) rfl, jTs_ix 105 (by decide +kernel) rfl, fun _ => ⟨jTs_ix 1125 (by decide +kernel) rfl, jTs_ix 1126 (by decide +kernel) rfl⟩, fun h => (by cases h), by decide +kernel⟩
theorem jok_186 : jMok (yX11_dear, cX11_dear, 2, (some .int), T_X11_dear, 1, false) := ⟨by decide +kernel, by decide +kernel, jwc_all (jTs_p [1134] (by decide +kernel) (by decide +kernel)), by decide, by decide +kernel, jTs_ix 1141 (by decide +kernel) rfl, jTs_ix 105 (by decide +kernel) rfl, fun _ => ⟨jTs_ix 1139 (by decide +kernel) rfl, jTs_ix 1140 (by decide +kernel) rfl⟩, fun h => (by cases h), by decide +kernel⟩
theorem jok_187 : jMok (yX11_tellJoy, cX11_tellJoy, 4, (some .int), T_X11_tellJoy, 2, false) := ⟨by decide +kernel, by decide +kernel, jwc_all (jTs_p [817, 396, 384, 1113, 396, 395, 890, 1006, 398, 729, 398, 734, 396, 395, 398, 940] (by decide +kernel) (by decide +kernel)), by decide, by decide +kernel, jTs_ix 1112 (by decide +kernel) rfl, jTs_ix 105 (by decide +kernel) rfl, fun _ => ⟨jTs_ix 1111 (by decide +kernel) rfl, jTs_ix 34 (by decide +kernel) rfl⟩, fun h => (by cases h), by decide +kernel⟩
theorem jok_188 : jMok (yX11_tellCost, cX11_tellCost, 5, (some .int), T_X11_tellCost, 3, false) := ⟨by decide +kernel, by decide +kernel, jwc_all (jTs_p [817, 396, 872, 396, 1066, 384, 586, 396, 384, 604, 1108, 396, 395, 890, 1006, 398, 729, 396, 395, 398, 940] (by decide +kernel) (by decide +kernel)), by decide, by decide +kernel, jTs_ix 1137 (by decide +kernel) rfl, jTs_ix 105 (by decide +kernel) rfl, fun _ => ⟨jTs_ix 1136 (by decide +kernel) rfl, jTs_ix 35 (by decide +kernel) rfl⟩, fun h => (by cases h), by decide +kernel⟩
theorem jok_189 : jMok (yX11_game, cX11_game, 1, (some .int), T_X11_game, 0, false) := ⟨by decide +kernel, by decide +kernel, jwc_all (jTs_p [817, 397, 395, 398, 1146] (by decide +kernel) (by decide +kernel)), by decide, by decide +kernel, jTs_ix 1145 (by decide +kernel) rfl, jTs_ix 105 (by decide +kernel) rfl, fun _ => ⟨jTs_ix 1143 (by decide +kernel) rfl, jTs_ix 1144 (by decide +kernel) rfl⟩, fun h => (by cases h), by decide +kernel⟩
theorem jok_190 : jMok (yX11_greedy, cX11_greedy, 1, (some .int), T_X11_greedy, 0, false) := ⟨by decide +kernel, by decide +kernel, jwc_all (jTs_p [817, 397, 395, 384, 386, 398, 1163] (by decide +kernel) (by decide +kernel)), by decide, by decide +kernel, jTs_ix 1162 (by decide +kernel) rfl, jTs_ix 105 (by decide +kernel) rfl, fun _ => ⟨jTs_ix 1160 (by decide +kernel) rfl, jTs_ix 1161 (by decide +kernel) rfl⟩, fun h => (by cases h), by decide +kernel⟩
theorem jok_191 : jMok (yX11_mend, cX11_mend, 3, (some .int), T_X11_mend, 2, false) := ⟨by decide +kernel, by decide +kernel, jwc_all (jTs_p [788, 388, 387, 808, 388, 578, 388, 994, 395, 856, 397, 395, 390, 398, 1181] (by decide +kernel) (by decide +kernel)), by decide, by decide +kernel, jTs_ix 1180 (by decide +kernel) rfl, jTs_ix 105 (by decide +kernel) rfl, fun _ => ⟨jTs_ix 1178 (by decide +kernel) rfl, jTs_ix 1179 (by decide +kernel) rfl⟩, fun h => (by cases h), by decide +kernel⟩
theorem jok_192 : jMok (yX11_fills, cX11_fills, 3, (some .long), T_X11_fills, 1, false) := ⟨by decide +kernel, by decide +kernel, jwc_all (jTs_p [704, 1205, 390, 708, 390, 1206, 398, 729, 396, 395, 890, 1006, 396, 395, 398, 940, 397, 395, 958] (by decide +kernel) (by decide +kernel)), by decide, by decide +kernel, jTs_ix 1204 (by decide +kernel) rfl, jTs_ix 105 (by decide +kernel) rfl, fun _ => ⟨jTs_ix 1202 (by decide +kernel) rfl, jTs_ix 1203 (by decide +kernel) rfl⟩, fun h => (by cases h), by decide +kernel⟩
theorem jok_193 : jMok (yX11_sure, cX11_sure, 5, (some .int), T_X11_sure, 2, false) := ⟨by decide +kernel, by decide +kernel, jwc_all (jTs_p [704, 390, 708, 390, 708, 390, 1206, 396, 395, 890, 1006, 396, 395, 1215, 1040] (by decide +kernel) (by decide +kernel)), by decide, by decide +kernel, jTs_ix 1214 (by decide +kernel) rfl, jTs_ix 105 (by decide +kernel) rfl, fun _ => ⟨jTs_ix 1212 (by decide +kernel) rfl, jTs_ix 1213 (by decide +kernel) rfl⟩, fun h => (by cases h), by decide +kernel⟩
theorem jok_194 : jMok (yX11_layFilled, cX11_layFilled, 3, none, T_X11_layFilled, 1, false) := ⟨by decide +kernel, by decide +kernel, jwc_all (jTs_p [387, 994, 708, 1210, 395, 1210, 998, 395, 856, 396, 872, 396, 384, 877] (by decide +kernel) (by decide +kernel)), by decide, by decide +kernel, jTs_ix 1209 (by decide +kernel) rfl, jTs_ix 105 (by decide +kernel) rfl, fun _ => ⟨jTs_ix 1208 (by decide +kernel) rfl, jTs_ix 42 (by decide +kernel) rfl⟩, fun h => (by cases h), by decide +kernel⟩
theorem jok_195 : jMok (yX11_hearths, cX11_hearths, 4, (some .int), T_X11_hearths, 1, false) := ⟨by decide +kernel, by decide +kernel, jwc_all (jTs_p [788, 390, 398, 729, 708, 398, 384, 1210, 1223, 734, 384, 1224] (by decide +kernel) (by decide +kernel)), by decide, by decide +kernel, jTs_ix 1222 (by decide +kernel) rfl, jTs_ix 105 (by decide +kernel) rfl, fun _ => ⟨jTs_ix 1220 (by decide +kernel) rfl, jTs_ix 1221 (by decide +kernel) rfl⟩, fun h => (by cases h), by decide +kernel⟩
theorem jok_196 : jMok (yX11_late, cX11_late, 3, (some .int), T_X11_late, 2, false) := ⟨by decide +kernel, by decide +kernel, jwc_all (jTs_p [788, 398, 729, 390, 384, 398, 1234] (by decide +kernel) (by decide +kernel)), by decide, by decide +kernel, jTs_ix 1233 (by decide +kernel) rfl, jTs_ix 105 (by decide +kernel) rfl, fun _ => ⟨jTs_ix 1231 (by decide +kernel) rfl, jTs_ix 1232 (by decide +kernel) rfl⟩, fun h => (by cases h), by decide +kernel⟩
theorem jok_197 : jMok (yX11_poison, cX11_poison, 6, (some .int), T_X11_poison, 2, false) := ⟨by decide +kernel, by decide +kernel, jwc_all (jTs_p [384, 1122, 788, 384, 1122, 390, 384, 1244] (by decide +kernel) (by decide +kernel)), by decide, by decide +kernel, jTs_ix 1243 (by decide +kernel) rfl, jTs_ix 105 (by decide +kernel) rfl, fun _ => ⟨jTs_ix 1241 (by decide +kernel) rfl, jTs_ix 1242 (by decide +kernel) rfl⟩, fun h => (by cases h), by decide +kernel⟩
theorem jok_198 : jMok (yX11_eats, cX11_eats, 7, (some .int), T_X11_eats, 2, false) := ⟨by decide +kernel, by decide +kernel, jwc_all (jTs_p [384, 1015, 788, 390, 384, 1254, 708, 386, 384, 1210, 1123, 398, 729, 398, 734, 398, 384, 1244, 734, 398, 734, 1040] (by decide +kernel) (by decide +kernel)), by decide, by decide +kernel, jTs_ix 1253 (by decide +kernel) rfl, jTs_ix 105 (by decide +kernel) rfl, fun _ => ⟨jTs_ix 1251 (by decide +kernel) rfl, jTs_ix 1252 (by decide +kernel) rfl⟩, fun h => (by cases h), by decide +kernel⟩
theorem jok_199 : jMok (yX11_made, cX11_made, 2, (some .int), T_X11_made, 0, false) := ⟨by decide +kernel, by decide +kernel, jwc_all (jTs_p [387, 994, 395, 856, 396, 395, 384, 387, 1262, 398, 729, 398, 734, 1040] (by decide +kernel) (by decide +kernel)), by decide, by decide +kernel, jTs_ix 1261 (by decide +kernel) rfl, jTs_ix 105 (by decide +kernel) rfl, fun _ => ⟨jTs_ix 1259 (by decide +kernel) rfl, jTs_ix 1260 (by decide +kernel) rfl⟩, fun h => (by cases h), by decide +kernel⟩
theorem jok_200 : jMok (yX11_keep, cX11_keep, 2, (some .boolean), T_X11_keep, 1, false) := ⟨by decide +kernel, by decide +kernel, jwc_all (jTs_p [392, 387, 808, 393, 389, 1305, 394, 384, 586] (by decide +kernel) (by decide +kernel)), by decide, by decide +kernel, jTs_ix 1304 (by decide +kernel) rfl, jTs_ix 105 (by decide +kernel) rfl, fun _ => ⟨jTs_ix 1302 (by decide +kernel) rfl, jTs_ix 1303 (by decide +kernel) rfl⟩, fun h => (by cases h), by decide +kernel⟩
theorem jok_201 : jMok (yX11_again, cX11_again, 2, (some .boolean), T_X11_again, 1, false) := ⟨by decide +kernel, by decide +kernel, jwc_all (jTs_p [394, 384, 586, 387, 392, 808, 389, 393, 1305] (by decide +kernel) (by decide +kernel)), by decide, by decide +kernel, jTs_ix 1313 (by decide +kernel) rfl, jTs_ix 105 (by decide +kernel) rfl, fun _ => ⟨jTs_ix 1311 (by decide +kernel) rfl, jTs_ix 1312 (by decide +kernel) rfl⟩, fun h => (by cases h), by decide +kernel⟩
theorem jok_202 : jMok (yX11_count, cX11_count, 2, (some .int), T_X11_count, 1, false) := ⟨by decide +kernel, by decide +kernel, jwc_all (jTs_p [384, 586, 384, 1122, 389, 660, 389, 617, 384, 389, 613, 1318, 398, 949, 383, 440, 1322] (by decide +kernel) (by decide +kernel)), by decide, by decide +kernel, jTs_ix 1317 (by decide +kernel) rfl, jTs_ix 105 (by decide +kernel) rfl, fun _ => ⟨jTs_ix 1315 (by decide +kernel) rfl, jTs_ix 1316 (by decide +kernel) rfl⟩, fun h => (by cases h), by decide +kernel⟩
theorem jok_203 : jMok (yX11_row, cX11_row, 2, (some .int), T_X11_row, 1, false) := ⟨by decide +kernel, by decide +kernel, jwc_all (jTs_p [398, 949, 398, 1421] (by decide +kernel) (by decide +kernel)), by decide, by decide +kernel, jTs_ix 1420 (by decide +kernel) rfl, jTs_ix 105 (by decide +kernel) rfl, fun _ => ⟨jTs_ix 1418 (by decide +kernel) rfl, jTs_ix 1419 (by decide +kernel) rfl⟩, fun h => (by cases h), by decide +kernel⟩
theorem jok_204 : jMok (yX11_menusLaid, cX11_menusLaid, 3, (some .int), T_X11_menusLaid, 0, false) := ⟨by decide +kernel, by decide +kernel, jwc_all (jTs_p [704] (by decide +kernel) (by decide +kernel)), by decide, by decide +kernel, jTs_ix 1325 (by decide +kernel) rfl, jTs_ix 105 (by decide +kernel) rfl, fun _ => ⟨jTs_ix 1324 (by decide +kernel) rfl, jTs_ix 46 (by decide +kernel) rfl⟩, fun h => (by cases h), by decide +kernel⟩
theorem jok_205 : jMok (yX12_thrown, cX12_thrown, 1, (some .int), T_X12_thrown, 0, false) := ⟨by decide +kernel, by decide +kernel, jwc_all (jTs_p [1451] (by decide +kernel) (by decide +kernel)), by decide, by decide +kernel, jTs_ix 1596 (by decide +kernel) rfl, jTs_ix 118 (by decide +kernel) rfl, fun _ => ⟨jTs_ix 1594 (by decide +kernel) rfl, jTs_ix 1595 (by decide +kernel) rfl⟩, fun h => (by cases h), by decide +kernel⟩
theorem jok_206 : jMok (yX12_in, cX12_in, 3, (some .boolean), T_X12_in, 3, true) := ⟨by decide +kernel, by decide +kernel, jwc_all (jTs_p [] (by decide +kernel) (by decide +kernel)), by decide, by decide +kernel, jTs_ix 1607 (by decide +kernel) rfl, jTs_ix 118 (by decide +kernel) rfl, fun h => (by cases h), fun _ => jTs_ix 1606 (by decide +kernel) rfl, by decide +kernel⟩
theorem jok_207 : jMok (yX12_has, cX12_has, 2, (some .boolean), T_X12_has, 2, true) := ⟨by decide +kernel, by decide +kernel, jwc_all (jTs_p [] (by decide +kernel) (by decide +kernel)), by decide, by decide +kernel, jTs_ix 1740 (by decide +kernel) rfl, jTs_ix 118 (by decide +kernel) rfl, fun h => (by cases h), fun _ => jTs_ix 1739 (by decide +kernel) rfl, by decide +kernel⟩
theorem jok_208 : jMok (yX12_lost, cX12_lost, 1, (some .int), T_X12_lost, 0, false) := ⟨by decide +kernel, by decide +kernel, jwc_all (jTs_p [1451] (by decide +kernel) (by decide +kernel)), by decide, by decide +kernel, jTs_ix 1680 (by decide +kernel) rfl, jTs_ix 118 (by decide +kernel) rfl, fun _ => ⟨jTs_ix 1679 (by decide +kernel) rfl, jTs_ix 62 (by decide +kernel) rfl⟩, fun h => (by cases h), by decide +kernel⟩
theorem jok_209 : jMok (yX12_tell, cX12_tell, 2, none, T_X12_tell, 1, false) := ⟨by decide +kernel, by decide +kernel, jwc_all (jTs_p [1449, 1450, 1450, 1450] (by decide +kernel) (by decide +kernel)), by decide, by decide +kernel, jTs_ix 1788 (by decide +kernel) rfl, jTs_ix 118 (by decide +kernel) rfl, fun _ => ⟨jTs_ix 1787 (by decide +kernel) rfl, jTs_ix 76 (by decide +kernel) rfl⟩, fun h => (by cases h), by decide +kernel⟩
theorem jok_210 : jMok (yX12_isDish, cX12_isDish, 2, (some .boolean), T_X12_isDish, 1, false) := ⟨by decide +kernel, by decide +kernel, jwc_all (jTs_p [1432, 1605] (by decide +kernel) (by decide +kernel)), by decide, by decide +kernel, jTs_ix 1676 (by decide +kernel) rfl, jTs_ix 118 (by decide +kernel) rfl, fun _ => ⟨jTs_ix 1675 (by decide +kernel) rfl, jTs_ix 61 (by decide +kernel) rfl⟩, fun h => (by cases h), by decide +kernel⟩
theorem jok_211 : jMok (yX12_isGuest, cX12_isGuest, 2, (some .boolean), T_X12_isGuest, 1, false) := ⟨by decide +kernel, by decide +kernel, jwc_all (jTs_p [1437, 1605] (by decide +kernel) (by decide +kernel)), by decide, by decide +kernel, jTs_ix 1702 (by decide +kernel) rfl, jTs_ix 118 (by decide +kernel) rfl, fun _ => ⟨jTs_ix 1701 (by decide +kernel) rfl, jTs_ix 66 (by decide +kernel) rfl⟩, fun h => (by cases h), by decide +kernel⟩
theorem jok_212 : jMok (yX12_sign, cX12_sign, 3, (some .int), T_X12_sign, 1, false) := ⟨by decide +kernel, by decide +kernel, jwc_all (jTs_p [1451, 1448, 1447, 1448, 1448, 1448] (by decide +kernel) (by decide +kernel)), by decide, by decide +kernel, jTs_ix 1600 (by decide +kernel) rfl, jTs_ix 118 (by decide +kernel) rfl, fun _ => ⟨jTs_ix 1598 (by decide +kernel) rfl, jTs_ix 1599 (by decide +kernel) rfl⟩, fun h => (by cases h), by decide +kernel⟩
theorem jok_213 : jMok (yX12_end, cX12_end, 2, (some .boolean), T_X12_end, 1, false) := ⟨by decide +kernel, by decide +kernel, jwc_all (jTs_p [1451, 1448, 1605, 1448] (by decide +kernel) (by decide +kernel)), by decide, by decide +kernel, jTs_ix 1604 (by decide +kernel) rfl, jTs_ix 118 (by decide +kernel) rfl, fun _ => ⟨jTs_ix 1602 (by decide +kernel) rfl, jTs_ix 1603 (by decide +kernel) rfl⟩, fun h => (by cases h), by decide +kernel⟩
theorem jok_214 : jMok (yX12_begin, cX12_begin, 4, none, T_X12_begin, 3, false) := ⟨by decide +kernel, by decide +kernel, jwc_all (jTs_p [1452, 1453, 1454, 1455, 1456] (by decide +kernel) (by decide +kernel)), by decide, by decide +kernel, jTs_ix 1615 (by decide +kernel) rfl, jTs_ix 118 (by decide +kernel) rfl, fun _ => ⟨jTs_ix 1614 (by decide +kernel) rfl, jTs_ix 48 (by decide +kernel) rfl⟩, fun h => (by cases h), by decide +kernel⟩
theorem jok_215 : jMok (yX12_here, cX12_here, 1, (some .int), T_X12_here, 0, false) := ⟨by decide +kernel, by decide +kernel, jwc_all (jTs_p [1455, 1453, 1455, 1454, 1452, 1455] (by decide +kernel) (by decide +kernel)), by decide, by decide +kernel, jTs_ix 1623 (by decide +kernel) rfl, jTs_ix 118 (by decide +kernel) rfl, fun _ => ⟨jTs_ix 1622 (by decide +kernel) rfl, jTs_ix 50 (by decide +kernel) rfl⟩, fun h => (by cases h), by decide +kernel⟩
theorem jok_216 : jMok (yX12_fine, cX12_fine, 1, (some .boolean), T_X12_fine, 0, false) := ⟨by decide +kernel, by decide +kernel, jwc_all (jTs_p [1456] (by decide +kernel) (by decide +kernel)), by decide, by decide +kernel, jTs_ix 1619 (by decide +kernel) rfl, jTs_ix 118 (by decide +kernel) rfl, fun _ => ⟨jTs_ix 1618 (by decide +kernel) rfl, jTs_ix 49 (by decide +kernel) rfl⟩, fun h => (by cases h), by decide +kernel⟩
theorem jok_217 : jMok (yX12_fault, cX12_fault, 2, none, T_X12_fault, 1, false) := ⟨by decide +kernel, by decide +kernel, jwc_all (jTs_p [1616, 1456] (by decide +kernel) (by decide +kernel)), by decide, by decide +kernel, jTs_ix 1627 (by decide +kernel) rfl, jTs_ix 118 (by decide +kernel) rfl, fun _ => ⟨jTs_ix 1626 (by decide +kernel) rfl, jTs_ix 51 (by decide +kernel) rfl⟩, fun h => (by cases h), by decide +kernel⟩
theorem jok_218 : jMok (yX12_passes, cX12_passes, 2, (some .boolean), T_X12_passes, 1, false) := ⟨by decide +kernel, by decide +kernel, jwc_all (jTs_p [1616, 1620, 1455, 1455] (by decide +kernel) (by decide +kernel)), by decide, by decide +kernel, jTs_ix 1639 (by decide +kernel) rfl, jTs_ix 118 (by decide +kernel) rfl, fun _ => ⟨jTs_ix 1638 (by decide +kernel) rfl, jTs_ix 54 (by decide +kernel) rfl⟩, fun h => (by cases h), by decide +kernel⟩
theorem jok_219 : jMok (yX12_number, cX12_number, 4, (some .int), T_X12_number, 1, false) := ⟨by decide +kernel, by decide +kernel, jwc_all (jTs_p [1616, 1455, 1455, 1620, 1605, 1620, 1455, 1455, 1455, 1455, 1624] (by decide +kernel) (by decide +kernel)), by decide, by decide +kernel, jTs_ix 1643 (by decide +kernel) rfl, jTs_ix 118 (by decide +kernel) rfl, fun _ => ⟨jTs_ix 1642 (by decide +kernel) rfl, jTs_ix 55 (by decide +kernel) rfl⟩, fun h => (by cases h), by decide +kernel⟩
theorem jok_220 : jMok (yX12_letters, cX12_letters, 5, (some .int), T_X12_letters, 1, false) := ⟨by decide +kernel, by decide +kernel, jwc_all (jTs_p [1616, 1620, 1605, 1620, 1455, 1624, 1455, 1455, 1455, 1624] (by decide +kernel) (by decide +kernel)), by decide, by decide +kernel, jTs_ix 1635 (by decide +kernel) rfl, jTs_ix 118 (by decide +kernel) rfl, fun _ => ⟨jTs_ix 1634 (by decide +kernel) rfl, jTs_ix 53 (by decide +kernel) rfl⟩, fun h => (by cases h), by decide +kernel⟩
theorem jok_221 : jMok (yX12_kitchen, cX12_kitchen, 5, (some .int), T_X12_kitchen, 0, false) := ⟨by decide +kernel, by decide +kernel, jwc_all (jTs_p [1451, 1447, 1448, 1612, 1448, 1453, 1432, 1437, 1616, 1620, 1455, 1624, 1628, 1455, 1624, 1433, 1632, 1434, 1640, 1435, 1636, 1436, 1636, 1640, 1636, 1455, 1453, 1455, 1624, 1616, 1456, 1432, 1480, 1480, 1432, 1437] (by decide +kernel) (by decide +kernel)), by decide, by decide +kernel, jTs_ix 1611 (by decide +kernel) rfl, jTs_ix 118 (by decide +kernel) rfl, fun _ => ⟨jTs_ix 1609 (by decide +kernel) rfl, jTs_ix 1610 (by decide +kernel) rfl⟩, fun h => (by cases h), by decide +kernel⟩
theorem jok_222 : jMok (yX12_readGuest, cX12_readGuest, 2, none, T_X12_readGuest, 1, false) := ⟨by decide +kernel, by decide +kernel, jwc_all (jTs_p [1455, 1455, 1438, 1632, 1636, 1455, 1624, 1439, 1632] (by decide +kernel) (by decide +kernel)), by decide, by decide +kernel, jTs_ix 1631 (by decide +kernel) rfl, jTs_ix 118 (by decide +kernel) rfl, fun _ => ⟨jTs_ix 1630 (by decide +kernel) rfl, jTs_ix 52 (by decide +kernel) rfl⟩, fun h => (by cases h), by decide +kernel⟩
theorem jok_223 : jMok (yX12_held, cX12_held, 3, (some .int), T_X12_held, 1, false) := ⟨by decide +kernel, by decide +kernel, jwc_all (jTs_p [1652, 1636, 1652, 1636, 1652, 1636, 1652] (by decide +kernel) (by decide +kernel)), by decide, by decide +kernel, jTs_ix 1651 (by decide +kernel) rfl, jTs_ix 118 (by decide +kernel) rfl, fun _ => ⟨jTs_ix 1650 (by decide +kernel) rfl, jTs_ix 56 (by decide +kernel) rfl⟩, fun h => (by cases h), by decide +kernel⟩
theorem jok_224 : jMok (yX12_sum, cX12_sum, 5, (some .int), T_X12_sum, 1, false) := ⟨by decide +kernel, by decide +kernel, jwc_all (jTs_p [1656, 1616, 1620, 1620, 1620, 1455, 1455, 1656] (by decide +kernel) (by decide +kernel)), by decide, by decide +kernel, jTs_ix 1655 (by decide +kernel) rfl, jTs_ix 118 (by decide +kernel) rfl, fun _ => ⟨jTs_ix 1654 (by decide +kernel) rfl, jTs_ix 57 (by decide +kernel) rfl⟩, fun h => (by cases h), by decide +kernel⟩
theorem jok_225 : jMok (yX12_product, cX12_product, 5, (some .int), T_X12_product, 1, false) := ⟨by decide +kernel, by decide +kernel, jwc_all (jTs_p [1660, 1616, 1620, 1620, 1620, 1455, 1455, 1660] (by decide +kernel) (by decide +kernel)), by decide, by decide +kernel, jTs_ix 1659 (by decide +kernel) rfl, jTs_ix 118 (by decide +kernel) rfl, fun _ => ⟨jTs_ix 1658 (by decide +kernel) rfl, jTs_ix 58 (by decide +kernel) rfl⟩, fun h => (by cases h), by decide +kernel⟩
theorem jok_226 : jMok (yX12_thing, cX12_thing, 4, (some .int), T_X12_thing, 1, false) := ⟨by decide +kernel, by decide +kernel, jwc_all (jTs_p [1636, 1660, 1616, 1620, 1455, 1455, 1648, 1636, 1455, 1624, 1605, 1640, 1455, 1624, 1455, 1455, 1459, 1664] (by decide +kernel) (by decide +kernel)), by decide, by decide +kernel, jTs_ix 1663 (by decide +kernel) rfl, jTs_ix 118 (by decide +kernel) rfl, fun _ => ⟨jTs_ix 1662 (by decide +kernel) rfl, jTs_ix 59 (by decide +kernel) rfl⟩, fun h => (by cases h), by decide +kernel⟩
theorem jok_227 : jMok (yX12_letter, cX12_letter, 3, (some .int), T_X12_letter, 1, false) := ⟨by decide +kernel, by decide +kernel, jwc_all (jTs_p [1460, 1433, 1438, 1459, 1668, 1433, 1439, 1459, 1668, 1433, 1668, 1434, 1435, 1436, 1459] (by decide +kernel) (by decide +kernel)), by decide, by decide +kernel, jTs_ix 1667 (by decide +kernel) rfl, jTs_ix 118 (by decide +kernel) rfl, fun _ => ⟨jTs_ix 1666 (by decide +kernel) rfl, jTs_ix 60 (by decide +kernel) rfl⟩, fun h => (by cases h), by decide +kernel⟩
theorem jok_228 : jMok (yX12_rule, cX12_rule, 3, (some .int), T_X12_rule, 0, false) := ⟨by decide +kernel, by decide +kernel, jwc_all (jTs_p [1451, 1448, 1447, 1612, 1448, 1459, 1648, 1455, 1455, 1624, 1616, 1456, 1457, 1447, 1458] (by decide +kernel) (by decide +kernel)), by decide, by decide +kernel, jTs_ix 1647 (by decide +kernel) rfl, jTs_ix 118 (by decide +kernel) rfl, fun _ => ⟨jTs_ix 1645 (by decide +kernel) rfl, jTs_ix 1646 (by decide +kernel) rfl⟩, fun h => (by cases h), by decide +kernel⟩
theorem jok_229 : jMok (yX12_joyOf, cX12_joyOf, 3, (some .int), T_X12_joyOf, 2, false) := ⟨by decide +kernel, by decide +kernel, jwc_all (jTs_p [1458, 1433, 1438, 1668, 1457, 1458, 1612, 1459, 1460, 1648, 1693, 1694] (by decide +kernel) (by decide +kernel)), by decide, by decide +kernel, jTs_ix 1692 (by decide +kernel) rfl, jTs_ix 118 (by decide +kernel) rfl, fun _ => ⟨jTs_ix 1691 (by decide +kernel) rfl, jTs_ix 65 (by decide +kernel) rfl⟩, fun h => (by cases h), by decide +kernel⟩
theorem jok_230 : jMok (yX12_joyOfAll, cX12_joyOfAll, 4, (some .int), T_X12_joyOfAll, 1, false) := ⟨by decide +kernel, by decide +kernel, jwc_all (jTs_p [1437, 1689] (by decide +kernel) (by decide +kernel)), by decide, by decide +kernel, jTs_ix 1688 (by decide +kernel) rfl, jTs_ix 118 (by decide +kernel) rfl, fun _ => ⟨jTs_ix 1687 (by decide +kernel) rfl, jTs_ix 64 (by decide +kernel) rfl⟩, fun h => (by cases h), by decide +kernel⟩
theorem jok_231 : jMok (yX12_isHungry, cX12_isHungry, 3, (some .boolean), T_X12_isHungry, 2, false) := ⟨by decide +kernel, by decide +kernel, jwc_all (jTs_p [1433, 1439] (by decide +kernel) (by decide +kernel)), by decide, by decide +kernel, jTs_ix 1684 (by decide +kernel) rfl, jTs_ix 118 (by decide +kernel) rfl, fun _ => ⟨jTs_ix 1683 (by decide +kernel) rfl, jTs_ix 63 (by decide +kernel) rfl⟩, fun h => (by cases h), by decide +kernel⟩
theorem jok_232 : jMok (yX12_dish, cX12_dish, 5, (some .int), T_X12_dish, 2, false) := ⟨by decide +kernel, by decide +kernel, jwc_all (jTs_p [1451, 1673, 1605, 1677, 1437, 1681, 1433, 1434, 1435, 1436, 1685] (by decide +kernel) (by decide +kernel)), by decide, by decide +kernel, jTs_ix 1672 (by decide +kernel) rfl, jTs_ix 118 (by decide +kernel) rfl, fun _ => ⟨jTs_ix 1670 (by decide +kernel) rfl, jTs_ix 1671 (by decide +kernel) rfl⟩, fun h => (by cases h), by decide +kernel⟩
theorem jok_233 : jMok (yX12_guest, cX12_guest, 3, (some .int), T_X12_guest, 2, false) := ⟨by decide +kernel, by decide +kernel, jwc_all (jTs_p [1451, 1699, 1605, 1677, 1438, 1439] (by decide +kernel) (by decide +kernel)), by decide, by decide +kernel, jTs_ix 1698 (by decide +kernel) rfl, jTs_ix 118 (by decide +kernel) rfl, fun _ => ⟨jTs_ix 1696 (by decide +kernel) rfl, jTs_ix 1697 (by decide +kernel) rfl⟩, fun h => (by cases h), by decide +kernel⟩
theorem jok_234 : jMok (yX12_joy, cX12_joy, 3, (some .int), T_X12_joy, 2, false) := ⟨by decide +kernel, by decide +kernel, jwc_all (jTs_p [1451, 1699, 1673, 1689, 1677] (by decide +kernel) (by decide +kernel)), by decide, by decide +kernel, jTs_ix 1706 (by decide +kernel) rfl, jTs_ix 118 (by decide +kernel) rfl, fun _ => ⟨jTs_ix 1704 (by decide +kernel) rfl, jTs_ix 1705 (by decide +kernel) rfl⟩, fun h => (by cases h), by decide +kernel⟩
theorem jok_235 : jMok (yX12_isLaw, cX12_isLaw, 2, (some .boolean), T_X12_isLaw, 2, true) := ⟨by decide +kernel, by decide +kernel, jwc_all (jTs_p [1605, 1605, 1605] (by decide +kernel) (by decide +kernel)), by decide, by decide +kernel, jTs_ix 1713 (by decide +kernel) rfl, jTs_ix 118 (by decide +kernel) rfl, fun h => (by cases h), fun _ => jTs_ix 1712 (by decide +kernel) rfl, by decide +kernel⟩
theorem jok_236 : jMok (yX12_law, cX12_law, 4, (some .int), T_X12_law, 2, false) := ⟨by decide +kernel, by decide +kernel, jwc_all (jTs_p [1451, 1711, 1440, 1441, 1442, 1440, 1441, 1442] (by decide +kernel) (by decide +kernel)), by decide, by decide +kernel, jTs_ix 1710 (by decide +kernel) rfl, jTs_ix 118 (by decide +kernel) rfl, fun _ => ⟨jTs_ix 1708 (by decide +kernel) rfl, jTs_ix 1709 (by decide +kernel) rfl⟩, fun h => (by cases h), by decide +kernel⟩
theorem jok_237 : jMok (yX12_store, cX12_store, 4, (some .int), T_X12_store, 2, false) := ⟨by decide +kernel, by decide +kernel, jwc_all (jTs_p [1451, 1605, 1605, 1431, 1431] (by decide +kernel) (by decide +kernel)), by decide, by decide +kernel, jTs_ix 1717 (by decide +kernel) rfl, jTs_ix 118 (by decide +kernel) rfl, fun _ => ⟨jTs_ix 1715 (by decide +kernel) rfl, jTs_ix 1716 (by decide +kernel) rfl⟩, fun h => (by cases h), by decide +kernel⟩
theorem jok_238 : jMok (yX12_sheet, cX12_sheet, 9, (some .int), T_X12_sheet, 4, false) := ⟨by decide +kernel, by decide +kernel, jwc_all (jTs_p [1451, 1605, 1432, 1434, 1693, 1694, 1434] (by decide +kernel) (by decide +kernel)), by decide, by decide +kernel, jTs_ix 1721 (by decide +kernel) rfl, jTs_ix 118 (by decide +kernel) rfl, fun _ => ⟨jTs_ix 1719 (by decide +kernel) rfl, jTs_ix 1720 (by decide +kernel) rfl⟩, fun h => (by cases h), by decide +kernel⟩
theorem jok_239 : jMok (yX12_shared, cX12_shared, 3, (some .int), T_X12_shared, 2, false) := ⟨by decide +kernel, by decide +kernel, jwc_all (jTs_p [1433, 1433, 1668] (by decide +kernel) (by decide +kernel)), by decide, by decide +kernel, jTs_ix 1744 (by decide +kernel) rfl, jTs_ix 118 (by decide +kernel) rfl, fun _ => ⟨jTs_ix 1743 (by decide +kernel) rfl, jTs_ix 70 (by decide +kernel) rfl⟩, fun h => (by cases h), by decide +kernel⟩
end
section
theorem jok_240 : jMok (yX12_hasHot, cX12_hasHot, 3, (some .boolean), T_X12_hasHot, 1, false) := ⟨by decide +kernel, by decide +kernel, jwc_all (jTs_p [1432, 1738, 1435] (by decide +kernel) (by decide +kernel)), by decide, by decide +kernel, jTs_ix 1748 (by decide +kernel) rfl, jTs_ix 118 (by decide +kernel) rfl, fun _ => ⟨jTs_ix 1747 (by decide +kernel) rfl, jTs_ix 71 (by decide +kernel) rfl⟩, fun h => (by cases h), by decide +kernel⟩
theorem jok_241 : jMok (yX12_fits, cX12_fits, 7, (some .boolean), T_X12_fits, 3, false) := ⟨by decide +kernel, by decide +kernel, jwc_all (jTs_p [1433, 1738, 1432, 1738, 1433, 1738, 1431, 1441] (by decide +kernel) (by decide +kernel)), by decide, by decide +kernel, jTs_ix 1752 (by decide +kernel) rfl, jTs_ix 118 (by decide +kernel) rfl, fun _ => ⟨jTs_ix 1751 (by decide +kernel) rfl, jTs_ix 72 (by decide +kernel) rfl⟩, fun h => (by cases h), by decide +kernel⟩
theorem jok_242 : jMok (yX12_refusal, cX12_refusal, 4, (some .int), T_X12_refusal, 3, false) := ⟨by decide +kernel, by decide +kernel, jwc_all (jTs_p [1738, 1741, 1440, 1442, 1435, 1745, 1442, 1435, 1435, 1749, 1749] (by decide +kernel) (by decide +kernel)), by decide, by decide +kernel, jTs_ix 1737 (by decide +kernel) rfl, jTs_ix 118 (by decide +kernel) rfl, fun _ => ⟨jTs_ix 1736 (by decide +kernel) rfl, jTs_ix 69 (by decide +kernel) rfl⟩, fun h => (by cases h), by decide +kernel⟩
theorem jok_243 : jMok (yX12_servedSet, cX12_servedSet, 3, (some .int), T_X12_servedSet, 0, false) := ⟨by decide +kernel, by decide +kernel, jwc_all (jTs_p [1444, 1443] (by decide +kernel) (by decide +kernel)), by decide, by decide +kernel, jTs_ix 1729 (by decide +kernel) rfl, jTs_ix 118 (by decide +kernel) rfl, fun _ => ⟨jTs_ix 1728 (by decide +kernel) rfl, jTs_ix 67 (by decide +kernel) rfl⟩, fun h => (by cases h), by decide +kernel⟩
theorem jok_244 : jMok (yX12_servedLast, cX12_servedLast, 1, (some .int), T_X12_servedLast, 0, false) := ⟨by decide +kernel, by decide +kernel, jwc_all (jTs_p [1444, 1443, 1444] (by decide +kernel) (by decide +kernel)), by decide, by decide +kernel, jTs_ix 1733 (by decide +kernel) rfl, jTs_ix 118 (by decide +kernel) rfl, fun _ => ⟨jTs_ix 1732 (by decide +kernel) rfl, jTs_ix 68 (by decide +kernel) rfl⟩, fun h => (by cases h), by decide +kernel⟩
theorem jok_245 : jMok (yX12_serve, cX12_serve, 3, (some .int), T_X12_serve, 1, false) := ⟨by decide +kernel, by decide +kernel, jwc_all (jTs_p [1451, 1673, 1726, 1730, 1734, 1443, 1444, 1444, 1444, 1444] (by decide +kernel) (by decide +kernel)), by decide, by decide +kernel, jTs_ix 1725 (by decide +kernel) rfl, jTs_ix 118 (by decide +kernel) rfl, fun _ => ⟨jTs_ix 1723 (by decide +kernel) rfl, jTs_ix 1724 (by decide +kernel) rfl⟩, fun h => (by cases h), by decide +kernel⟩
theorem jok_246 : jMok (yX12_back, cX12_back, 1, (some .int), T_X12_back, 0, false) := ⟨by decide +kernel, by decide +kernel, jwc_all (jTs_p [1451, 1444, 1444, 1444, 1443, 1444] (by decide +kernel) (by decide +kernel)), by decide, by decide +kernel, jTs_ix 1756 (by decide +kernel) rfl, jTs_ix 118 (by decide +kernel) rfl, fun _ => ⟨jTs_ix 1754 (by decide +kernel) rfl, jTs_ix 1755 (by decide +kernel) rfl⟩, fun h => (by cases h), by decide +kernel⟩
theorem jok_247 : jMok (yX12_over, cX12_over, 3, (some .int), T_X12_over, 0, false) := ⟨by decide +kernel, by decide +kernel, jwc_all (jTs_p [1451, 1444, 1431, 1431, 1433, 1443, 1738, 1694, 1444, 1444] (by decide +kernel) (by decide +kernel)), by decide, by decide +kernel, jTs_ix 1760 (by decide +kernel) rfl, jTs_ix 118 (by decide +kernel) rfl, fun _ => ⟨jTs_ix 1758 (by decide +kernel) rfl, jTs_ix 1759 (by decide +kernel) rfl⟩, fun h => (by cases h), by decide +kernel⟩
theorem jok_248 : jMok (yX12_can, cX12_can, 3, (some .int), T_X12_can, 0, false) := ⟨by decide +kernel, by decide +kernel, jwc_all (jTs_p [1451, 1432, 1726, 1730, 1734] (by decide +kernel) (by decide +kernel)), by decide, by decide +kernel, jTs_ix 1764 (by decide +kernel) rfl, jTs_ix 118 (by decide +kernel) rfl, fun _ => ⟨jTs_ix 1762 (by decide +kernel) rfl, jTs_ix 1763 (by decide +kernel) rfl⟩, fun h => (by cases h), by decide +kernel⟩
theorem jok_249 : jMok (yX12_menu, cX12_menu, 3, (some .int), T_X12_menu, 1, false) := ⟨by decide +kernel, by decide +kernel, jwc_all (jTs_p [1451, 1447, 1448, 1612, 1448, 1605, 1616, 1455, 1453, 1455, 1454, 1620, 1432, 1605, 1455, 1624, 1455, 1455, 1455, 1453, 1455, 1624, 1616, 1456, 1453, 1445, 1447, 1447, 1446, 1453, 1453] (by decide +kernel) (by decide +kernel)), by decide, by decide +kernel, jTs_ix 1768 (by decide +kernel) rfl, jTs_ix 118 (by decide +kernel) rfl, fun _ => ⟨jTs_ix 1766 (by decide +kernel) rfl, jTs_ix 1767 (by decide +kernel) rfl⟩, fun h => (by cases h), by decide +kernel⟩
theorem jok_250 : jMok (yX12_isMenu, cX12_isMenu, 2, (some .boolean), T_X12_isMenu, 1, false) := ⟨by decide +kernel, by decide +kernel, jwc_all (jTs_p [1605, 1446] (by decide +kernel) (by decide +kernel)), by decide, by decide +kernel, jTs_ix 1776 (by decide +kernel) rfl, jTs_ix 118 (by decide +kernel) rfl, fun _ => ⟨jTs_ix 1775 (by decide +kernel) rfl, jTs_ix 73 (by decide +kernel) rfl⟩, fun h => (by cases h), by decide +kernel⟩
theorem jok_251 : jMok (yX12_isWhole, cX12_isWhole, 3, (some .boolean), T_X12_isWhole, 1, false) := ⟨by decide +kernel, by decide +kernel, jwc_all (jTs_p [1773, 1446, 1445] (by decide +kernel) (by decide +kernel)), by decide, by decide +kernel, jTs_ix 1804 (by decide +kernel) rfl, jTs_ix 118 (by decide +kernel) rfl, fun _ => ⟨jTs_ix 1803 (by decide +kernel) rfl, jTs_ix 77 (by decide +kernel) rfl⟩, fun h => (by cases h), by decide +kernel⟩
theorem jok_252 : jMok (yX12_lookOn, cX12_lookOn, 5, (some .int), T_X12_lookOn, 1, false) := ⟨by decide +kernel, by decide +kernel, jwc_all (jTs_p [1446, 1445, 1464, 1465, 1734, 1461, 1461, 1464, 1464, 1465, 1462, 1434, 1462, 1437, 1463, 1681, 1463, 1446] (by decide +kernel) (by decide +kernel)), by decide, by decide +kernel, jTs_ix 1784 (by decide +kernel) rfl, jTs_ix 118 (by decide +kernel) rfl, fun _ => ⟨jTs_ix 1783 (by decide +kernel) rfl, jTs_ix 75 (by decide +kernel) rfl⟩, fun h => (by cases h), by decide +kernel⟩
theorem jok_253 : jMok (yX12_lookFromNothing, cX12_lookFromNothing, 1, none, T_X12_lookFromNothing, 0, false) := ⟨by decide +kernel, by decide +kernel, jwc_all (jTs_p [1461, 1462, 1463, 1464, 1465] (by decide +kernel) (by decide +kernel)), by decide, by decide +kernel, jTs_ix 1780 (by decide +kernel) rfl, jTs_ix 118 (by decide +kernel) rfl, fun _ => ⟨jTs_ix 1779 (by decide +kernel) rfl, jTs_ix 74 (by decide +kernel) rfl⟩, fun h => (by cases h), by decide +kernel⟩
theorem jok_254 : jMok (yX12_look, cX12_look, 3, (some .int), T_X12_look, 1, false) := ⟨by decide +kernel, by decide +kernel, jwc_all (jTs_p [1451, 1773, 1777, 1781, 1450, 1461, 1785, 1462, 1785, 1463, 1785, 1446] (by decide +kernel) (by decide +kernel)), by decide, by decide +kernel, jTs_ix 1772 (by decide +kernel) rfl, jTs_ix 118 (by decide +kernel) rfl, fun _ => ⟨jTs_ix 1770 (by decide +kernel) rfl, jTs_ix 1771 (by decide +kernel) rfl⟩, fun h => (by cases h), by decide +kernel⟩
theorem jok_255 : jMok (yX12_swap, cX12_swap, 5, (some .boolean), T_X12_swap, 3, false) := ⟨by decide +kernel, by decide +kernel, jwc_all (jTs_p [1451, 1773, 1446, 1605, 1446, 1605, 1445, 1445, 1445, 1445] (by decide +kernel) (by decide +kernel)), by decide, by decide +kernel, jTs_ix 1792 (by decide +kernel) rfl, jTs_ix 118 (by decide +kernel) rfl, fun _ => ⟨jTs_ix 1790 (by decide +kernel) rfl, jTs_ix 1791 (by decide +kernel) rfl⟩, fun h => (by cases h), by decide +kernel⟩
theorem jok_256 : jMok (yX12_turn, cX12_turn, 5, (some .boolean), T_X12_turn, 1, false) := ⟨by decide +kernel, by decide +kernel, jwc_all (jTs_p [1451, 1773, 1446, 1445, 1445, 1445, 1445] (by decide +kernel) (by decide +kernel)), by decide, by decide +kernel, jTs_ix 1796 (by decide +kernel) rfl, jTs_ix 118 (by decide +kernel) rfl, fun _ => ⟨jTs_ix 1794 (by decide +kernel) rfl, jTs_ix 1795 (by decide +kernel) rfl⟩, fun h => (by cases h), by decide +kernel⟩
theorem jok_257 : jMok (yX12_joined, cX12_joined, 4, (some .int), T_X12_joined, 2, false) := ⟨by decide +kernel, by decide +kernel, jwc_all (jTs_p [1451, 1801, 1801, 1777, 1781, 1446, 1781, 1450, 1461, 1785, 1461] (by decide +kernel) (by decide +kernel)), by decide, by decide +kernel, jTs_ix 1800 (by decide +kernel) rfl, jTs_ix 118 (by decide +kernel) rfl, fun _ => ⟨jTs_ix 1798 (by decide +kernel) rfl, jTs_ix 1799 (by decide +kernel) rfl⟩, fun h => (by cases h), by decide +kernel⟩
theorem jok_258 : jMok (yX12_isLawful, cX12_isLawful, 2, (some .boolean), T_X12_isLawful, 1, false) := ⟨by decide +kernel, by decide +kernel, jwc_all (jTs_p [1777, 1781, 1446] (by decide +kernel) (by decide +kernel)), by decide, by decide +kernel, jTs_ix 1812 (by decide +kernel) rfl, jTs_ix 118 (by decide +kernel) rfl, fun _ => ⟨jTs_ix 1811 (by decide +kernel) rfl, jTs_ix 78 (by decide +kernel) rfl⟩, fun h => (by cases h), by decide +kernel⟩
theorem jok_259 : jMok (yX12_falls, cX12_falls, 9, (some .int), T_X12_falls, 3, false) := ⟨by decide +kernel, by decide +kernel, jwc_all (jTs_p [1451, 1711, 1711, 1711, 1801, 1809, 1440, 1441, 1442, 1440, 1441, 1442, 1738, 1809, 1440, 1441, 1442] (by decide +kernel) (by decide +kernel)), by decide, by decide +kernel, jTs_ix 1808 (by decide +kernel) rfl, jTs_ix 118 (by decide +kernel) rfl, fun _ => ⟨jTs_ix 1806 (by decide +kernel) rfl, jTs_ix 1807 (by decide +kernel) rfl⟩, fun h => (by cases h), by decide +kernel⟩
theorem jok_260 : jMok (yX12_place, cX12_place, 2, (some .int), T_X12_place, 2, true) := ⟨by decide +kernel, by decide +kernel, jwc_all (jTs_p [] (by decide +kernel) (by decide +kernel)), by decide, by decide +kernel, jTs_ix 1831 (by decide +kernel) rfl, jTs_ix 118 (by decide +kernel) rfl, fun h => (by cases h), fun _ => jTs_ix 1830 (by decide +kernel) rfl, by decide +kernel⟩
theorem jok_261 : jMok (yX12_all, cX12_all, 1, (some .int), T_X12_all, 0, false) := ⟨by decide +kernel, by decide +kernel, jwc_all (jTs_p [1432] (by decide +kernel) (by decide +kernel)), by decide, by decide +kernel, jTs_ix 1820 (by decide +kernel) rfl, jTs_ix 118 (by decide +kernel) rfl, fun _ => ⟨jTs_ix 1819 (by decide +kernel) rfl, jTs_ix 79 (by decide +kernel) rfl⟩, fun h => (by cases h), by decide +kernel⟩
theorem jok_262 : jMok (yX12_may, cX12_may, 4, (some .boolean), T_X12_may, 3, false) := ⟨by decide +kernel, by decide +kernel, jwc_all (jTs_p [1734] (by decide +kernel) (by decide +kernel)), by decide, by decide +kernel, jTs_ix 1838 (by decide +kernel) rfl, jTs_ix 118 (by decide +kernel) rfl, fun _ => ⟨jTs_ix 1837 (by decide +kernel) rfl, jTs_ix 82 (by decide +kernel) rfl⟩, fun h => (by cases h), by decide +kernel⟩
theorem jok_263 : jMok (yX12_isState, cX12_isState, 2, (some .boolean), T_X12_isState, 2, true) := ⟨by decide +kernel, by decide +kernel, jwc_all (jTs_p [1738] (by decide +kernel) (by decide +kernel)), by decide, by decide +kernel, jTs_ix 1834 (by decide +kernel) rfl, jTs_ix 118 (by decide +kernel) rfl, fun h => (by cases h), fun _ => jTs_ix 1833 (by decide +kernel) rfl, by decide +kernel⟩
theorem jok_264 : jMok (yX12_noEnds, cX12_noEnds, 2, none, T_X12_noEnds, 0, false) := ⟨by decide +kernel, by decide +kernel, jwc_all (jTs_p [1466] (by decide +kernel) (by decide +kernel)), by decide, by decide +kernel, jTs_ix 1842 (by decide +kernel) rfl, jTs_ix 118 (by decide +kernel) rfl, fun _ => ⟨jTs_ix 1841 (by decide +kernel) rfl, jTs_ix 83 (by decide +kernel) rfl⟩, fun h => (by cases h), by decide +kernel⟩
theorem jok_265 : jMok (yX12_findEnds, cX12_findEnds, 6, none, T_X12_findEnds, 1, false) := ⟨by decide +kernel, by decide +kernel, jwc_all (jTs_p [1817, 1432, 1832, 1466, 1829, 1432, 1738, 1835, 1467, 1829, 1467, 1829] (by decide +kernel) (by decide +kernel)), by decide, by decide +kernel, jTs_ix 1846 (by decide +kernel) rfl, jTs_ix 118 (by decide +kernel) rfl, fun _ => ⟨jTs_ix 1845 (by decide +kernel) rfl, jTs_ix 84 (by decide +kernel) rfl⟩, fun h => (by cases h), by decide +kernel⟩
theorem jok_266 : jMok (yX12_tellWay, cX12_tellWay, 7, none, T_X12_tellWay, 3, false) := ⟨by decide +kernel, by decide +kernel, jwc_all (jTs_p [1466, 1829, 1738, 1835, 1467, 1829, 1785] (by decide +kernel) (by decide +kernel)), by decide, by decide +kernel, jTs_ix 1850 (by decide +kernel) rfl, jTs_ix 118 (by decide +kernel) rfl, fun _ => ⟨jTs_ix 1849 (by decide +kernel) rfl, jTs_ix 85 (by decide +kernel) rfl⟩, fun h => (by cases h), by decide +kernel⟩
theorem jok_267 : jMok (yX12_findRows, cX12_findRows, 9, none, T_X12_findRows, 3, false) := ⟨by decide +kernel, by decide +kernel, jwc_all (jTs_p [1468, 1468, 1829, 1817, 1432, 1832, 1468, 1829, 1432, 1738, 1835, 1468, 1829] (by decide +kernel) (by decide +kernel)), by decide, by decide +kernel, jTs_ix 1828 (by decide +kernel) rfl, jTs_ix 118 (by decide +kernel) rfl, fun _ => ⟨jTs_ix 1827 (by decide +kernel) rfl, jTs_ix 81 (by decide +kernel) rfl⟩, fun h => (by cases h), by decide +kernel⟩
theorem jok_268 : jMok (yX12_longestBy, cX12_longestBy, 7, (some .int), T_X12_longestBy, 1, false) := ⟨by decide +kernel, by decide +kernel, jwc_all (jTs_p [1726, 1730, 1825, 1817, 1432, 1738, 1468, 1829, 1668, 1444, 1694, 1839, 1817, 1432, 1832, 1468, 1829, 1466, 1829, 1668, 1444, 1843, 1450, 1847] (by decide +kernel) (by decide +kernel)), by decide, by decide +kernel, jTs_ix 1824 (by decide +kernel) rfl, jTs_ix 118 (by decide +kernel) rfl, fun _ => ⟨jTs_ix 1823 (by decide +kernel) rfl, jTs_ix 80 (by decide +kernel) rfl⟩, fun h => (by cases h), by decide +kernel⟩
theorem jok_269 : jMok (yX12_longest, cX12_longest, 1, (some .int), T_X12_longest, 0, false) := ⟨by decide +kernel, by decide +kernel, jwc_all (jTs_p [1451, 1817, 1821] (by decide +kernel) (by decide +kernel)), by decide, by decide +kernel, jTs_ix 1816 (by decide +kernel) rfl, jTs_ix 118 (by decide +kernel) rfl, fun _ => ⟨jTs_ix 1814 (by decide +kernel) rfl, jTs_ix 1815 (by decide +kernel) rfl⟩, fun h => (by cases h), by decide +kernel⟩
theorem jok_270 : jMok (yX12_ways, cX12_ways, 6, (some .long), T_X12_ways, 1, false) := ⟨by decide +kernel, by decide +kernel, jwc_all (jTs_p [1451, 1605, 1855, 1726, 1730, 1817, 1825, 1817, 1432, 1832, 1668, 1444, 1468, 1829] (by decide +kernel) (by decide +kernel)), by decide, by decide +kernel, jTs_ix 1854 (by decide +kernel) rfl, jTs_ix 118 (by decide +kernel) rfl, fun _ => ⟨jTs_ix 1852 (by decide +kernel) rfl, jTs_ix 1853 (by decide +kernel) rfl⟩, fun h => (by cases h), by decide +kernel⟩
theorem jok_271 : jMok (yX12_tellFrom, cX12_tellFrom, 3, (some .boolean), T_X12_tellFrom, 2, false) := ⟨by decide +kernel, by decide +kernel, jwc_all (jTs_p [1817, 1843, 1835, 1467, 1829, 1450, 1785, 1817, 1847] (by decide +kernel) (by decide +kernel)), by decide, by decide +kernel, jTs_ix 1867 (by decide +kernel) rfl, jTs_ix 118 (by decide +kernel) rfl, fun _ => ⟨jTs_ix 1866 (by decide +kernel) rfl, jTs_ix 87 (by decide +kernel) rfl⟩, fun h => (by cases h), by decide +kernel⟩
theorem jok_272 : jMok (yX12_betweenBy, cX12_betweenBy, 7, (some .int), T_X12_betweenBy, 3, false) := ⟨by decide +kernel, by decide +kernel, jwc_all (jTs_p [1673, 1673, 1432, 1432, 1839, 1817, 1738, 1738, 1668, 1466, 1829, 1864] (by decide +kernel) (by decide +kernel)), by decide, by decide +kernel, jTs_ix 1863 (by decide +kernel) rfl, jTs_ix 118 (by decide +kernel) rfl, fun _ => ⟨jTs_ix 1862 (by decide +kernel) rfl, jTs_ix 86 (by decide +kernel) rfl⟩, fun h => (by cases h), by decide +kernel⟩
theorem jok_273 : jMok (yX12_between, cX12_between, 3, (some .int), T_X12_between, 2, false) := ⟨by decide +kernel, by decide +kernel, jwc_all (jTs_p [1451, 1860] (by decide +kernel) (by decide +kernel)), by decide, by decide +kernel, jTs_ix 1859 (by decide +kernel) rfl, jTs_ix 118 (by decide +kernel) rfl, fun _ => ⟨jTs_ix 1857 (by decide +kernel) rfl, jTs_ix 1858 (by decide +kernel) rfl⟩, fun h => (by cases h), by decide +kernel⟩
theorem jok_274 : jMok (yX12_shortest, cX12_shortest, 3, (some .int), T_X12_shortest, 2, false) := ⟨by decide +kernel, by decide +kernel, jwc_all (jTs_p [1451, 1860] (by decide +kernel) (by decide +kernel)), by decide, by decide +kernel, jTs_ix 1871 (by decide +kernel) rfl, jTs_ix 118 (by decide +kernel) rfl, fun _ => ⟨jTs_ix 1869 (by decide +kernel) rfl, jTs_ix 1870 (by decide +kernel) rfl⟩, fun h => (by cases h), by decide +kernel⟩
theorem jok_275 : jMok (yX12_bears, cX12_bears, 4, (some .int), T_X12_bears, 1, false) := ⟨by decide +kernel, by decide +kernel, jwc_all (jTs_p [1451, 1699, 1432, 1681, 1821] (by decide +kernel) (by decide +kernel)), by decide, by decide +kernel, jTs_ix 1875 (by decide +kernel) rfl, jTs_ix 118 (by decide +kernel) rfl, fun _ => ⟨jTs_ix 1873 (by decide +kernel) rfl, jTs_ix 1874 (by decide +kernel) rfl⟩, fun h => (by cases h), by decide +kernel⟩
theorem jok_276 : jMok (yX12_besides, cX12_besides, 4, (some .int), T_X12_besides, 1, false) := ⟨by decide +kernel, by decide +kernel, jwc_all (jTs_p [1432, 1741, 1440] (by decide +kernel) (by decide +kernel)), by decide, by decide +kernel, jTs_ix 1883 (by decide +kernel) rfl, jTs_ix 118 (by decide +kernel) rfl, fun _ => ⟨jTs_ix 1882 (by decide +kernel) rfl, jTs_ix 88 (by decide +kernel) rfl⟩, fun h => (by cases h), by decide +kernel⟩
theorem jok_277 : jMok (yX12_beside, cX12_beside, 2, (some .int), T_X12_beside, 1, false) := ⟨by decide +kernel, by decide +kernel, jwc_all (jTs_p [1451, 1673, 1880] (by decide +kernel) (by decide +kernel)), by decide, by decide +kernel, jTs_ix 1879 (by decide +kernel) rfl, jTs_ix 118 (by decide +kernel) rfl, fun _ => ⟨jTs_ix 1877 (by decide +kernel) rfl, jTs_ix 1878 (by decide +kernel) rfl⟩, fun h => (by cases h), by decide +kernel⟩
theorem jok_278 : jMok (yX12_parts, cX12_parts, 6, (some .int), T_X12_parts, 0, false) := ⟨by decide +kernel, by decide +kernel, jwc_all (jTs_p [1451, 1817, 1450, 1432, 1738, 1880, 1785] (by decide +kernel) (by decide +kernel)), by decide, by decide +kernel, jTs_ix 1887 (by decide +kernel) rfl, jTs_ix 118 (by decide +kernel) rfl, fun _ => ⟨jTs_ix 1885 (by decide +kernel) rfl, jTs_ix 1886 (by decide +kernel) rfl⟩, fun h => (by cases h), by decide +kernel⟩
theorem jok_279 : jMok (yX12_rare, cX12_rare, 6, (some .int), T_X12_rare, 0, false) := ⟨by decide +kernel, by decide +kernel, jwc_all (jTs_p [1451, 1432, 1432, 1433, 1738, 1668, 1668, 1450, 1785] (by decide +kernel) (by decide +kernel)), by decide, by decide +kernel, jTs_ix 1891 (by decide +kernel) rfl, jTs_ix 118 (by decide +kernel) rfl, fun _ => ⟨jTs_ix 1889 (by decide +kernel) rfl, jTs_ix 1890 (by decide +kernel) rfl⟩, fun h => (by cases h), by decide +kernel⟩
theorem jok_280 : jMok (yX12_round, cX12_round, 5, (some .int), T_X12_round, 0, false) := ⟨by decide +kernel, by decide +kernel, jwc_all (jTs_p [1451, 1432, 1432, 1839, 1817, 1432, 1738, 1668, 1741, 1440, 1466, 1829, 1864] (by decide +kernel) (by decide +kernel)), by decide, by decide +kernel, jTs_ix 1895 (by decide +kernel) rfl, jTs_ix 118 (by decide +kernel) rfl, fun _ => ⟨jTs_ix 1893 (by decide +kernel) rfl, jTs_ix 1894 (by decide +kernel) rfl⟩, fun h => (by cases h), by decide +kernel⟩
theorem jok_281 : jMok (yX12_shut, cX12_shut, 5, (some .int), T_X12_shut, 1, false) := ⟨by decide +kernel, by decide +kernel, jwc_all (jTs_p [1451, 1605, 1817, 1825, 1817, 1817, 1432, 1738, 1468, 1829, 1668] (by decide +kernel) (by decide +kernel)), by decide, by decide +kernel, jTs_ix 1899 (by decide +kernel) rfl, jTs_ix 118 (by decide +kernel) rfl, fun _ => ⟨jTs_ix 1897 (by decide +kernel) rfl, jTs_ix 1898 (by decide +kernel) rfl⟩, fun h => (by cases h), by decide +kernel⟩
theorem jok_282 : jMok (yX12_joyIn, cX12_joyIn, 5, (some .int), T_X12_joyIn, 2, false) := ⟨by decide +kernel, by decide +kernel, jwc_all (jTs_p [1432, 1738, 1689] (by decide +kernel) (by decide +kernel)), by decide, by decide +kernel, jTs_ix 1925 (by decide +kernel) rfl, jTs_ix 118 (by decide +kernel) rfl, fun _ => ⟨jTs_ix 1924 (by decide +kernel) rfl, jTs_ix 93 (by decide +kernel) rfl⟩, fun h => (by cases h), by decide +kernel⟩
theorem jok_283 : jMok (yX12_costIn, cX12_costIn, 4, (some .int), T_X12_costIn, 1, false) := ⟨by decide +kernel, by decide +kernel, jwc_all (jTs_p [1432, 1738, 1434] (by decide +kernel) (by decide +kernel)), by decide, by decide +kernel, jTs_ix 1916 (by decide +kernel) rfl, jTs_ix 118 (by decide +kernel) rfl, fun _ => ⟨jTs_ix 1915 (by decide +kernel) rfl, jTs_ix 91 (by decide +kernel) rfl⟩, fun h => (by cases h), by decide +kernel⟩
theorem jok_284 : jMok (yX12_scoreOf, cX12_scoreOf, 7, (some .int), T_X12_scoreOf, 2, false) := ⟨by decide +kernel, by decide +kernel, jwc_all (jTs_p [1913, 1913, 1921, 1437, 1922, 1693] (by decide +kernel) (by decide +kernel)), by decide, by decide +kernel, jTs_ix 1920 (by decide +kernel) rfl, jTs_ix 118 (by decide +kernel) rfl, fun _ => ⟨jTs_ix 1919 (by decide +kernel) rfl, jTs_ix 92 (by decide +kernel) rfl⟩, fun h => (by cases h), by decide +kernel⟩
theorem jok_285 : jMok (yX12_findBest, cX12_findBest, 10, (some .boolean), T_X12_findBest, 4, false) := ⟨by decide +kernel, by decide +kernel, jwc_all (jTs_p [1726, 1730, 1825, 1817, 1469, 1912, 1432, 1832, 1468, 1829, 1668, 1444, 1913, 1469, 1917, 1469, 1470, 1469, 1470, 1839, 1817, 1469, 1470, 1432, 1466, 1829, 1832, 1468, 1829, 1843] (by decide +kernel) (by decide +kernel)), by decide, by decide +kernel, jTs_ix 1911 (by decide +kernel) rfl, jTs_ix 118 (by decide +kernel) rfl, fun _ => ⟨jTs_ix 1910 (by decide +kernel) rfl, jTs_ix 90 (by decide +kernel) rfl⟩, fun h => (by cases h), by decide +kernel⟩
theorem jok_286 : jMok (yX12_tellBest, cX12_tellBest, 4, (some .int), T_X12_tellBest, 3, false) := ⟨by decide +kernel, by decide +kernel, jwc_all (jTs_p [1605, 1605, 1437, 1817, 1908, 1450, 1470, 1785, 1726, 1730, 1817, 1847] (by decide +kernel) (by decide +kernel)), by decide, by decide +kernel, jTs_ix 1907 (by decide +kernel) rfl, jTs_ix 118 (by decide +kernel) rfl, fun _ => ⟨jTs_ix 1906 (by decide +kernel) rfl, jTs_ix 89 (by decide +kernel) rfl⟩, fun h => (by cases h), by decide +kernel⟩
theorem jok_287 : jMok (yX12_best, cX12_best, 3, (some .int), T_X12_best, 2, false) := ⟨by decide +kernel, by decide +kernel, jwc_all (jTs_p [1451, 1904] (by decide +kernel) (by decide +kernel)), by decide, by decide +kernel, jTs_ix 1903 (by decide +kernel) rfl, jTs_ix 118 (by decide +kernel) rfl, fun _ => ⟨jTs_ix 1901 (by decide +kernel) rfl, jTs_ix 1902 (by decide +kernel) rfl⟩, fun h => (by cases h), by decide +kernel⟩
theorem jok_288 : jMok (yX12_fair, cX12_fair, 3, (some .int), T_X12_fair, 2, false) := ⟨by decide +kernel, by decide +kernel, jwc_all (jTs_p [1451, 1904] (by decide +kernel) (by decide +kernel)), by decide, by decide +kernel, jTs_ix 1929 (by decide +kernel) rfl, jTs_ix 118 (by decide +kernel) rfl, fun _ => ⟨jTs_ix 1927 (by decide +kernel) rfl, jTs_ix 1928 (by decide +kernel) rfl⟩, fun h => (by cases h), by decide +kernel⟩
theorem jok_289 : jMok (yX12_tellCost, cX12_tellCost, 4, (some .int), T_X12_tellCost, 3, false) := ⟨by decide +kernel, by decide +kernel, jwc_all (jTs_p [1605, 1921, 1908, 1450, 1726, 1730, 1847, 1470, 1938] (by decide +kernel) (by decide +kernel)), by decide, by decide +kernel, jTs_ix 1937 (by decide +kernel) rfl, jTs_ix 118 (by decide +kernel) rfl, fun _ => ⟨jTs_ix 1936 (by decide +kernel) rfl, jTs_ix 94 (by decide +kernel) rfl⟩, fun h => (by cases h), by decide +kernel⟩
theorem jok_290 : jMok (yX12_cheap, cX12_cheap, 6, (some .int), T_X12_cheap, 1, false) := ⟨by decide +kernel, by decide +kernel, jwc_all (jTs_p [1451, 1432, 1437, 1681, 1934] (by decide +kernel) (by decide +kernel)), by decide, by decide +kernel, jTs_ix 1933 (by decide +kernel) rfl, jTs_ix 118 (by decide +kernel) rfl, fun _ => ⟨jTs_ix 1931 (by decide +kernel) rfl, jTs_ix 1932 (by decide +kernel) rfl⟩, fun h => (by cases h), by decide +kernel⟩
theorem jok_291 : jMok (yX12_dear, cX12_dear, 2, (some .int), T_X12_dear, 1, false) := ⟨by decide +kernel, by decide +kernel, jwc_all (jTs_p [1451, 1817, 1934] (by decide +kernel) (by decide +kernel)), by decide, by decide +kernel, jTs_ix 1942 (by decide +kernel) rfl, jTs_ix 118 (by decide +kernel) rfl, fun _ => ⟨jTs_ix 1940 (by decide +kernel) rfl, jTs_ix 1941 (by decide +kernel) rfl⟩, fun h => (by cases h), by decide +kernel⟩
theorem jok_292 : jMok (yX12_findGame, cX12_findGame, 3, none, T_X12_findGame, 0, false) := ⟨by decide +kernel, by decide +kernel, jwc_all (jTs_p [1817, 1432, 1832, 1951] (by decide +kernel) (by decide +kernel)), by decide, by decide +kernel, jTs_ix 1950 (by decide +kernel) rfl, jTs_ix 118 (by decide +kernel) rfl, fun _ => ⟨jTs_ix 1949 (by decide +kernel) rfl, jTs_ix 95 (by decide +kernel) rfl⟩, fun h => (by cases h), by decide +kernel⟩
theorem jok_293 : jMok (yX12_findTurn, cX12_findTurn, 8, none, T_X12_findTurn, 2, false) := ⟨by decide +kernel, by decide +kernel, jwc_all (jTs_p [1829, 1471, 1432, 1835, 1471, 1829, 1471, 1473, 1472, 1432, 1835, 1829, 1471, 1471, 1472, 1471, 1473, 1472, 1472, 1472, 1473] (by decide +kernel) (by decide +kernel)), by decide, by decide +kernel, jTs_ix 1954 (by decide +kernel) rfl, jTs_ix 118 (by decide +kernel) rfl, fun _ => ⟨jTs_ix 1953 (by decide +kernel) rfl, jTs_ix 96 (by decide +kernel) rfl⟩, fun h => (by cases h), by decide +kernel⟩
theorem jok_294 : jMok (yX12_game, cX12_game, 2, (some .int), T_X12_game, 0, false) := ⟨by decide +kernel, by decide +kernel, jwc_all (jTs_p [1451, 1947, 1726, 1730, 1829, 1450, 1471, 1473, 1785, 1472, 1785, 1471] (by decide +kernel) (by decide +kernel)), by decide, by decide +kernel, jTs_ix 1946 (by decide +kernel) rfl, jTs_ix 118 (by decide +kernel) rfl, fun _ => ⟨jTs_ix 1944 (by decide +kernel) rfl, jTs_ix 1945 (by decide +kernel) rfl⟩, fun h => (by cases h), by decide +kernel⟩
theorem jok_295 : jMok (yX12_findGreedy, cX12_findGreedy, 13, none, T_X12_findGreedy, 2, false) := ⟨by decide +kernel, by decide +kernel, jwc_all (jTs_p [1829, 1432, 1835, 1474, 1829, 1685, 1829, 1474, 1474, 1475, 1475, 1474, 1432, 1835, 1474, 1829, 1475, 1829, 1693, 1694, 1475] (by decide +kernel) (by decide +kernel)), by decide, by decide +kernel, jTs_ix 1962 (by decide +kernel) rfl, jTs_ix 118 (by decide +kernel) rfl, fun _ => ⟨jTs_ix 1961 (by decide +kernel) rfl, jTs_ix 97 (by decide +kernel) rfl⟩, fun h => (by cases h), by decide +kernel⟩
theorem jok_296 : jMok (yX12_greedy, cX12_greedy, 3, (some .int), T_X12_greedy, 0, false) := ⟨by decide +kernel, by decide +kernel, jwc_all (jTs_p [1451, 1817, 1432, 1832, 1959, 1726, 1730, 1829, 1450, 1475, 1785, 1474] (by decide +kernel) (by decide +kernel)), by decide, by decide +kernel, jTs_ix 1958 (by decide +kernel) rfl, jTs_ix 118 (by decide +kernel) rfl, fun _ => ⟨jTs_ix 1956 (by decide +kernel) rfl, jTs_ix 1957 (by decide +kernel) rfl⟩, fun h => (by cases h), by decide +kernel⟩
theorem jok_297 : jMok (yX12_menuAt, cX12_menuAt, 3, (some .int), T_X12_menuAt, 2, false) := ⟨by decide +kernel, by decide +kernel, jwc_all (jTs_p [1445, 1668] (by decide +kernel) (by decide +kernel)), by decide, by decide +kernel, jTs_ix 1970 (by decide +kernel) rfl, jTs_ix 118 (by decide +kernel) rfl, fun _ => ⟨jTs_ix 1969 (by decide +kernel) rfl, jTs_ix 98 (by decide +kernel) rfl⟩, fun h => (by cases h), by decide +kernel⟩
theorem jok_298 : jMok (yX12_mend, cX12_mend, 9, (some .int), T_X12_mend, 2, false) := ⟨by decide +kernel, by decide +kernel, jwc_all (jTs_p [1451, 1605, 1801, 1431, 1431, 1446, 1817, 1668, 1432, 1832, 1668, 1921, 1432, 1668, 1835, 1476, 1829, 1967, 1693, 1476, 1829, 1921, 1693, 1476, 1829, 1921, 1971, 1431, 1921] (by decide +kernel) (by decide +kernel)), by decide, by decide +kernel, jTs_ix 1966 (by decide +kernel) rfl, jTs_ix 118 (by decide +kernel) rfl, fun _ => ⟨jTs_ix 1964 (by decide +kernel) rfl, jTs_ix 1965 (by decide +kernel) rfl⟩, fun h => (by cases h), by decide +kernel⟩
theorem jok_299 : jMok (yX12_tellMended, cX12_tellMended, 6, none, T_X12_tellMended, 2, false) := ⟨by decide +kernel, by decide +kernel, jwc_all (jTs_p [1450, 1668, 1835, 1476, 1829, 1967, 1476, 1829, 1785] (by decide +kernel) (by decide +kernel)), by decide, by decide +kernel, jTs_ix 1974 (by decide +kernel) rfl, jTs_ix 118 (by decide +kernel) rfl, fun _ => ⟨jTs_ix 1973 (by decide +kernel) rfl, jTs_ix 99 (by decide +kernel) rfl⟩, fun h => (by cases h), by decide +kernel⟩
theorem jok_300 : jMok (yX12_findFills, cX12_findFills, 8, (some .long), T_X12_findFills, 1, false) := ⟨by decide +kernel, by decide +kernel, jwc_all (jTs_p [1446, 1817, 1668, 1432, 1832, 1668, 1432, 1668, 1984, 1835, 1477, 1829, 1477, 1829, 1477, 1829] (by decide +kernel) (by decide +kernel)), by decide, by decide +kernel, jTs_ix 1983 (by decide +kernel) rfl, jTs_ix 118 (by decide +kernel) rfl, fun _ => ⟨jTs_ix 1982 (by decide +kernel) rfl, jTs_ix 100 (by decide +kernel) rfl⟩, fun h => (by cases h), by decide +kernel⟩
theorem jok_301 : jMok (yX12_isAsked, cX12_isAsked, 5, (some .boolean), T_X12_isAsked, 3, false) := ⟨by decide +kernel, by decide +kernel, jwc_all (jTs_p [1967] (by decide +kernel) (by decide +kernel)), by decide, by decide +kernel, jTs_ix 1987 (by decide +kernel) rfl, jTs_ix 118 (by decide +kernel) rfl, fun _ => ⟨jTs_ix 1986 (by decide +kernel) rfl, jTs_ix 101 (by decide +kernel) rfl⟩, fun h => (by cases h), by decide +kernel⟩
theorem jok_302 : jMok (yX12_fills, cX12_fills, 7, (some .long), T_X12_fills, 1, false) := ⟨by decide +kernel, by decide +kernel, jwc_all (jTs_p [1451, 1773, 1979, 1980, 1450, 1668, 1446, 1984, 1835, 1477, 1829, 1785] (by decide +kernel) (by decide +kernel)), by decide, by decide +kernel, jTs_ix 1978 (by decide +kernel) rfl, jTs_ix 118 (by decide +kernel) rfl, fun _ => ⟨jTs_ix 1976 (by decide +kernel) rfl, jTs_ix 1977 (by decide +kernel) rfl⟩, fun h => (by cases h), by decide +kernel⟩
theorem jok_303 : jMok (yX12_sure, cX12_sure, 8, (some .int), T_X12_sure, 2, false) := ⟨by decide +kernel, by decide +kernel, jwc_all (jTs_p [1451, 1773, 1446, 1605, 1980, 1445, 1432, 1445, 1980, 1445] (by decide +kernel) (by decide +kernel)), by decide, by decide +kernel, jTs_ix 1991 (by decide +kernel) rfl, jTs_ix 118 (by decide +kernel) rfl, fun _ => ⟨jTs_ix 1989 (by decide +kernel) rfl, jTs_ix 1990 (by decide +kernel) rfl⟩, fun h => (by cases h), by decide +kernel⟩
theorem jok_304 : jMok (yX12_hearths, cX12_hearths, 6, (some .int), T_X12_hearths, 1, false) := ⟨by decide +kernel, by decide +kernel, jwc_all (jTs_p [1451, 1801, 1446, 1436, 1445, 1694, 1450, 1446, 1436, 1445, 1785] (by decide +kernel) (by decide +kernel)), by decide, by decide +kernel, jTs_ix 1995 (by decide +kernel) rfl, jTs_ix 118 (by decide +kernel) rfl, fun _ => ⟨jTs_ix 1993 (by decide +kernel) rfl, jTs_ix 1994 (by decide +kernel) rfl⟩, fun h => (by cases h), by decide +kernel⟩
theorem jok_305 : jMok (yX12_late, cX12_late, 7, (some .int), T_X12_late, 2, false) := ⟨by decide +kernel, by decide +kernel, jwc_all (jTs_p [1451, 1605, 1801, 1478, 1450, 1446, 1478, 1478, 1478, 1436, 1445, 1478, 1785, 1478, 1694] (by decide +kernel) (by decide +kernel)), by decide, by decide +kernel, jTs_ix 1999 (by decide +kernel) rfl, jTs_ix 118 (by decide +kernel) rfl, fun _ => ⟨jTs_ix 1997 (by decide +kernel) rfl, jTs_ix 1998 (by decide +kernel) rfl⟩, fun h => (by cases h), by decide +kernel⟩
theorem jok_306 : jMok (yX12_ateOf, cX12_ateOf, 5, (some .int), T_X12_ateOf, 2, false) := ⟨by decide +kernel, by decide +kernel, jwc_all (jTs_p [1446, 1445, 1681, 1433, 1445] (by decide +kernel) (by decide +kernel)), by decide, by decide +kernel, jTs_ix 2007 (by decide +kernel) rfl, jTs_ix 118 (by decide +kernel) rfl, fun _ => ⟨jTs_ix 2006 (by decide +kernel) rfl, jTs_ix 102 (by decide +kernel) rfl⟩, fun h => (by cases h), by decide +kernel⟩
theorem jok_307 : jMok (yX12_poison, cX12_poison, 5, (some .int), T_X12_poison, 2, false) := ⟨by decide +kernel, by decide +kernel, jwc_all (jTs_p [1451, 1437, 1605, 1801, 1437, 1738, 2004, 2004] (by decide +kernel) (by decide +kernel)), by decide, by decide +kernel, jTs_ix 2003 (by decide +kernel) rfl, jTs_ix 118 (by decide +kernel) rfl, fun _ => ⟨jTs_ix 2001 (by decide +kernel) rfl, jTs_ix 2002 (by decide +kernel) rfl⟩, fun h => (by cases h), by decide +kernel⟩
theorem jok_308 : jMok (yX12_eats, cX12_eats, 8, (some .int), T_X12_eats, 2, false) := ⟨by decide +kernel, by decide +kernel, jwc_all (jTs_p [1451, 1699, 1801, 1446, 1445, 1681, 1689, 1450, 1785, 2004, 1785, 1785] (by decide +kernel) (by decide +kernel)), by decide, by decide +kernel, jTs_ix 2011 (by decide +kernel) rfl, jTs_ix 118 (by decide +kernel) rfl, fun _ => ⟨jTs_ix 2009 (by decide +kernel) rfl, jTs_ix 2010 (by decide +kernel) rfl⟩, fun h => (by cases h), by decide +kernel⟩
theorem jok_309 : jMok (yX12_canAll, cX12_canAll, 8, (some .boolean), T_X12_canAll, 1, false) := ⟨by decide +kernel, by decide +kernel, jwc_all (jTs_p [1435, 1433, 1738, 1441, 1431, 1479, 1738, 1442, 1435, 1479, 1738, 1741, 1440, 1442, 1435, 1435, 1479, 1479] (by decide +kernel) (by decide +kernel)), by decide, by decide +kernel, jTs_ix 2019 (by decide +kernel) rfl, jTs_ix 118 (by decide +kernel) rfl, fun _ => ⟨jTs_ix 2018 (by decide +kernel) rfl, jTs_ix 103 (by decide +kernel) rfl⟩, fun h => (by cases h), by decide +kernel⟩
theorem jok_310 : jMok (yX12_made, cX12_made, 3, (some .int), T_X12_made, 0, false) := ⟨by decide +kernel, by decide +kernel, jwc_all (jTs_p [1451, 1432, 2016, 1450, 1785, 1435, 1432, 1434, 1432, 1668, 1668, 1433, 1432, 1432, 2016, 1450, 1785, 1668] (by decide +kernel) (by decide +kernel)), by decide, by decide +kernel, jTs_ix 2015 (by decide +kernel) rfl, jTs_ix 118 (by decide +kernel) rfl, fun _ => ⟨jTs_ix 2013 (by decide +kernel) rfl, jTs_ix 2014 (by decide +kernel) rfl⟩, fun h => (by cases h), by decide +kernel⟩
theorem jok_311 : jMok (yX12_keep, cX12_keep, 4, (some .boolean), T_X12_keep, 1, false) := ⟨by decide +kernel, by decide +kernel, jwc_all (jTs_p [1451, 1605, 1482, 1483, 1480, 1481, 1443, 1481, 1444, 1481, 1431, 1481, 1440, 1481, 1441, 1481, 1442] (by decide +kernel) (by decide +kernel)), by decide, by decide +kernel, jTs_ix 2023 (by decide +kernel) rfl, jTs_ix 118 (by decide +kernel) rfl, fun _ => ⟨jTs_ix 2021 (by decide +kernel) rfl, jTs_ix 2022 (by decide +kernel) rfl⟩, fun h => (by cases h), by decide +kernel⟩
theorem jok_312 : jMok (yX12_again, cX12_again, 4, (some .boolean), T_X12_again, 1, false) := ⟨by decide +kernel, by decide +kernel, jwc_all (jTs_p [1451, 1605, 1482, 1483, 1480, 1443, 1481, 1481, 1444, 1431, 1481, 1481, 1440, 1481, 1441, 1481, 1442] (by decide +kernel) (by decide +kernel)), by decide, by decide +kernel, jTs_ix 2027 (by decide +kernel) rfl, jTs_ix 118 (by decide +kernel) rfl, fun _ => ⟨jTs_ix 2025 (by decide +kernel) rfl, jTs_ix 2026 (by decide +kernel) rfl⟩, fun h => (by cases h), by decide +kernel⟩
theorem jok_313 : jMok (yX12_count, cX12_count, 4, (some .int), T_X12_count, 1, false) := ⟨by decide +kernel, by decide +kernel, jwc_all (jTs_p [1451, 1432, 1437, 1444, 1730, 1444, 1434, 1443, 1450, 1448, 1446] (by decide +kernel) (by decide +kernel)), by decide, by decide +kernel, jTs_ix 2031 (by decide +kernel) rfl, jTs_ix 118 (by decide +kernel) rfl, fun _ => ⟨jTs_ix 2029 (by decide +kernel) rfl, jTs_ix 2030 (by decide +kernel) rfl⟩, fun h => (by cases h), by decide +kernel⟩
theorem jok_314 : jMok (yX12_row, cX12_row, 2, (some .int), T_X12_row, 1, false) := ⟨by decide +kernel, by decide +kernel, jwc_all (jTs_p [1451, 1450, 1605, 1449, 1677] (by decide +kernel) (by decide +kernel)), by decide, by decide +kernel, jTs_ix 2035 (by decide +kernel) rfl, jTs_ix 118 (by decide +kernel) rfl, fun _ => ⟨jTs_ix 2033 (by decide +kernel) rfl, jTs_ix 2034 (by decide +kernel) rfl⟩, fun h => (by cases h), by decide +kernel⟩
theorem jIs_ok_0 : ∀ q ∈ jIs_0, jMok q := List.forall_mem_cons.mpr ⟨jok_0, List.forall_mem_cons.mpr ⟨jok_1, List.forall_mem_cons.mpr ⟨jok_2, List.forall_mem_cons.mpr ⟨jok_3, List.forall_mem_cons.mpr ⟨jok_4, List.forall_mem_cons.mpr ⟨jok_5, List.forall_mem_cons.mpr ⟨jok_6, List.forall_mem_cons.mpr ⟨jok_7, List.forall_mem_cons.mpr ⟨jok_8, List.forall_mem_cons.mpr ⟨jok_9, List.forall_mem_cons.mpr ⟨jok_10, List.forall_mem_cons.mpr ⟨jok_11, List.forall_mem_cons.mpr ⟨jok_12, List.forall_mem_cons.mpr ⟨jok_13, List.forall_mem_cons.mpr ⟨jok_14, List.forall_mem_cons.mpr ⟨jok_15, List.forall_mem_cons.mpr ⟨jok_16, List.forall_mem_cons.mpr ⟨jok_17, List.forall_mem_cons.mpr ⟨jok_18, List.forall_mem_cons.mpr ⟨jok_19, List.forall_mem_cons.mpr ⟨jok_20, List.forall_mem_cons.mpr ⟨jok_21, List.forall_mem_cons.mpr ⟨jok_22, List.forall_mem_cons.mpr ⟨jok_23, List.forall_mem_cons.mpr ⟨jok_24, List.forall_mem_cons.mpr ⟨jok_25, List.forall_mem_cons.mpr ⟨jok_26, List.forall_mem_cons.mpr ⟨jok_27, List.forall_mem_cons.mpr ⟨jok_28, List.forall_mem_cons.mpr ⟨jok_29, List.forall_mem_cons.mpr ⟨jok_30, List.forall_mem_cons.mpr ⟨jok_31, List.forall_mem_cons.mpr ⟨jok_32, List.forall_mem_cons.mpr ⟨jok_33, List.forall_mem_cons.mpr ⟨jok_34, List.forall_mem_cons.mpr ⟨jok_35, List.forall_mem_cons.mpr ⟨jok_36, List.forall_mem_cons.mpr ⟨jok_37, List.forall_mem_cons.mpr ⟨jok_38, List.forall_mem_cons.mpr ⟨jok_39, fun _ h => absurd h List.not_mem_nil⟩⟩⟩⟩⟩⟩⟩⟩⟩⟩⟩⟩⟩⟩⟩⟩⟩⟩⟩⟩⟩⟩⟩⟩⟩⟩⟩⟩⟩⟩⟩⟩⟩⟩⟩⟩⟩⟩⟩⟩
theorem jIs_ok_1 : ∀ q ∈ jIs_1, jMok q := List.forall_mem_cons.mpr ⟨jok_40, List.forall_mem_cons.mpr ⟨jok_41, List.forall_mem_cons.mpr ⟨jok_42, List.forall_mem_cons.mpr ⟨jok_43, List.forall_mem_cons.mpr ⟨jok_44, List.forall_mem_cons.mpr ⟨jok_45, List.forall_mem_cons.mpr ⟨jok_46, List.forall_mem_cons.mpr ⟨jok_47, List.forall_mem_cons.mpr ⟨jok_48, List.forall_mem_cons.mpr ⟨jok_49, List.forall_mem_cons.mpr ⟨jok_50, List.forall_mem_cons.mpr ⟨jok_51, List.forall_mem_cons.mpr ⟨jok_52, List.forall_mem_cons.mpr ⟨jok_53, List.forall_mem_cons.mpr ⟨jok_54, List.forall_mem_cons.mpr ⟨jok_55, List.forall_mem_cons.mpr ⟨jok_56, List.forall_mem_cons.mpr ⟨jok_57, List.forall_mem_cons.mpr ⟨jok_58, List.forall_mem_cons.mpr ⟨jok_59, List.forall_mem_cons.mpr ⟨jok_60, List.forall_mem_cons.mpr ⟨jok_61, List.forall_mem_cons.mpr ⟨jok_62, List.forall_mem_cons.mpr ⟨jok_63, List.forall_mem_cons.mpr ⟨jok_64, List.forall_mem_cons.mpr ⟨jok_65, List.forall_mem_cons.mpr ⟨jok_66, List.forall_mem_cons.mpr ⟨jok_67, List.forall_mem_cons.mpr ⟨jok_68, List.forall_mem_cons.mpr ⟨jok_69, List.forall_mem_cons.mpr ⟨jok_70, List.forall_mem_cons.mpr ⟨jok_71, List.forall_mem_cons.mpr ⟨jok_72, List.forall_mem_cons.mpr ⟨jok_73, List.forall_mem_cons.mpr ⟨jok_74, List.forall_mem_cons.mpr ⟨jok_75, List.forall_mem_cons.mpr ⟨jok_76, List.forall_mem_cons.mpr ⟨jok_77, List.forall_mem_cons.mpr ⟨jok_78, List.forall_mem_cons.mpr ⟨jok_79, fun _ h => absurd h List.not_mem_nil⟩⟩⟩⟩⟩⟩⟩⟩⟩⟩⟩⟩⟩⟩⟩⟩⟩⟩⟩⟩⟩⟩⟩⟩⟩⟩⟩⟩⟩⟩⟩⟩⟩⟩⟩⟩⟩⟩⟩⟩
theorem jIs_ok_2 : ∀ q ∈ jIs_2, jMok q := List.forall_mem_cons.mpr ⟨jok_80, List.forall_mem_cons.mpr ⟨jok_81, List.forall_mem_cons.mpr ⟨jok_82, List.forall_mem_cons.mpr ⟨jok_83, List.forall_mem_cons.mpr ⟨jok_84, List.forall_mem_cons.mpr ⟨jok_85, List.forall_mem_cons.mpr ⟨jok_86, List.forall_mem_cons.mpr ⟨jok_87, List.forall_mem_cons.mpr ⟨jok_88, List.forall_mem_cons.mpr ⟨jok_89, List.forall_mem_cons.mpr ⟨jok_90, List.forall_mem_cons.mpr ⟨jok_91, List.forall_mem_cons.mpr ⟨jok_92, List.forall_mem_cons.mpr ⟨jok_93, List.forall_mem_cons.mpr ⟨jok_94, List.forall_mem_cons.mpr ⟨jok_95, List.forall_mem_cons.mpr ⟨jok_96, List.forall_mem_cons.mpr ⟨jok_97, List.forall_mem_cons.mpr ⟨jok_98, List.forall_mem_cons.mpr ⟨jok_99, List.forall_mem_cons.mpr ⟨jok_100, List.forall_mem_cons.mpr ⟨jok_101, List.forall_mem_cons.mpr ⟨jok_102, List.forall_mem_cons.mpr ⟨jok_103, List.forall_mem_cons.mpr ⟨jok_104, List.forall_mem_cons.mpr ⟨jok_105, List.forall_mem_cons.mpr ⟨jok_106, List.forall_mem_cons.mpr ⟨jok_107, List.forall_mem_cons.mpr ⟨jok_108, List.forall_mem_cons.mpr ⟨jok_109, List.forall_mem_cons.mpr ⟨jok_110, List.forall_mem_cons.mpr ⟨jok_111, List.forall_mem_cons.mpr ⟨jok_112, List.forall_mem_cons.mpr ⟨jok_113, List.forall_mem_cons.mpr ⟨jok_114, List.forall_mem_cons.mpr ⟨jok_115, List.forall_mem_cons.mpr ⟨jok_116, List.forall_mem_cons.mpr ⟨jok_117, List.forall_mem_cons.mpr ⟨jok_118, List.forall_mem_cons.mpr ⟨jok_119, fun _ h => absurd h List.not_mem_nil⟩⟩⟩⟩⟩⟩⟩⟩⟩⟩⟩⟩⟩⟩⟩⟩⟩⟩⟩⟩⟩⟩⟩⟩⟩⟩⟩⟩⟩⟩⟩⟩⟩⟩⟩⟩⟩⟩⟩⟩
theorem jIs_ok_3 : ∀ q ∈ jIs_3, jMok q := List.forall_mem_cons.mpr ⟨jok_120, List.forall_mem_cons.mpr ⟨jok_121, List.forall_mem_cons.mpr ⟨jok_122, List.forall_mem_cons.mpr ⟨jok_123, List.forall_mem_cons.mpr ⟨jok_124, List.forall_mem_cons.mpr ⟨jok_125, List.forall_mem_cons.mpr ⟨jok_126, List.forall_mem_cons.mpr ⟨jok_127, List.forall_mem_cons.mpr ⟨jok_128, List.forall_mem_cons.mpr ⟨jok_129, List.forall_mem_cons.mpr ⟨jok_130, List.forall_mem_cons.mpr ⟨jok_131, List.forall_mem_cons.mpr ⟨jok_132, List.forall_mem_cons.mpr ⟨jok_133, List.forall_mem_cons.mpr ⟨jok_134, List.forall_mem_cons.mpr ⟨jok_135, List.forall_mem_cons.mpr ⟨jok_136, List.forall_mem_cons.mpr ⟨jok_137, List.forall_mem_cons.mpr ⟨jok_138, List.forall_mem_cons.mpr ⟨jok_139, List.forall_mem_cons.mpr ⟨jok_140, List.forall_mem_cons.mpr ⟨jok_141, List.forall_mem_cons.mpr ⟨jok_142, List.forall_mem_cons.mpr ⟨jok_143, List.forall_mem_cons.mpr ⟨jok_144, List.forall_mem_cons.mpr ⟨jok_145, List.forall_mem_cons.mpr ⟨jok_146, List.forall_mem_cons.mpr ⟨jok_147, List.forall_mem_cons.mpr ⟨jok_148, List.forall_mem_cons.mpr ⟨jok_149, List.forall_mem_cons.mpr ⟨jok_150, List.forall_mem_cons.mpr ⟨jok_151, List.forall_mem_cons.mpr ⟨jok_152, List.forall_mem_cons.mpr ⟨jok_153, List.forall_mem_cons.mpr ⟨jok_154, List.forall_mem_cons.mpr ⟨jok_155, List.forall_mem_cons.mpr ⟨jok_156, List.forall_mem_cons.mpr ⟨jok_157, List.forall_mem_cons.mpr ⟨jok_158, List.forall_mem_cons.mpr ⟨jok_159, fun _ h => absurd h List.not_mem_nil⟩⟩⟩⟩⟩⟩⟩⟩⟩⟩⟩⟩⟩⟩⟩⟩⟩⟩⟩⟩⟩⟩⟩⟩⟩⟩⟩⟩⟩⟩⟩⟩⟩⟩⟩⟩⟩⟩⟩⟩
theorem jIs_ok_4 : ∀ q ∈ jIs_4, jMok q := List.forall_mem_cons.mpr ⟨jok_160, List.forall_mem_cons.mpr ⟨jok_161, List.forall_mem_cons.mpr ⟨jok_162, List.forall_mem_cons.mpr ⟨jok_163, List.forall_mem_cons.mpr ⟨jok_164, List.forall_mem_cons.mpr ⟨jok_165, List.forall_mem_cons.mpr ⟨jok_166, List.forall_mem_cons.mpr ⟨jok_167, List.forall_mem_cons.mpr ⟨jok_168, List.forall_mem_cons.mpr ⟨jok_169, List.forall_mem_cons.mpr ⟨jok_170, List.forall_mem_cons.mpr ⟨jok_171, List.forall_mem_cons.mpr ⟨jok_172, List.forall_mem_cons.mpr ⟨jok_173, List.forall_mem_cons.mpr ⟨jok_174, List.forall_mem_cons.mpr ⟨jok_175, List.forall_mem_cons.mpr ⟨jok_176, List.forall_mem_cons.mpr ⟨jok_177, List.forall_mem_cons.mpr ⟨jok_178, List.forall_mem_cons.mpr ⟨jok_179, List.forall_mem_cons.mpr ⟨jok_180, List.forall_mem_cons.mpr ⟨jok_181, List.forall_mem_cons.mpr ⟨jok_182, List.forall_mem_cons.mpr ⟨jok_183, List.forall_mem_cons.mpr ⟨jok_184, List.forall_mem_cons.mpr ⟨jok_185, List.forall_mem_cons.mpr ⟨jok_186, List.forall_mem_cons.mpr ⟨jok_187, List.forall_mem_cons.mpr ⟨jok_188, List.forall_mem_cons.mpr ⟨jok_189, List.forall_mem_cons.mpr ⟨jok_190, List.forall_mem_cons.mpr ⟨jok_191, List.forall_mem_cons.mpr ⟨jok_192, List.forall_mem_cons.mpr ⟨jok_193, List.forall_mem_cons.mpr ⟨jok_194, List.forall_mem_cons.mpr ⟨jok_195, List.forall_mem_cons.mpr ⟨jok_196, List.forall_mem_cons.mpr ⟨jok_197, List.forall_mem_cons.mpr ⟨jok_198, List.forall_mem_cons.mpr ⟨jok_199, fun _ h => absurd h List.not_mem_nil⟩⟩⟩⟩⟩⟩⟩⟩⟩⟩⟩⟩⟩⟩⟩⟩⟩⟩⟩⟩⟩⟩⟩⟩⟩⟩⟩⟩⟩⟩⟩⟩⟩⟩⟩⟩⟩⟩⟩⟩
theorem jIs_ok_5 : ∀ q ∈ jIs_5, jMok q := List.forall_mem_cons.mpr ⟨jok_200, List.forall_mem_cons.mpr ⟨jok_201, List.forall_mem_cons.mpr ⟨jok_202, List.forall_mem_cons.mpr ⟨jok_203, List.forall_mem_cons.mpr ⟨jok_204, List.forall_mem_cons.mpr ⟨jok_205, List.forall_mem_cons.mpr ⟨jok_206, List.forall_mem_cons.mpr ⟨jok_207, List.forall_mem_cons.mpr ⟨jok_208, List.forall_mem_cons.mpr ⟨jok_209, List.forall_mem_cons.mpr ⟨jok_210, List.forall_mem_cons.mpr ⟨jok_211, List.forall_mem_cons.mpr ⟨jok_212, List.forall_mem_cons.mpr ⟨jok_213, List.forall_mem_cons.mpr ⟨jok_214, List.forall_mem_cons.mpr ⟨jok_215, List.forall_mem_cons.mpr ⟨jok_216, List.forall_mem_cons.mpr ⟨jok_217, List.forall_mem_cons.mpr ⟨jok_218, List.forall_mem_cons.mpr ⟨jok_219, List.forall_mem_cons.mpr ⟨jok_220, List.forall_mem_cons.mpr ⟨jok_221, List.forall_mem_cons.mpr ⟨jok_222, List.forall_mem_cons.mpr ⟨jok_223, List.forall_mem_cons.mpr ⟨jok_224, List.forall_mem_cons.mpr ⟨jok_225, List.forall_mem_cons.mpr ⟨jok_226, List.forall_mem_cons.mpr ⟨jok_227, List.forall_mem_cons.mpr ⟨jok_228, List.forall_mem_cons.mpr ⟨jok_229, List.forall_mem_cons.mpr ⟨jok_230, List.forall_mem_cons.mpr ⟨jok_231, List.forall_mem_cons.mpr ⟨jok_232, List.forall_mem_cons.mpr ⟨jok_233, List.forall_mem_cons.mpr ⟨jok_234, List.forall_mem_cons.mpr ⟨jok_235, List.forall_mem_cons.mpr ⟨jok_236, List.forall_mem_cons.mpr ⟨jok_237, List.forall_mem_cons.mpr ⟨jok_238, List.forall_mem_cons.mpr ⟨jok_239, fun _ h => absurd h List.not_mem_nil⟩⟩⟩⟩⟩⟩⟩⟩⟩⟩⟩⟩⟩⟩⟩⟩⟩⟩⟩⟩⟩⟩⟩⟩⟩⟩⟩⟩⟩⟩⟩⟩⟩⟩⟩⟩⟩⟩⟩⟩
theorem jIs_ok_6 : ∀ q ∈ jIs_6, jMok q := List.forall_mem_cons.mpr ⟨jok_240, List.forall_mem_cons.mpr ⟨jok_241, List.forall_mem_cons.mpr ⟨jok_242, List.forall_mem_cons.mpr ⟨jok_243, List.forall_mem_cons.mpr ⟨jok_244, List.forall_mem_cons.mpr ⟨jok_245, List.forall_mem_cons.mpr ⟨jok_246, List.forall_mem_cons.mpr ⟨jok_247, List.forall_mem_cons.mpr ⟨jok_248, List.forall_mem_cons.mpr ⟨jok_249, List.forall_mem_cons.mpr ⟨jok_250, List.forall_mem_cons.mpr ⟨jok_251, List.forall_mem_cons.mpr ⟨jok_252, List.forall_mem_cons.mpr ⟨jok_253, List.forall_mem_cons.mpr ⟨jok_254, List.forall_mem_cons.mpr ⟨jok_255, List.forall_mem_cons.mpr ⟨jok_256, List.forall_mem_cons.mpr ⟨jok_257, List.forall_mem_cons.mpr ⟨jok_258, List.forall_mem_cons.mpr ⟨jok_259, List.forall_mem_cons.mpr ⟨jok_260, List.forall_mem_cons.mpr ⟨jok_261, List.forall_mem_cons.mpr ⟨jok_262, List.forall_mem_cons.mpr ⟨jok_263, List.forall_mem_cons.mpr ⟨jok_264, List.forall_mem_cons.mpr ⟨jok_265, List.forall_mem_cons.mpr ⟨jok_266, List.forall_mem_cons.mpr ⟨jok_267, List.forall_mem_cons.mpr ⟨jok_268, List.forall_mem_cons.mpr ⟨jok_269, List.forall_mem_cons.mpr ⟨jok_270, List.forall_mem_cons.mpr ⟨jok_271, List.forall_mem_cons.mpr ⟨jok_272, List.forall_mem_cons.mpr ⟨jok_273, List.forall_mem_cons.mpr ⟨jok_274, List.forall_mem_cons.mpr ⟨jok_275, List.forall_mem_cons.mpr ⟨jok_276, List.forall_mem_cons.mpr ⟨jok_277, List.forall_mem_cons.mpr ⟨jok_278, List.forall_mem_cons.mpr ⟨jok_279, fun _ h => absurd h List.not_mem_nil⟩⟩⟩⟩⟩⟩⟩⟩⟩⟩⟩⟩⟩⟩⟩⟩⟩⟩⟩⟩⟩⟩⟩⟩⟩⟩⟩⟩⟩⟩⟩⟩⟩⟩⟩⟩⟩⟩⟩⟩
theorem jIs_ok_7 : ∀ q ∈ jIs_7, jMok q := List.forall_mem_cons.mpr ⟨jok_280, List.forall_mem_cons.mpr ⟨jok_281, List.forall_mem_cons.mpr ⟨jok_282, List.forall_mem_cons.mpr ⟨jok_283, List.forall_mem_cons.mpr ⟨jok_284, List.forall_mem_cons.mpr ⟨jok_285, List.forall_mem_cons.mpr ⟨jok_286, List.forall_mem_cons.mpr ⟨jok_287, List.forall_mem_cons.mpr ⟨jok_288, List.forall_mem_cons.mpr ⟨jok_289, List.forall_mem_cons.mpr ⟨jok_290, List.forall_mem_cons.mpr ⟨jok_291, List.forall_mem_cons.mpr ⟨jok_292, List.forall_mem_cons.mpr ⟨jok_293, List.forall_mem_cons.mpr ⟨jok_294, List.forall_mem_cons.mpr ⟨jok_295, List.forall_mem_cons.mpr ⟨jok_296, List.forall_mem_cons.mpr ⟨jok_297, List.forall_mem_cons.mpr ⟨jok_298, List.forall_mem_cons.mpr ⟨jok_299, List.forall_mem_cons.mpr ⟨jok_300, List.forall_mem_cons.mpr ⟨jok_301, List.forall_mem_cons.mpr ⟨jok_302, List.forall_mem_cons.mpr ⟨jok_303, List.forall_mem_cons.mpr ⟨jok_304, List.forall_mem_cons.mpr ⟨jok_305, List.forall_mem_cons.mpr ⟨jok_306, List.forall_mem_cons.mpr ⟨jok_307, List.forall_mem_cons.mpr ⟨jok_308, List.forall_mem_cons.mpr ⟨jok_309, List.forall_mem_cons.mpr ⟨jok_310, List.forall_mem_cons.mpr ⟨jok_311, List.forall_mem_cons.mpr ⟨jok_312, List.forall_mem_cons.mpr ⟨jok_313, List.forall_mem_cons.mpr ⟨jok_314, fun _ h => absurd h List.not_mem_nil⟩⟩⟩⟩⟩⟩⟩⟩⟩⟩⟩⟩⟩⟩⟩⟩⟩⟩⟩⟩⟩⟩⟩⟩⟩⟩⟩⟩⟩⟩⟩⟩⟩⟩⟩
theorem jIs_ok : ∀ q ∈ jIs, jMok q := List.forall_mem_append.mpr ⟨jIs_ok_0, List.forall_mem_append.mpr ⟨jIs_ok_1, List.forall_mem_append.mpr ⟨jIs_ok_2, List.forall_mem_append.mpr ⟨jIs_ok_3, List.forall_mem_append.mpr ⟨jIs_ok_4, List.forall_mem_append.mpr ⟨jIs_ok_5, List.forall_mem_append.mpr ⟨jIs_ok_6, jIs_ok_7⟩⟩⟩⟩⟩⟩⟩
end
