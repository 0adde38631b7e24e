section
/-- a private method of a class that the tables say can be made, by its rows of tables_1 -/
def lw_okq (q : MethodName × Nat) : Prop := (q.1.cls ≠ "java/lang/invoke/MethodHandle" ∧ q.1.cls ≠ "java/lang/invoke/VarHandle") ∧ Cond.instantiable q.1.cls q.2 ∈ tables_1 ∧ Cond.privateMethod q.1 ∈ tables_1 ∧ Cond.instanceMethod q.1 ∈ tables_1
theorem lw_p0 : lw_okq (⟨"TypedAmounts", "readLine", "(ILTypedAmounts$Land;I)I"⟩, 4) := ⟨⟨by decide +kernel, by decide +kernel⟩, List.mem_of_getElem? (i := 17) (by decide +kernel), List.mem_of_getElem? (i := 250) (by decide +kernel), List.mem_of_getElem? (i := 251) (by decide +kernel)⟩
theorem lw_p1 : lw_okq (⟨"TypedAmounts$Reader", "readDay", "(LTypedAmounts$Land;)V"⟩, 9) := ⟨⟨by decide +kernel, by decide +kernel⟩, List.mem_of_getElem? (i := 89) (by decide +kernel), List.mem_of_getElem? (i := 262) (by decide +kernel), List.mem_of_getElem? (i := 263) (by decide +kernel)⟩
theorem lw_p2 : lw_okq (⟨"TypedAmounts$Reader", "need", "(I)V"⟩, 9) := ⟨⟨by decide +kernel, by decide +kernel⟩, List.mem_of_getElem? (i := 89) (by decide +kernel), List.mem_of_getElem? (i := 270) (by decide +kernel), List.mem_of_getElem? (i := 271) (by decide +kernel)⟩
theorem lw_p3 : lw_okq (⟨"TypedAmounts$Reader", "passes", "(I)Z"⟩, 9) := ⟨⟨by decide +kernel, by decide +kernel⟩, List.mem_of_getElem? (i := 89) (by decide +kernel), List.mem_of_getElem? (i := 274) (by decide +kernel), List.mem_of_getElem? (i := 275) (by decide +kernel)⟩
theorem lw_p4 : lw_okq (⟨"TypedAmounts$Reader", "lack", "()V"⟩, 9) := ⟨⟨by decide +kernel, by decide +kernel⟩, List.mem_of_getElem? (i := 89) (by decide +kernel), List.mem_of_getElem? (i := 278) (by decide +kernel), List.mem_of_getElem? (i := 279) (by decide +kernel)⟩
theorem lw_p5 : lw_okq (⟨"TypedAmounts$Reader", "needPart", "(I)V"⟩, 9) := ⟨⟨by decide +kernel, by decide +kernel⟩, List.mem_of_getElem? (i := 89) (by decide +kernel), List.mem_of_getElem? (i := 286) (by decide +kernel), List.mem_of_getElem? (i := 287) (by decide +kernel)⟩
theorem lw_p6 : lw_okq (⟨"TypedAmounts$Reader", "passDigits", "(I)I"⟩, 9) := ⟨⟨by decide +kernel, by decide +kernel⟩, List.mem_of_getElem? (i := 89) (by decide +kernel), List.mem_of_getElem? (i := 290) (by decide +kernel), List.mem_of_getElem? (i := 291) (by decide +kernel)⟩
theorem lw_p7 : lw_okq (⟨"TypedAmounts$Reader", "needEnd", "()V"⟩, 9) := ⟨⟨by decide +kernel, by decide +kernel⟩, List.mem_of_getElem? (i := 89) (by decide +kernel), List.mem_of_getElem? (i := 298) (by decide +kernel), List.mem_of_getElem? (i := 299) (by decide +kernel)⟩
theorem lw_p8 : lw_okq (⟨"TypedAmounts$Reader", "couldBeDay", "()Z"⟩, 9) := ⟨⟨by decide +kernel, by decide +kernel⟩, List.mem_of_getElem? (i := 89) (by decide +kernel), List.mem_of_getElem? (i := 319) (by decide +kernel), List.mem_of_getElem? (i := 320) (by decide +kernel)⟩
theorem lw_p9 : lw_okq (⟨"TypedAmounts$Reader", "leastDay", "()I"⟩, 9) := ⟨⟨by decide +kernel, by decide +kernel⟩, List.mem_of_getElem? (i := 89) (by decide +kernel), List.mem_of_getElem? (i := 324) (by decide +kernel), List.mem_of_getElem? (i := 325) (by decide +kernel)⟩
theorem lw_p10 : lw_okq (⟨"TypedAmounts$Reader", "couldBeMonth", "(I)Z"⟩, 9) := ⟨⟨by decide +kernel, by decide +kernel⟩, List.mem_of_getElem? (i := 89) (by decide +kernel), List.mem_of_getElem? (i := 328) (by decide +kernel), List.mem_of_getElem? (i := 329) (by decide +kernel)⟩
theorem lw_p11 : lw_okq (⟨"TypedAmounts$Reader", "readAmount", "(LTypedAmounts$Land;Z)V"⟩, 9) := ⟨⟨by decide +kernel, by decide +kernel⟩, List.mem_of_getElem? (i := 89) (by decide +kernel), List.mem_of_getElem? (i := 333) (by decide +kernel), List.mem_of_getElem? (i := 334) (by decide +kernel)⟩
theorem lw_p12 : lw_okq (⟨"TypedAmounts$Reader", "needMark", "(LTypedAmounts$Land;)V"⟩, 9) := ⟨⟨by decide +kernel, by decide +kernel⟩, List.mem_of_getElem? (i := 89) (by decide +kernel), List.mem_of_getElem? (i := 341) (by decide +kernel), List.mem_of_getElem? (i := 342) (by decide +kernel)⟩
theorem lw_p13 : lw_okq (⟨"TypedAmounts$Reader", "needFirstDigits", "()I"⟩, 9) := ⟨⟨by decide +kernel, by decide +kernel⟩, List.mem_of_getElem? (i := 89) (by decide +kernel), List.mem_of_getElem? (i := 350) (by decide +kernel), List.mem_of_getElem? (i := 351) (by decide +kernel)⟩
theorem lw_p14 : lw_okq (⟨"TypedAmounts$Reader", "needGroups", "(LTypedAmounts$Land;I)V"⟩, 9) := ⟨⟨by decide +kernel, by decide +kernel⟩, List.mem_of_getElem? (i := 89) (by decide +kernel), List.mem_of_getElem? (i := 354) (by decide +kernel), List.mem_of_getElem? (i := 355) (by decide +kernel)⟩
theorem lw_p15 : lw_okq (⟨"TypedAmounts$Reader", "isGroupNext", "(I)Z"⟩, 9) := ⟨⟨by decide +kernel, by decide +kernel⟩, List.mem_of_getElem? (i := 89) (by decide +kernel), List.mem_of_getElem? (i := 358) (by decide +kernel), List.mem_of_getElem? (i := 359) (by decide +kernel)⟩
def lw_privs_1 : List (MethodName × Nat) := [(⟨"TypedAmounts", "readLine", "(ILTypedAmounts$Land;I)I"⟩, 4), (⟨"TypedAmounts$Reader", "readDay", "(LTypedAmounts$Land;)V"⟩, 9), (⟨"TypedAmounts$Reader", "need", "(I)V"⟩, 9), (⟨"TypedAmounts$Reader", "passes", "(I)Z"⟩, 9), (⟨"TypedAmounts$Reader", "lack", "()V"⟩, 9), (⟨"TypedAmounts$Reader", "needPart", "(I)V"⟩, 9), (⟨"TypedAmounts$Reader", "passDigits", "(I)I"⟩, 9), (⟨"TypedAmounts$Reader", "needEnd", "()V"⟩, 9), (⟨"TypedAmounts$Reader", "couldBeDay", "()Z"⟩, 9), (⟨"TypedAmounts$Reader", "leastDay", "()I"⟩, 9), (⟨"TypedAmounts$Reader", "couldBeMonth", "(I)Z"⟩, 9), (⟨"TypedAmounts$Reader", "readAmount", "(LTypedAmounts$Land;Z)V"⟩, 9), (⟨"TypedAmounts$Reader", "needMark", "(LTypedAmounts$Land;)V"⟩, 9), (⟨"TypedAmounts$Reader", "needFirstDigits", "()I"⟩, 9), (⟨"TypedAmounts$Reader", "needGroups", "(LTypedAmounts$Land;I)V"⟩, 9), (⟨"TypedAmounts$Reader", "isGroupNext", "(I)Z"⟩, 9)]
theorem lw_r1 : ∀ q ∈ lw_privs_1, lw_okq q := List.forall_mem_cons.mpr ⟨lw_p0, List.forall_mem_cons.mpr ⟨lw_p1, List.forall_mem_cons.mpr ⟨lw_p2, List.forall_mem_cons.mpr ⟨lw_p3, List.forall_mem_cons.mpr ⟨lw_p4, List.forall_mem_cons.mpr ⟨lw_p5, List.forall_mem_cons.mpr ⟨lw_p6, List.forall_mem_cons.mpr ⟨lw_p7, List.forall_mem_cons.mpr ⟨lw_p8, List.forall_mem_cons.mpr ⟨lw_p9, List.forall_mem_cons.mpr ⟨lw_p10, List.forall_mem_cons.mpr ⟨lw_p11, List.forall_mem_cons.mpr ⟨lw_p12, List.forall_mem_cons.mpr ⟨lw_p13, List.forall_mem_cons.mpr ⟨lw_p14, List.forall_mem_cons.mpr ⟨lw_p15, fun _ h => absurd h List.not_mem_nil⟩⟩⟩⟩⟩⟩⟩⟩⟩⟩⟩⟩⟩⟩⟩⟩
theorem lw_p16 : lw_okq (⟨"TypedAmounts$Reader", "passFraction", "(I)V"⟩, 9) := ⟨⟨by decide +kernel, by decide +kernel⟩, List.mem_of_getElem? (i := 89) (by decide +kernel), List.mem_of_getElem? (i := 362) (by decide +kernel), List.mem_of_getElem? (i := 363) (by decide +kernel)⟩
theorem lw_p17 : lw_okq (⟨"TypedAmounts", "countedValue", "(II)J"⟩, 4) := ⟨⟨by decide +kernel, by decide +kernel⟩, List.mem_of_getElem? (i := 17) (by decide +kernel), List.mem_of_getElem? (i := 370) (by decide +kernel), List.mem_of_getElem? (i := 371) (by decide +kernel)⟩
theorem lw_p18 : lw_okq (⟨"TypedAmounts", "rowValue", "(ILTypedAmounts$Land;I)J"⟩, 4) := ⟨⟨by decide +kernel, by decide +kernel⟩, List.mem_of_getElem? (i := 17) (by decide +kernel), List.mem_of_getElem? (i := 623) (by decide +kernel), List.mem_of_getElem? (i := 624) (by decide +kernel)⟩
theorem lw_p19 : lw_okq (⟨"TypedAmountsModel", "isLand", "(I)Z"⟩, 29) := ⟨⟨by decide +kernel, by decide +kernel⟩, List.mem_of_getElem? (i := 657) (by decide +kernel), List.mem_of_getElem? (i := 781) (by decide +kernel), List.mem_of_getElem? (i := 782) (by decide +kernel)⟩
theorem lw_p20 : lw_okq (⟨"TypedAmountsModel", "lineText", "()V"⟩, 29) := ⟨⟨by decide +kernel, by decide +kernel⟩, List.mem_of_getElem? (i := 657) (by decide +kernel), List.mem_of_getElem? (i := 785) (by decide +kernel), List.mem_of_getElem? (i := 786) (by decide +kernel)⟩
theorem lw_p21 : lw_okq (⟨"TypedAmountsModel", "countsNow", "(II)Z"⟩, 29) := ⟨⟨by decide +kernel, by decide +kernel⟩, List.mem_of_getElem? (i := 657) (by decide +kernel), List.mem_of_getElem? (i := 789) (by decide +kernel), List.mem_of_getElem? (i := 790) (by decide +kernel)⟩
theorem lw_p22 : lw_okq (⟨"TypedAmountsModel", "held", "(III)I"⟩, 29) := ⟨⟨by decide +kernel, by decide +kernel⟩, List.mem_of_getElem? (i := 657) (by decide +kernel), List.mem_of_getElem? (i := 793) (by decide +kernel), List.mem_of_getElem? (i := 794) (by decide +kernel)⟩
theorem lw_p23 : lw_okq (⟨"TypedAmountsModel", "amount", "(III)I"⟩, 29) := ⟨⟨by decide +kernel, by decide +kernel⟩, List.mem_of_getElem? (i := 657) (by decide +kernel), List.mem_of_getElem? (i := 797) (by decide +kernel), List.mem_of_getElem? (i := 798) (by decide +kernel)⟩
theorem lw_p24 : lw_okq (⟨"TypedAmountsModel", "putAmount", "(IIIIZI)V"⟩, 29) := ⟨⟨by decide +kernel, by decide +kernel⟩, List.mem_of_getElem? (i := 657) (by decide +kernel), List.mem_of_getElem? (i := 801) (by decide +kernel), List.mem_of_getElem? (i := 802) (by decide +kernel)⟩
theorem lw_p25 : lw_okq (⟨"TypedAmountsModel", "put", "(II)V"⟩, 29) := ⟨⟨by decide +kernel, by decide +kernel⟩, List.mem_of_getElem? (i := 657) (by decide +kernel), List.mem_of_getElem? (i := 805) (by decide +kernel), List.mem_of_getElem? (i := 806) (by decide +kernel)⟩
theorem lw_p26 : lw_okq (⟨"TypedAmountsModel", "putMark", "(I)V"⟩, 29) := ⟨⟨by decide +kernel, by decide +kernel⟩, List.mem_of_getElem? (i := 657) (by decide +kernel), List.mem_of_getElem? (i := 809) (by decide +kernel), List.mem_of_getElem? (i := 810) (by decide +kernel)⟩
theorem lw_p27 : lw_okq (⟨"TypedAmountsModel", "putNumber", "(IIIZ)V"⟩, 29) := ⟨⟨by decide +kernel, by decide +kernel⟩, List.mem_of_getElem? (i := 657) (by decide +kernel), List.mem_of_getElem? (i := 813) (by decide +kernel), List.mem_of_getElem? (i := 814) (by decide +kernel)⟩
theorem lw_p28 : lw_okq (⟨"TypedAmountsModel", "isSignBehind", "(II)Z"⟩, 29) := ⟨⟨by decide +kernel, by decide +kernel⟩, List.mem_of_getElem? (i := 657) (by decide +kernel), List.mem_of_getElem? (i := 817) (by decide +kernel), List.mem_of_getElem? (i := 818) (by decide +kernel)⟩
theorem lw_p29 : lw_okq (⟨"TypedAmountsModel", "matched", "(I)I"⟩, 29) := ⟨⟨by decide +kernel, by decide +kernel⟩, List.mem_of_getElem? (i := 657) (by decide +kernel), List.mem_of_getElem? (i := 821) (by decide +kernel), List.mem_of_getElem? (i := 822) (by decide +kernel)⟩
theorem lw_p30 : lw_okq (⟨"TypedAmountsModel", "findValue", "(Z)V"⟩, 29) := ⟨⟨by decide +kernel, by decide +kernel⟩, List.mem_of_getElem? (i := 657) (by decide +kernel), List.mem_of_getElem? (i := 825) (by decide +kernel), List.mem_of_getElem? (i := 826) (by decide +kernel)⟩
theorem lw_p31 : lw_okq (⟨"TypedAmountsModel", "someDay", "(IIII)I"⟩, 29) := ⟨⟨by decide +kernel, by decide +kernel⟩, List.mem_of_getElem? (i := 657) (by decide +kernel), List.mem_of_getElem? (i := 831) (by decide +kernel), List.mem_of_getElem? (i := 832) (by decide +kernel)⟩
def lw_privs_2 : List (MethodName × Nat) := [(⟨"TypedAmounts$Reader", "passFraction", "(I)V"⟩, 9), (⟨"TypedAmounts", "countedValue", "(II)J"⟩, 4), (⟨"TypedAmounts", "rowValue", "(ILTypedAmounts$Land;I)J"⟩, 4), (⟨"TypedAmountsModel", "isLand", "(I)Z"⟩, 29), (⟨"TypedAmountsModel", "lineText", "()V"⟩, 29), (⟨"TypedAmountsModel", "countsNow", "(II)Z"⟩, 29), (⟨"TypedAmountsModel", "held", "(III)I"⟩, 29), (⟨"TypedAmountsModel", "amount", "(III)I"⟩, 29), (⟨"TypedAmountsModel", "putAmount", "(IIIIZI)V"⟩, 29), (⟨"TypedAmountsModel", "put", "(II)V"⟩, 29), (⟨"TypedAmountsModel", "putMark", "(I)V"⟩, 29), (⟨"TypedAmountsModel", "putNumber", "(IIIZ)V"⟩, 29), (⟨"TypedAmountsModel", "isSignBehind", "(II)Z"⟩, 29), (⟨"TypedAmountsModel", "matched", "(I)I"⟩, 29), (⟨"TypedAmountsModel", "findValue", "(Z)V"⟩, 29), (⟨"TypedAmountsModel", "someDay", "(IIII)I"⟩, 29)]
theorem lw_r2 : ∀ q ∈ lw_privs_2, lw_okq q := List.forall_mem_cons.mpr ⟨lw_p16, List.forall_mem_cons.mpr ⟨lw_p17, List.forall_mem_cons.mpr ⟨lw_p18, List.forall_mem_cons.mpr ⟨lw_p19, List.forall_mem_cons.mpr ⟨lw_p20, List.forall_mem_cons.mpr ⟨lw_p21, List.forall_mem_cons.mpr ⟨lw_p22, List.forall_mem_cons.mpr ⟨lw_p23, List.forall_mem_cons.mpr ⟨lw_p24, List.forall_mem_cons.mpr ⟨lw_p25, List.forall_mem_cons.mpr ⟨lw_p26, List.forall_mem_cons.mpr ⟨lw_p27, List.forall_mem_cons.mpr ⟨lw_p28, List.forall_mem_cons.mpr ⟨lw_p29, List.forall_mem_cons.mpr ⟨lw_p30, List.forall_mem_cons.mpr ⟨lw_p31, fun _ h => absurd h List.not_mem_nil⟩⟩⟩⟩⟩⟩⟩⟩⟩⟩⟩⟩⟩⟩⟩⟩
theorem lw_p32 : lw_okq (⟨"TypedAmountsModel", "isSign", "(III)Z"⟩, 29) := ⟨⟨by decide +kernel, by decide +kernel⟩, List.mem_of_getElem? (i := 657) (by decide +kernel), List.mem_of_getElem? (i := 835) (by decide +kernel), List.mem_of_getElem? (i := 836) (by decide +kernel)⟩
theorem lw_p33 : lw_okq (⟨"TypedAmountsModel", "begins", "(IIII)Z"⟩, 29) := ⟨⟨by decide +kernel, by decide +kernel⟩, List.mem_of_getElem? (i := 657) (by decide +kernel), List.mem_of_getElem? (i := 839) (by decide +kernel), List.mem_of_getElem? (i := 840) (by decide +kernel)⟩
theorem lw_p34 : lw_okq (⟨"TypedAmountsModel", "make", "(IIJI)Z"⟩, 29) := ⟨⟨by decide +kernel, by decide +kernel⟩, List.mem_of_getElem? (i := 657) (by decide +kernel), List.mem_of_getElem? (i := 872) (by decide +kernel), List.mem_of_getElem? (i := 873) (by decide +kernel)⟩
theorem lw_p35 : lw_okq (⟨"TypedAmountsModel", "makeDay", "(IJ)Z"⟩, 29) := ⟨⟨by decide +kernel, by decide +kernel⟩, List.mem_of_getElem? (i := 657) (by decide +kernel), List.mem_of_getElem? (i := 876) (by decide +kernel), List.mem_of_getElem? (i := 877) (by decide +kernel)⟩
theorem lw_p36 : lw_okq (⟨"TypedAmountsModel", "sayDigits", "(II)V"⟩, 29) := ⟨⟨by decide +kernel, by decide +kernel⟩, List.mem_of_getElem? (i := 657) (by decide +kernel), List.mem_of_getElem? (i := 881) (by decide +kernel), List.mem_of_getElem? (i := 882) (by decide +kernel)⟩
theorem lw_p37 : lw_okq (⟨"TypedAmountsModel", "say", "(I)V"⟩, 29) := ⟨⟨by decide +kernel, by decide +kernel⟩, List.mem_of_getElem? (i := 657) (by decide +kernel), List.mem_of_getElem? (i := 885) (by decide +kernel), List.mem_of_getElem? (i := 886) (by decide +kernel)⟩
theorem lw_p38 : lw_okq (⟨"TypedAmountsModel", "makeAmount", "(IIJI)Z"⟩, 29) := ⟨⟨by decide +kernel, by decide +kernel⟩, List.mem_of_getElem? (i := 657) (by decide +kernel), List.mem_of_getElem? (i := 889) (by decide +kernel), List.mem_of_getElem? (i := 890) (by decide +kernel)⟩
theorem lw_p39 : lw_okq (⟨"TypedAmountsModel", "sayMark", "(I)V"⟩, 29) := ⟨⟨by decide +kernel, by decide +kernel⟩, List.mem_of_getElem? (i := 657) (by decide +kernel), List.mem_of_getElem? (i := 896) (by decide +kernel), List.mem_of_getElem? (i := 897) (by decide +kernel)⟩
theorem lw_p40 : lw_okq (⟨"TypedAmountsModel", "keep", "()I"⟩, 29) := ⟨⟨by decide +kernel, by decide +kernel⟩, List.mem_of_getElem? (i := 657) (by decide +kernel), List.mem_of_getElem? (i := 901) (by decide +kernel), List.mem_of_getElem? (i := 902) (by decide +kernel)⟩
theorem lw_p41 : lw_okq (⟨"TypedAmountsModel", "makeWords", "(I)V"⟩, 29) := ⟨⟨by decide +kernel, by decide +kernel⟩, List.mem_of_getElem? (i := 657) (by decide +kernel), List.mem_of_getElem? (i := 910) (by decide +kernel), List.mem_of_getElem? (i := 911) (by decide +kernel)⟩
theorem lw_p42 : lw_okq (⟨"TypedAmountsModel", "sayWord", "(J)V"⟩, 29) := ⟨⟨by decide +kernel, by decide +kernel⟩, List.mem_of_getElem? (i := 657) (by decide +kernel), List.mem_of_getElem? (i := 915) (by decide +kernel), List.mem_of_getElem? (i := 916) (by decide +kernel)⟩
theorem lw_p43 : lw_okq (⟨"TypedAmountsModel", "sayBelow1000", "(I)V"⟩, 29) := ⟨⟨by decide +kernel, by decide +kernel⟩, List.mem_of_getElem? (i := 657) (by decide +kernel), List.mem_of_getElem? (i := 922) (by decide +kernel), List.mem_of_getElem? (i := 923) (by decide +kernel)⟩
theorem lw_p44 : lw_okq (⟨"TypedAmountsModel", "sayBelow20", "(I)V"⟩, 29) := ⟨⟨by decide +kernel, by decide +kernel⟩, List.mem_of_getElem? (i := 657) (by decide +kernel), List.mem_of_getElem? (i := 926) (by decide +kernel), List.mem_of_getElem? (i := 927) (by decide +kernel)⟩
theorem lw_p45 : lw_okq (⟨"TypedAmountsModel", "sayTens", "(I)V"⟩, 29) := ⟨⟨by decide +kernel, by decide +kernel⟩, List.mem_of_getElem? (i := 657) (by decide +kernel), List.mem_of_getElem? (i := 950) (by decide +kernel), List.mem_of_getElem? (i := 951) (by decide +kernel)⟩
theorem lw_p46 : lw_okq (⟨"TypedAmountsModel", "below1000At", "(I)I"⟩, 29) := ⟨⟨by decide +kernel, by decide +kernel⟩, List.mem_of_getElem? (i := 657) (by decide +kernel), List.mem_of_getElem? (i := 976) (by decide +kernel), List.mem_of_getElem? (i := 977) (by decide +kernel)⟩
theorem lw_p47 : lw_okq (⟨"TypedAmountsModel", "isAt", "(I)Z"⟩, 29) := ⟨⟨by decide +kernel, by decide +kernel⟩, List.mem_of_getElem? (i := 657) (by decide +kernel), List.mem_of_getElem? (i := 980) (by decide +kernel), List.mem_of_getElem? (i := 981) (by decide +kernel)⟩
def lw_privs_3 : List (MethodName × Nat) := [(⟨"TypedAmountsModel", "isSign", "(III)Z"⟩, 29), (⟨"TypedAmountsModel", "begins", "(IIII)Z"⟩, 29), (⟨"TypedAmountsModel", "make", "(IIJI)Z"⟩, 29), (⟨"TypedAmountsModel", "makeDay", "(IJ)Z"⟩, 29), (⟨"TypedAmountsModel", "sayDigits", "(II)V"⟩, 29), (⟨"TypedAmountsModel", "say", "(I)V"⟩, 29), (⟨"TypedAmountsModel", "makeAmount", "(IIJI)Z"⟩, 29), (⟨"TypedAmountsModel", "sayMark", "(I)V"⟩, 29), (⟨"TypedAmountsModel", "keep", "()I"⟩, 29), (⟨"TypedAmountsModel", "makeWords", "(I)V"⟩, 29), (⟨"TypedAmountsModel", "sayWord", "(J)V"⟩, 29), (⟨"TypedAmountsModel", "sayBelow1000", "(I)V"⟩, 29), (⟨"TypedAmountsModel", "sayBelow20", "(I)V"⟩, 29), (⟨"TypedAmountsModel", "sayTens", "(I)V"⟩, 29), (⟨"TypedAmountsModel", "below1000At", "(I)I"⟩, 29), (⟨"TypedAmountsModel", "isAt", "(I)Z"⟩, 29)]
theorem lw_r3 : ∀ q ∈ lw_privs_3, lw_okq q := List.forall_mem_cons.mpr ⟨lw_p32, List.forall_mem_cons.mpr ⟨lw_p33, List.forall_mem_cons.mpr ⟨lw_p34, List.forall_mem_cons.mpr ⟨lw_p35, List.forall_mem_cons.mpr ⟨lw_p36, List.forall_mem_cons.mpr ⟨lw_p37, List.forall_mem_cons.mpr ⟨lw_p38, List.forall_mem_cons.mpr ⟨lw_p39, List.forall_mem_cons.mpr ⟨lw_p40, List.forall_mem_cons.mpr ⟨lw_p41, List.forall_mem_cons.mpr ⟨lw_p42, List.forall_mem_cons.mpr ⟨lw_p43, List.forall_mem_cons.mpr ⟨lw_p44, List.forall_mem_cons.mpr ⟨lw_p45, List.forall_mem_cons.mpr ⟨lw_p46, List.forall_mem_cons.mpr ⟨lw_p47, fun _ h => absurd h List.not_mem_nil⟩⟩⟩⟩⟩⟩⟩⟩⟩⟩⟩⟩⟩⟩⟩⟩
theorem lw_p48 : lw_okq (⟨"TypedAmountsModel", "wordAt", "(IJ)Z"⟩, 29) := ⟨⟨by decide +kernel, by decide +kernel⟩, List.mem_of_getElem? (i := 657) (by decide +kernel), List.mem_of_getElem? (i := 984) (by decide +kernel), List.mem_of_getElem? (i := 985) (by decide +kernel)⟩
theorem lw_p49 : lw_okq (⟨"TypedAmountsModel", "firstMisfit", "(II)I"⟩, 29) := ⟨⟨by decide +kernel, by decide +kernel⟩, List.mem_of_getElem? (i := 657) (by decide +kernel), List.mem_of_getElem? (i := 1004) (by decide +kernel), List.mem_of_getElem? (i := 1005) (by decide +kernel)⟩
theorem lw_p50 : lw_okq (⟨"TypedAmountsModel", "rowText", "(I)V"⟩, 29) := ⟨⟨by decide +kernel, by decide +kernel⟩, List.mem_of_getElem? (i := 657) (by decide +kernel), List.mem_of_getElem? (i := 1008) (by decide +kernel), List.mem_of_getElem? (i := 1009) (by decide +kernel)⟩
theorem lw_p51 : lw_okq (⟨"TypedAmountsModel", "copy", "(II)V"⟩, 29) := ⟨⟨by decide +kernel, by decide +kernel⟩, List.mem_of_getElem? (i := 657) (by decide +kernel), List.mem_of_getElem? (i := 1028) (by decide +kernel), List.mem_of_getElem? (i := 1029) (by decide +kernel)⟩
def lw_privs_4 : List (MethodName × Nat) := [(⟨"TypedAmountsModel", "wordAt", "(IJ)Z"⟩, 29), (⟨"TypedAmountsModel", "firstMisfit", "(II)I"⟩, 29), (⟨"TypedAmountsModel", "rowText", "(I)V"⟩, 29), (⟨"TypedAmountsModel", "copy", "(II)V"⟩, 29)]
theorem lw_r4 : ∀ q ∈ lw_privs_4, lw_okq q := List.forall_mem_cons.mpr ⟨lw_p48, List.forall_mem_cons.mpr ⟨lw_p49, List.forall_mem_cons.mpr ⟨lw_p50, List.forall_mem_cons.mpr ⟨lw_p51, fun _ h => absurd h List.not_mem_nil⟩⟩⟩⟩
def lw_privs : List (MethodName × Nat) := lw_privs_1 ++ (lw_privs_2 ++ (lw_privs_3 ++ (lw_privs_4)))
def lw_tbl : List Cond := k2_sels lw_privs ++ tables_1
theorem lw_privs_ok : ∀ q ∈ lw_privs, lw_okq q := by
  show ∀ q ∈ lw_privs_1 ++ (lw_privs_2 ++ (lw_privs_3 ++ (lw_privs_4))), lw_okq q
  exact List.forall_mem_append.mpr ⟨lw_r1, List.forall_mem_append.mpr ⟨lw_r2, List.forall_mem_append.mpr ⟨lw_r3, lw_r4⟩⟩⟩
end
section
/-! ===== BEGIN printed: names, fields, word lists, decode rows ===== -/
def RX0 : String := "TypedAmounts$Days"
def TX0 : u_T := fun k => match k with
  | _ => ("", "", "", false)
def tyX0 : Nat → FieldType := fun k => match k with
  | _ => .int
abbrev wsX00 : List Cond := u_ws RX0 TX0 0
theorem nmX0 : ∀ a, a < 0 → ∀ b, b < 0 → a ≠ b → (TX0 a).2.1 ≠ (TX0 b).2.1 := by decide +kernel
theorem tyX0_ok : ∀ k, k < 0 → parseFieldDescriptor (TX0 k).2.2.1 = some (tyX0 k) := by decide +kernel
abbrev cX0_isLeap : ByteArray := prog_2_method_2_code
def yX0_isLeap : MethodName := ⟨RX0, "isLeap", "(I)Z"⟩
abbrev cX0_lengthOf : ByteArray := prog_2_method_3_code
def yX0_lengthOf : MethodName := ⟨RX0, "lengthOf", "(IZ)I"⟩
abbrev cX0_isDay : ByteArray := prog_2_method_4_code
def yX0_isDay : MethodName := ⟨RX0, "isDay", "(III)Z"⟩
abbrev cX0_beforeYear : ByteArray := prog_2_method_5_code
def yX0_beforeYear : MethodName := ⟨RX0, "beforeYear", "(I)I"⟩
abbrev cX0_numberOf : ByteArray := prog_2_method_6_code
def yX0_numberOf : MethodName := ⟨RX0, "numberOf", "(III)I"⟩
abbrev cX0_yearOf : ByteArray := prog_2_method_7_code
def yX0_yearOf : MethodName := ⟨RX0, "yearOf", "(I)I"⟩
def RX1 : String := "TypedAmounts$Land"
def TX1 : u_T := fun k => match k with
  | 0 => ("TypedAmounts$Land", "point", "I", true)
  | 1 => ("TypedAmounts$Land", "group", "I", true)
  | 2 => ("TypedAmounts$Land", "byTwo", "Z", true)
  | 3 => ("TypedAmounts$Land", "minus", "I", true)
  | 4 => ("TypedAmounts$Land", "mark", "I", true)
  | 5 => ("TypedAmounts$Land", "markBehind", "Z", true)
  | 6 => ("TypedAmounts$Land", "order", "I", false)
  | _ => ("TypedAmounts$Land", "daySign", "I", false)
def tyX1 : Nat → FieldType := fun k => match k with
  | 0 => .int
  | 1 => .int
  | 2 => .boolean
  | 3 => .int
  | 4 => .int
  | 5 => .boolean
  | 6 => .int
  | _ => .int
abbrev wsX10 : List Cond := u_ws RX1 TX1 8
theorem nmX1 : ∀ a, a < 8 → ∀ b, b < 8 → a ≠ b → (TX1 a).2.1 ≠ (TX1 b).2.1 := by decide +kernel
theorem tyX1_ok : ∀ k, k < 8 → parseFieldDescriptor (TX1 k).2.2.1 = some (tyX1 k) := by decide +kernel
abbrev cX1_init : ByteArray := prog_3_method_1_code
def yX1_init : MethodName := ⟨RX1, "<init>", "(IIIIIZ)V"⟩
abbrev cX1_setDays : ByteArray := prog_3_method_2_code
def yX1_setDays : MethodName := ⟨RX1, "setDays", "(II)V"⟩
abbrev cX1_canWriteNumbers : ByteArray := prog_3_method_3_code
def yX1_canWriteNumbers : MethodName := ⟨RX1, "canWriteNumbers", "(IIII)Z"⟩
abbrev cX1_canWriteMoney : ByteArray := prog_3_method_4_code
def yX1_canWriteMoney : MethodName := ⟨RX1, "canWriteMoney", "(I)Z"⟩
abbrev cX1_canWriteDays : ByteArray := prog_3_method_5_code
def yX1_canWriteDays : MethodName := ⟨RX1, "canWriteDays", "(II)Z"⟩
abbrev cX1_isCapital : ByteArray := prog_3_method_6_code
def yX1_isCapital : MethodName := ⟨RX1, "isCapital", "(I)Z"⟩
abbrev cX1_markByte : ByteArray := prog_3_method_7_code
def yX1_markByte : MethodName := ⟨RX1, "markByte", "(I)I"⟩
abbrev cX1_signOfDays : ByteArray := prog_3_method_8_code
def yX1_signOfDays : MethodName := ⟨RX1, "signOfDays", "()I"⟩
abbrev cX1_partAt : ByteArray := prog_3_method_9_code
def yX1_partAt : MethodName := ⟨RX1, "partAt", "(I)I"⟩
abbrev cX1_minusAhead : ByteArray := prog_3_method_10_code
def yX1_minusAhead : MethodName := ⟨RX1, "minusAhead", "()I"⟩
abbrev cX1_minusBehind : ByteArray := prog_3_method_11_code
def yX1_minusBehind : MethodName := ⟨RX1, "minusBehind", "()I"⟩
abbrev cX1_groupsAhead : ByteArray := prog_3_method_12_code
def yX1_groupsAhead : MethodName := ⟨RX1, "groupsAhead", "(I)Z"⟩
def RX2 : String := "TypedAmounts$Reader"
def TX2 : u_T := fun k => match k with
  | 0 => ("TypedAmounts$Reader", "bytes", "[I", false)
  | 1 => ("TypedAmounts$Reader", "at", "I", false)
  | 2 => ("TypedAmounts$Reader", "end", "I", false)
  | 3 => ("TypedAmounts$Reader", "status", "I", false)
  | 4 => ("TypedAmounts$Reader", "number", "J", false)
  | 5 => ("TypedAmounts$Reader", "found", "J", false)
  | 6 => ("TypedAmounts$Reader", "parts", "[I", true)
  | 7 => ("TypedAmounts$Reader", "widths", "[I", true)
  | _ => ("TypedAmounts$Reader", "growing", "I", false)
def tyX2 : Nat → FieldType := fun k => match k with
  | 0 => .array .int
  | 1 => .int
  | 2 => .int
  | 3 => .int
  | 4 => .long
  | 5 => .long
  | 6 => .array .int
  | 7 => .array .int
  | _ => .int
abbrev wsX20 : List Cond := u_ws RX2 TX2 9
theorem nmX2 : ∀ a, a < 9 → ∀ b, b < 9 → a ≠ b → (TX2 a).2.1 ≠ (TX2 b).2.1 := by decide +kernel
theorem tyX2_ok : ∀ k, k < 9 → parseFieldDescriptor (TX2 k).2.2.1 = some (tyX2 k) := by decide +kernel
abbrev cX2_init : ByteArray := prog_4_method_1_code
def yX2_init : MethodName := ⟨RX2, "<init>", "()V"⟩
abbrev cX2_read : ByteArray := prog_4_method_2_code
def yX2_read : MethodName := ⟨RX2, "read", "([IIILTypedAmounts$Land;I)I"⟩
abbrev cX2_readAmount : ByteArray := prog_4_method_3_code
def yX2_readAmount : MethodName := ⟨RX2, "readAmount", "(LTypedAmounts$Land;Z)V"⟩
abbrev cX2_needMark : ByteArray := prog_4_method_4_code
def yX2_needMark : MethodName := ⟨RX2, "needMark", "(LTypedAmounts$Land;)V"⟩
abbrev cX2_needFirstDigits : ByteArray := prog_4_method_5_code
def yX2_needFirstDigits : MethodName := ⟨RX2, "needFirstDigits", "()I"⟩
abbrev cX2_needGroups : ByteArray := prog_4_method_6_code
def yX2_needGroups : MethodName := ⟨RX2, "needGroups", "(LTypedAmounts$Land;I)V"⟩
abbrev cX2_isGroupNext : ByteArray := prog_4_method_7_code
def yX2_isGroupNext : MethodName := ⟨RX2, "isGroupNext", "(I)Z"⟩
abbrev cX2_passFraction : ByteArray := prog_4_method_8_code
def yX2_passFraction : MethodName := ⟨RX2, "passFraction", "(I)V"⟩
abbrev cX2_readDay : ByteArray := prog_4_method_9_code
def yX2_readDay : MethodName := ⟨RX2, "readDay", "(LTypedAmounts$Land;)V"⟩
abbrev cX2_needPart : ByteArray := prog_4_method_10_code
def yX2_needPart : MethodName := ⟨RX2, "needPart", "(I)V"⟩
abbrev cX2_couldBeDay : ByteArray := prog_4_method_11_code
def yX2_couldBeDay : MethodName := ⟨RX2, "couldBeDay", "()Z"⟩
abbrev cX2_leastDay : ByteArray := prog_4_method_12_code
def yX2_leastDay : MethodName := ⟨RX2, "leastDay", "()I"⟩
abbrev cX2_couldBeMonth : ByteArray := prog_4_method_13_code
def yX2_couldBeMonth : MethodName := ⟨RX2, "couldBeMonth", "(I)Z"⟩
abbrev cX2_passes : ByteArray := prog_4_method_14_code
def yX2_passes : MethodName := ⟨RX2, "passes", "(I)Z"⟩
abbrev cX2_passDigits : ByteArray := prog_4_method_15_code
def yX2_passDigits : MethodName := ⟨RX2, "passDigits", "(I)I"⟩
abbrev cX2_need : ByteArray := prog_4_method_16_code
def yX2_need : MethodName := ⟨RX2, "need", "(I)V"⟩
abbrev cX2_needEnd : ByteArray := prog_4_method_17_code
def yX2_needEnd : MethodName := ⟨RX2, "needEnd", "()V"⟩
abbrev cX2_lack : ByteArray := prog_4_method_18_code
def yX2_lack : MethodName := ⟨RX2, "lack", "()V"⟩
def RX3 : String := "TypedAmounts$Sheet"
def TX3 : u_T := fun k => match k with
  | 0 => ("TypedAmounts$Sheet", "line", "LTypedAmounts$Text;", true)
  | 1 => ("TypedAmounts$Sheet", "display", "LTypedAmounts$Text;", true)
  | 2 => ("TypedAmounts$Sheet", "lands", "[LTypedAmounts$Land;", true)
  | 3 => ("TypedAmounts$Sheet", "landCount", "I", false)
  | 4 => ("TypedAmounts$Sheet", "rows", "[I", true)
  | 5 => ("TypedAmounts$Sheet", "rowLengths", "[I", true)
  | 6 => ("TypedAmounts$Sheet", "rowCount", "I", false)
  | 7 => ("TypedAmounts$Sheet", "least", "[J", true)
  | _ => ("TypedAmounts$Sheet", "greatest", "[J", true)
def tyX3 : Nat → FieldType := fun k => match k with
  | 0 => .object "TypedAmounts$Text"
  | 1 => .object "TypedAmounts$Text"
  | 2 => .array (.object "TypedAmounts$Land")
  | 3 => .int
  | 4 => .array .int
  | 5 => .array .int
  | 6 => .int
  | 7 => .array .long
  | _ => .array .long
abbrev wsX30 : List Cond := u_ws RX3 TX3 9
theorem nmX3 : ∀ a, a < 9 → ∀ b, b < 9 → a ≠ b → (TX3 a).2.1 ≠ (TX3 b).2.1 := by decide +kernel
theorem tyX3_ok : ∀ k, k < 9 → parseFieldDescriptor (TX3 k).2.2.1 = some (tyX3 k) := by decide +kernel
abbrev cX3_init : ByteArray := prog_5_method_1_code
def yX3_init : MethodName := ⟨RX3, "<init>", "()V"⟩
abbrev cX3_landAt : ByteArray := prog_5_method_2_code
def yX3_landAt : MethodName := ⟨RX3, "landAt", "(I)LTypedAmounts$Land;"⟩
abbrev cX3_addLand : ByteArray := prog_5_method_3_code
def yX3_addLand : MethodName := ⟨RX3, "addLand", "(LTypedAmounts$Land;)I"⟩
abbrev cX3_setBounds : ByteArray := prog_5_method_4_code
def yX3_setBounds : MethodName := ⟨RX3, "setBounds", "(IJJ)V"⟩
abbrev cX3_isWithin : ByteArray := prog_5_method_5_code
def yX3_isWithin : MethodName := ⟨RX3, "isWithin", "(IJ)Z"⟩
abbrev cX3_moveLineToRows : ByteArray := prog_5_method_6_code
def yX3_moveLineToRows : MethodName := ⟨RX3, "moveLineToRows", "()I"⟩
abbrev cX3_rowStart : ByteArray := prog_5_method_7_code
def yX3_rowStart : MethodName := ⟨RX3, "rowStart", "(I)I"⟩
abbrev cX3_rowLength : ByteArray := prog_5_method_8_code
def yX3_rowLength : MethodName := ⟨RX3, "rowLength", "(I)I"⟩
abbrev cX3_copyFrom : ByteArray := prog_5_method_9_code
def yX3_copyFrom : MethodName := ⟨RX3, "copyFrom", "(LTypedAmounts$Sheet;)V"⟩
def RX4 : String := "TypedAmounts$Text"
def TX4 : u_T := fun k => match k with
  | 0 => ("TypedAmounts$Text", "bytes", "[I", true)
  | _ => ("TypedAmounts$Text", "length", "I", false)
def tyX4 : Nat → FieldType := fun k => match k with
  | 0 => .array .int
  | _ => .int
abbrev wsX40 : List Cond := u_ws RX4 TX4 2
theorem nmX4 : ∀ a, a < 2 → ∀ b, b < 2 → a ≠ b → (TX4 a).2.1 ≠ (TX4 b).2.1 := by decide +kernel
theorem tyX4_ok : ∀ k, k < 2 → parseFieldDescriptor (TX4 k).2.2.1 = some (tyX4 k) := by decide +kernel
abbrev cX4_init : ByteArray := prog_6_method_1_code
def yX4_init : MethodName := ⟨RX4, "<init>", "(I)V"⟩
abbrev cX4_length : ByteArray := prog_6_method_2_code
def yX4_length : MethodName := ⟨RX4, "length", "()I"⟩
abbrev cX4_byteAt : ByteArray := prog_6_method_3_code
def yX4_byteAt : MethodName := ⟨RX4, "byteAt", "(I)I"⟩
abbrev cX4_add : ByteArray := prog_6_method_4_code
def yX4_add : MethodName := ⟨RX4, "add", "(I)V"⟩
abbrev cX4_addDigits : ByteArray := prog_6_method_5_code
def yX4_addDigits : MethodName := ⟨RX4, "addDigits", "(II)V"⟩
abbrev cX4_shorten : ByteArray := prog_6_method_6_code
def yX4_shorten : MethodName := ⟨RX4, "shorten", "(I)V"⟩
abbrev cX4_empty : ByteArray := prog_6_method_7_code
def yX4_empty : MethodName := ⟨RX4, "empty", "()V"⟩
abbrev cX4_copyFrom : ByteArray := prog_6_method_8_code
def yX4_copyFrom : MethodName := ⟨RX4, "copyFrom", "(LTypedAmounts$Text;)V"⟩
abbrev cX4_sameAs : ByteArray := prog_6_method_9_code
def yX4_sameAs : MethodName := ⟨RX4, "sameAs", "(LTypedAmounts$Text;)Z"⟩
def RX5 : String := "TypedAmounts$Words"
def TX5 : u_T := fun k => match k with
  | _ => ("", "", "", false)
def tyX5 : Nat → FieldType := fun k => match k with
  | _ => .int
abbrev wsX50 : List Cond := u_ws RX5 TX5 0
theorem nmX5 : ∀ a, a < 0 → ∀ b, b < 0 → a ≠ b → (TX5 a).2.1 ≠ (TX5 b).2.1 := by decide +kernel
theorem tyX5_ok : ∀ k, k < 0 → parseFieldDescriptor (TX5 k).2.2.1 = some (tyX5 k) := by decide +kernel
abbrev cX5_write : ByteArray := prog_7_method_2_code
def yX5_write : MethodName := ⟨RX5, "write", "(LTypedAmounts$Text;I)V"⟩
abbrev cX5_addPart : ByteArray := prog_7_method_3_code
def yX5_addPart : MethodName := ⟨RX5, "addPart", "(LTypedAmounts$Text;II)V"⟩
abbrev cX5_addName : ByteArray := prog_7_method_4_code
def yX5_addName : MethodName := ⟨RX5, "addName", "(LTypedAmounts$Text;I)V"⟩
abbrev cX5_meaning : ByteArray := prog_7_method_5_code
def yX5_meaning : MethodName := ⟨RX5, "meaning", "(LTypedAmounts$Text;)I"⟩
abbrev cX5_nameIn : ByteArray := prog_7_method_6_code
def yX5_nameIn : MethodName := ⟨RX5, "nameIn", "(LTypedAmounts$Text;II)I"⟩
abbrev cX5_stands : ByteArray := prog_7_method_7_code
def yX5_stands : MethodName := ⟨RX5, "stands", "(LTypedAmounts$Text;IILjava/lang/String;)Z"⟩
abbrev cX5_nameOf : ByteArray := prog_7_method_8_code
def yX5_nameOf : MethodName := ⟨RX5, "nameOf", "(I)Ljava/lang/String;"⟩
def RX6 : String := "TypedAmounts$Writer"
def TX6 : u_T := fun k => match k with
  | _ => ("", "", "", false)
def tyX6 : Nat → FieldType := fun k => match k with
  | _ => .int
abbrev wsX60 : List Cond := u_ws RX6 TX6 0
theorem nmX6 : ∀ a, a < 0 → ∀ b, b < 0 → a ≠ b → (TX6 a).2.1 ≠ (TX6 b).2.1 := by decide +kernel
theorem tyX6_ok : ∀ k, k < 0 → parseFieldDescriptor (TX6 k).2.2.1 = some (tyX6 k) := by decide +kernel
abbrev cX6_rounded : ByteArray := prog_8_method_2_code
def yX6_rounded : MethodName := ⟨RX6, "rounded", "(JI)J"⟩
abbrev cX6_digitOf : ByteArray := prog_8_method_3_code
def yX6_digitOf : MethodName := ⟨RX6, "digitOf", "(JI)I"⟩
abbrev cX6_writeAmount : ByteArray := prog_8_method_4_code
def yX6_writeAmount : MethodName := ⟨RX6, "writeAmount", "(LTypedAmounts$Text;LTypedAmounts$Land;ZJI)V"⟩
abbrev cX6_addMark : ByteArray := prog_8_method_5_code
def yX6_addMark : MethodName := ⟨RX6, "addMark", "(LTypedAmounts$Text;LTypedAmounts$Land;)V"⟩
abbrev cX6_addNumber : ByteArray := prog_8_method_6_code
def yX6_addNumber : MethodName := ⟨RX6, "addNumber", "(LTypedAmounts$Text;LTypedAmounts$Land;JI)V"⟩
abbrev cX6_writeDay : ByteArray := prog_8_method_7_code
def yX6_writeDay : MethodName := ⟨RX6, "writeDay", "(LTypedAmounts$Text;LTypedAmounts$Land;I)V"⟩
def RX7 : String := "TypedAmounts"
def TX7 : u_T := fun k => match k with
  | 0 => ("TypedAmounts", "now", "LTypedAmounts$Sheet;", true)
  | 1 => ("TypedAmounts", "images", "[LTypedAmounts$Sheet;", true)
  | 2 => ("TypedAmounts", "reader", "LTypedAmounts$Reader;", true)
  | _ => ("TypedAmounts", "draft", "LTypedAmounts$Text;", true)
def tyX7 : Nat → FieldType := fun k => match k with
  | 0 => .object "TypedAmounts$Sheet"
  | 1 => .array (.object "TypedAmounts$Sheet")
  | 2 => .object "TypedAmounts$Reader"
  | _ => .object "TypedAmounts$Text"
abbrev wsX70 : List Cond := u_ws RX7 TX7 4
theorem nmX7 : ∀ a, a < 4 → ∀ b, b < 4 → a ≠ b → (TX7 a).2.1 ≠ (TX7 b).2.1 := by decide +kernel
theorem tyX7_ok : ∀ k, k < 4 → parseFieldDescriptor (TX7 k).2.2.1 = some (tyX7 k) := by decide +kernel
abbrev cX7_init : ByteArray := prog_1_method_1_code
def yX7_init : MethodName := ⟨RX7, "<init>", "()V"⟩
abbrev cX7_land : ByteArray := prog_1_method_2_code
def yX7_land : MethodName := ⟨RX7, "land", "(IIIIIZII)I"⟩
abbrev cX7_key : ByteArray := prog_1_method_3_code
def yX7_key : MethodName := ⟨RX7, "key", "(I)I"⟩
abbrev cX7_keys : ByteArray := prog_1_method_4_code
def yX7_keys : MethodName := ⟨RX7, "keys", "(I)I"⟩
abbrev cX7_undo : ByteArray := prog_1_method_5_code
def yX7_undo : MethodName := ⟨RX7, "undo", "(I)I"⟩
abbrev cX7_bounds : ByteArray := prog_1_method_6_code
def yX7_bounds : MethodName := ⟨RX7, "bounds", "(IJJ)Z"⟩
abbrev cX7_value : ByteArray := prog_1_method_7_code
def yX7_value : MethodName := ⟨RX7, "value", "(II)J"⟩
abbrev cX7_open : ByteArray := prog_1_method_8_code
def yX7_open : MethodName := ⟨RX7, "open", "(II)Z"⟩
abbrev cX7_good : ByteArray := prog_1_method_9_code
def yX7_good : MethodName := ⟨RX7, "good", "(II)I"⟩
abbrev cX7_state : ByteArray := prog_1_method_10_code
def yX7_state : MethodName := ⟨RX7, "state", "(II)I"⟩
abbrev cX7_show : ByteArray := prog_1_method_11_code
def yX7_show : MethodName := ⟨RX7, "show", "(IIJI)I"⟩
abbrev cX7_words : ByteArray := prog_1_method_12_code
def yX7_words : MethodName := ⟨RX7, "words", "(I)I"⟩
abbrev cX7_shown : ByteArray := prog_1_method_13_code
def yX7_shown : MethodName := ⟨RX7, "shown", "(I)I"⟩
abbrev cX7_take : ByteArray := prog_1_method_14_code
def yX7_take : MethodName := ⟨RX7, "take", "()I"⟩
abbrev cX7_spoken : ByteArray := prog_1_method_15_code
def yX7_spoken : MethodName := ⟨RX7, "spoken", "()I"⟩
abbrev cX7_other : ByteArray := prog_1_method_16_code
def yX7_other : MethodName := ⟨RX7, "other", "(IIIJI)J"⟩
abbrev cX7_row : ByteArray := prog_1_method_17_code
def yX7_row : MethodName := ⟨RX7, "row", "()I"⟩
abbrev cX7_clear : ByteArray := prog_1_method_18_code
def yX7_clear : MethodName := ⟨RX7, "clear", "()V"⟩
abbrev cX7_fit : ByteArray := prog_1_method_19_code
def yX7_fit : MethodName := ⟨RX7, "fit", "(I)I"⟩
abbrev cX7_misfit : ByteArray := prog_1_method_20_code
def yX7_misfit : MethodName := ⟨RX7, "misfit", "(II)I"⟩
abbrev cX7_sum : ByteArray := prog_1_method_21_code
def yX7_sum : MethodName := ⟨RX7, "sum", "(II)J"⟩
abbrev cX7_count : ByteArray := prog_1_method_22_code
def yX7_count : MethodName := ⟨RX7, "count", "(I)I"⟩
abbrev cX7_image : ByteArray := prog_1_method_23_code
def yX7_image : MethodName := ⟨RX7, "image", "(I)Z"⟩
abbrev cX7_again : ByteArray := prog_1_method_24_code
def yX7_again : MethodName := ⟨RX7, "again", "(I)Z"⟩
abbrev cX7_isKind : ByteArray := prog_1_method_25_code
def yX7_isKind : MethodName := ⟨RX7, "isKind", "(I)Z"⟩
abbrev cX7_isDigit : ByteArray := prog_1_method_26_code
def yX7_isDigit : MethodName := ⟨RX7, "isDigit", "(I)Z"⟩
abbrev cX7_byteOf : ByteArray := prog_1_method_27_code
def yX7_byteOf : MethodName := ⟨RX7, "byteOf", "(II)I"⟩
abbrev cX7_readLine : ByteArray := prog_1_method_28_code
def yX7_readLine : MethodName := ⟨RX7, "readLine", "(ILTypedAmounts$Land;I)I"⟩
abbrev cX7_countedValue : ByteArray := prog_1_method_29_code
def yX7_countedValue : MethodName := ⟨RX7, "countedValue", "(II)J"⟩
abbrev cX7_rowValue : ByteArray := prog_1_method_30_code
def yX7_rowValue : MethodName := ⟨RX7, "rowValue", "(ILTypedAmounts$Land;I)J"⟩
abbrev cX7_writeValue : ByteArray := prog_1_method_31_code
def yX7_writeValue : MethodName := ⟨RX7, "writeValue", "(LTypedAmounts$Text;LTypedAmounts$Land;IJI)I"⟩
abbrev cX7_isAmount : ByteArray := prog_1_method_32_code
def yX7_isAmount : MethodName := ⟨RX7, "isAmount", "(J)Z"⟩
def RX8 : String := "TypedAmountsModel"
def TX8 : u_T := fun k => match k with
  | 0 => ("TypedAmountsModel", "code", "I", false)
  | 1 => ("TypedAmountsModel", "lands", "[I", true)
  | 2 => ("TypedAmountsModel", "point", "[I", true)
  | 3 => ("TypedAmountsModel", "group", "[I", true)
  | 4 => ("TypedAmountsModel", "grouping", "[I", true)
  | 5 => ("TypedAmountsModel", "minus", "[I", true)
  | 6 => ("TypedAmountsModel", "mark", "[I", true)
  | 7 => ("TypedAmountsModel", "behind", "[Z", true)
  | 8 => ("TypedAmountsModel", "order", "[I", true)
  | 9 => ("TypedAmountsModel", "daySign", "[I", true)
  | 10 => ("TypedAmountsModel", "size", "[I", true)
  | 11 => ("TypedAmountsModel", "line", "[I", true)
  | 12 => ("TypedAmountsModel", "low", "[J", true)
  | 13 => ("TypedAmountsModel", "high", "[J", true)
  | 14 => ("TypedAmountsModel", "rows", "[I", true)
  | 15 => ("TypedAmountsModel", "rowSize", "[I", true)
  | 16 => ("TypedAmountsModel", "row", "[B", true)
  | 17 => ("TypedAmountsModel", "showSize", "[I", true)
  | 18 => ("TypedAmountsModel", "show", "[I", true)
  | 19 => ("TypedAmountsModel", "text", "[I", true)
  | 20 => ("TypedAmountsModel", "length", "I", false)
  | 21 => ("TypedAmountsModel", "may", "[I", true)
  | 22 => ("TypedAmountsModel", "counts", "[I", true)
  | 23 => ("TypedAmountsModel", "places", "I", false)
  | 24 => ("TypedAmountsModel", "found", "J", false)
  | 25 => ("TypedAmountsModel", "made", "[I", true)
  | 26 => ("TypedAmountsModel", "makes", "I", false)
  | 27 => ("TypedAmountsModel", "ends", "I", false)
  | _ => ("TypedAmountsModel", "has", "[Z", true)
def tyX8 : Nat → FieldType := fun k => match k with
  | 0 => .int
  | 1 => .array .int
  | 2 => .array .int
  | 3 => .array .int
  | 4 => .array .int
  | 5 => .array .int
  | 6 => .array .int
  | 7 => .array .boolean
  | 8 => .array .int
  | 9 => .array .int
  | 10 => .array .int
  | 11 => .array .int
  | 12 => .array .long
  | 13 => .array .long
  | 14 => .array .int
  | 15 => .array .int
  | 16 => .array .byte
  | 17 => .array .int
  | 18 => .array .int
  | 19 => .array .int
  | 20 => .int
  | 21 => .array .int
  | 22 => .array .int
  | 23 => .int
  | 24 => .long
  | 25 => .array .int
  | 26 => .int
  | 27 => .int
  | _ => .array .boolean
abbrev wsX80 : List Cond := u_ws RX8 TX8 29
theorem nmX8 : ∀ a, a < 29 → ∀ b, b < 29 → a ≠ b → (TX8 a).2.1 ≠ (TX8 b).2.1 := by decide +kernel
theorem tyX8_ok : ∀ k, k < 29 → parseFieldDescriptor (TX8 k).2.2.1 = some (tyX8 k) := by decide +kernel
abbrev cX8_init : ByteArray := prog_10_method_1_code
def yX8_init : MethodName := ⟨RX8, "<init>", "()V"⟩
abbrev cX8_in : ByteArray := prog_10_method_3_code
def yX8_in : MethodName := ⟨RX8, "in", "(III)Z"⟩
abbrev cX8_move : ByteArray := prog_10_method_4_code
def yX8_move : MethodName := ⟨RX8, "move", "([IIII)V"⟩
abbrev cX8_copy : ByteArray := prog_10_method_5_code
def yX8_copy : MethodName := ⟨RX8, "copy", "(II)V"⟩
abbrev cX8_isLand : ByteArray := prog_10_method_6_code
def yX8_isLand : MethodName := ⟨RX8, "isLand", "(I)Z"⟩
abbrev cX8_land : ByteArray := prog_10_method_7_code
def yX8_land : MethodName := ⟨RX8, "land", "(IIIIIZII)I"⟩
abbrev cX8_key : ByteArray := prog_10_method_8_code
def yX8_key : MethodName := ⟨RX8, "key", "(I)I"⟩
abbrev cX8_keys : ByteArray := prog_10_method_9_code
def yX8_keys : MethodName := ⟨RX8, "keys", "(I)I"⟩
abbrev cX8_undo : ByteArray := prog_10_method_10_code
def yX8_undo : MethodName := ⟨RX8, "undo", "(I)I"⟩
abbrev cX8_bounds : ByteArray := prog_10_method_11_code
def yX8_bounds : MethodName := ⟨RX8, "bounds", "(IJJ)Z"⟩
abbrev cX8_lineText : ByteArray := prog_10_method_12_code
def yX8_lineText : MethodName := ⟨RX8, "lineText", "()V"⟩
abbrev cX8_rowText : ByteArray := prog_10_method_13_code
def yX8_rowText : MethodName := ⟨RX8, "rowText", "(I)V"⟩
abbrev cX8_put : ByteArray := prog_10_method_14_code
def yX8_put : MethodName := ⟨RX8, "put", "(II)V"⟩
abbrev cX8_putMark : ByteArray := prog_10_method_15_code
def yX8_putMark : MethodName := ⟨RX8, "putMark", "(I)V"⟩
abbrev cX8_isSignBehind : ByteArray := prog_10_method_16_code
def yX8_isSignBehind : MethodName := ⟨RX8, "isSignBehind", "(II)Z"⟩
abbrev cX8_putNumber : ByteArray := prog_10_method_17_code
def yX8_putNumber : MethodName := ⟨RX8, "putNumber", "(IIIZ)V"⟩
abbrev cX8_putAmount : ByteArray := prog_10_method_18_code
def yX8_putAmount : MethodName := ⟨RX8, "putAmount", "(IIIIZI)V"⟩
abbrev cX8_matched : ByteArray := prog_10_method_19_code
def yX8_matched : MethodName := ⟨RX8, "matched", "(I)I"⟩
abbrev cX8_findValue : ByteArray := prog_10_method_20_code
def yX8_findValue : MethodName := ⟨RX8, "findValue", "(Z)V"⟩
abbrev cX8_amount : ByteArray := prog_10_method_21_code
def yX8_amount : MethodName := ⟨RX8, "amount", "(III)I"⟩
abbrev cX8_isLeap : ByteArray := prog_10_method_22_code
def yX8_isLeap : MethodName := ⟨RX8, "isLeap", "(I)Z"⟩
abbrev cX8_daysOf : ByteArray := prog_10_method_23_code
def yX8_daysOf : MethodName := ⟨RX8, "daysOf", "(II)I"⟩
abbrev cX8_dayNumber : ByteArray := prog_10_method_24_code
def yX8_dayNumber : MethodName := ⟨RX8, "dayNumber", "(III)J"⟩
abbrev cX8_begins : ByteArray := prog_10_method_25_code
def yX8_begins : MethodName := ⟨RX8, "begins", "(IIII)Z"⟩
abbrev cX8_isSign : ByteArray := prog_10_method_26_code
def yX8_isSign : MethodName := ⟨RX8, "isSign", "(III)Z"⟩
abbrev cX8_someDay : ByteArray := prog_10_method_27_code
def yX8_someDay : MethodName := ⟨RX8, "someDay", "(IIII)I"⟩
abbrev cX8_held : ByteArray := prog_10_method_28_code
def yX8_held : MethodName := ⟨RX8, "held", "(III)I"⟩
abbrev cX8_countsNow : ByteArray := prog_10_method_29_code
def yX8_countsNow : MethodName := ⟨RX8, "countsNow", "(II)Z"⟩
abbrev cX8_value : ByteArray := prog_10_method_30_code
def yX8_value : MethodName := ⟨RX8, "value", "(II)J"⟩
abbrev cX8_open : ByteArray := prog_10_method_31_code
def yX8_open : MethodName := ⟨RX8, "open", "(II)Z"⟩
abbrev cX8_good : ByteArray := prog_10_method_32_code
def yX8_good : MethodName := ⟨RX8, "good", "(II)I"⟩
abbrev cX8_state : ByteArray := prog_10_method_33_code
def yX8_state : MethodName := ⟨RX8, "state", "(II)I"⟩
abbrev cX8_say : ByteArray := prog_10_method_34_code
def yX8_say : MethodName := ⟨RX8, "say", "(I)V"⟩
abbrev cX8_sayMark : ByteArray := prog_10_method_35_code
def yX8_sayMark : MethodName := ⟨RX8, "sayMark", "(I)V"⟩
abbrev cX8_sayDigits : ByteArray := prog_10_method_36_code
def yX8_sayDigits : MethodName := ⟨RX8, "sayDigits", "(II)V"⟩
abbrev cX8_makeAmount : ByteArray := prog_10_method_37_code
def yX8_makeAmount : MethodName := ⟨RX8, "makeAmount", "(IIJI)Z"⟩
abbrev cX8_makeDay : ByteArray := prog_10_method_38_code
def yX8_makeDay : MethodName := ⟨RX8, "makeDay", "(IJ)Z"⟩
abbrev cX8_make : ByteArray := prog_10_method_39_code
def yX8_make : MethodName := ⟨RX8, "make", "(IIJI)Z"⟩
abbrev cX8_keep : ByteArray := prog_10_method_40_code
def yX8_keep : MethodName := ⟨RX8, "keep", "()I"⟩
abbrev cX8_show : ByteArray := prog_10_method_41_code
def yX8_show : MethodName := ⟨RX8, "show", "(IIJI)I"⟩
abbrev cX8_sayWord : ByteArray := prog_10_method_42_code
def yX8_sayWord : MethodName := ⟨RX8, "sayWord", "(J)V"⟩
abbrev cX8_sayBelow20 : ByteArray := prog_10_method_43_code
def yX8_sayBelow20 : MethodName := ⟨RX8, "sayBelow20", "(I)V"⟩
abbrev cX8_sayTens : ByteArray := prog_10_method_44_code
def yX8_sayTens : MethodName := ⟨RX8, "sayTens", "(I)V"⟩
abbrev cX8_sayBelow1000 : ByteArray := prog_10_method_45_code
def yX8_sayBelow1000 : MethodName := ⟨RX8, "sayBelow1000", "(I)V"⟩
abbrev cX8_makeWords : ByteArray := prog_10_method_46_code
def yX8_makeWords : MethodName := ⟨RX8, "makeWords", "(I)V"⟩
abbrev cX8_words : ByteArray := prog_10_method_47_code
def yX8_words : MethodName := ⟨RX8, "words", "(I)I"⟩
abbrev cX8_shown : ByteArray := prog_10_method_48_code
def yX8_shown : MethodName := ⟨RX8, "shown", "(I)I"⟩
abbrev cX8_take : ByteArray := prog_10_method_49_code
def yX8_take : MethodName := ⟨RX8, "take", "()I"⟩
abbrev cX8_isAt : ByteArray := prog_10_method_50_code
def yX8_isAt : MethodName := ⟨RX8, "isAt", "(I)Z"⟩
abbrev cX8_below1000At : ByteArray := prog_10_method_51_code
def yX8_below1000At : MethodName := ⟨RX8, "below1000At", "(I)I"⟩
abbrev cX8_wordAt : ByteArray := prog_10_method_52_code
def yX8_wordAt : MethodName := ⟨RX8, "wordAt", "(IJ)Z"⟩
abbrev cX8_spoken : ByteArray := prog_10_method_53_code
def yX8_spoken : MethodName := ⟨RX8, "spoken", "()I"⟩
abbrev cX8_other : ByteArray := prog_10_method_54_code
def yX8_other : MethodName := ⟨RX8, "other", "(IIIJI)J"⟩
abbrev cX8_row : ByteArray := prog_10_method_55_code
def yX8_row : MethodName := ⟨RX8, "row", "()I"⟩
abbrev cX8_clear : ByteArray := prog_10_method_56_code
def yX8_clear : MethodName := ⟨RX8, "clear", "()V"⟩
abbrev cX8_firstMisfit : ByteArray := prog_10_method_57_code
def yX8_firstMisfit : MethodName := ⟨RX8, "firstMisfit", "(II)I"⟩
abbrev cX8_fit : ByteArray := prog_10_method_58_code
def yX8_fit : MethodName := ⟨RX8, "fit", "(I)I"⟩
abbrev cX8_misfit : ByteArray := prog_10_method_59_code
def yX8_misfit : MethodName := ⟨RX8, "misfit", "(II)I"⟩
abbrev cX8_sum : ByteArray := prog_10_method_60_code
def yX8_sum : MethodName := ⟨RX8, "sum", "(II)J"⟩
abbrev cX8_count : ByteArray := prog_10_method_61_code
def yX8_count : MethodName := ⟨RX8, "count", "(I)I"⟩
abbrev cX8_image : ByteArray := prog_10_method_62_code
def yX8_image : MethodName := ⟨RX8, "image", "(I)Z"⟩
abbrev cX8_again : ByteArray := prog_10_method_63_code
def yX8_again : MethodName := ⟨RX8, "again", "(I)Z"⟩
def RJ9 : String := "java/lang/Math"
def TJ9 : u_T := fun k => match k with
  | _ => ("", "", "", false)
def tyJ9 : Nat → FieldType := fun k => match k with
  | _ => .int
abbrev wsJ90 : List Cond := u_ws RJ9 TJ9 0
theorem nmJ9 : ∀ a, a < 0 → ∀ b, b < 0 → a ≠ b → (TJ9 a).2.1 ≠ (TJ9 b).2.1 := by decide +kernel
theorem tyJ9_ok : ∀ k, k < 0 → parseFieldDescriptor (TJ9 k).2.2.1 = some (tyJ9 k) := by decide +kernel
abbrev cJ9_abs_067f4 : ByteArray := prog_11_method_61_code
def yJ9_abs_067f4 : MethodName := ⟨RJ9, "abs", "(J)J"⟩
abbrev cJ9_max_7cf53 : ByteArray := prog_11_method_65_code
def yJ9_max_7cf53 : MethodName := ⟨RJ9, "max", "(II)I"⟩
abbrev cJ9_min_7cf53 : ByteArray := prog_11_method_69_code
def yJ9_min_7cf53 : MethodName := ⟨RJ9, "min", "(II)I"⟩
def RJ0 : String := "java/lang/String"
def TJ0 : u_T := fun k => match k with
  | _ => ("", "", "", false)
def tyJ0 : Nat → FieldType := fun k => match k with
  | _ => .int
abbrev wsJ00 : List Cond := u_ws RJ0 TJ0 0
theorem nmJ0 : ∀ a, a < 0 → ∀ b, b < 0 → a ≠ b → (TJ0 a).2.1 ≠ (TJ0 b).2.1 := by decide +kernel
theorem tyJ0_ok : ∀ k, k < 0 → parseFieldDescriptor (TJ0 k).2.2.1 = some (tyJ0 k) := by decide +kernel
abbrev cJ0_length_8abf5 : ByteArray := prog_12_method_54_code
def yJ0_length_8abf5 : MethodName := ⟨RJ0, "length", "()I"⟩
abbrev cJ0_charAt_5068e : ByteArray := prog_12_method_56_code
def yJ0_charAt_5068e : MethodName := ⟨RJ0, "charAt", "(I)C"⟩
abbrev cJ0_coder_7d493 : ByteArray := prog_12_method_152_code
def yJ0_coder_7d493 : MethodName := ⟨RJ0, "coder", "()B"⟩
abbrev cJ0_isLatin1_aae02 : ByteArray := prog_12_method_154_code
def yJ0_isLatin1_aae02 : MethodName := ⟨RJ0, "isLatin1", "()Z"⟩
abbrev cJ0_checkIndex_df160 : ByteArray := prog_12_method_155_code
def yJ0_checkIndex_df160 : MethodName := ⟨RJ0, "checkIndex", "(II)V"⟩
def RJ1 : String := "java/lang/StringLatin1"
def TJ1 : u_T := fun k => match k with
  | _ => ("", "", "", false)
def tyJ1 : Nat → FieldType := fun k => match k with
  | _ => .int
abbrev wsJ10 : List Cond := u_ws RJ1 TJ1 0
theorem nmJ1 : ∀ a, a < 0 → ∀ b, b < 0 → a ≠ b → (TJ1 a).2.1 ≠ (TJ1 b).2.1 := by decide +kernel
theorem tyJ1_ok : ∀ k, k < 0 → parseFieldDescriptor (TJ1 k).2.2.1 = some (tyJ1 k) := by decide +kernel
abbrev cJ1_charAt_3b067 : ByteArray := prog_13_method_2_code
def yJ1_charAt_3b067 : MethodName := ⟨RJ1, "charAt", "([BI)C"⟩
def RJ2 : String := "java/lang/StringUTF16"
def TJ2 : u_T := fun k => match k with
  | _ => ("", "", "", false)
def tyJ2 : Nat → FieldType := fun k => match k with
  | _ => .int
abbrev wsJ20 : List Cond := u_ws RJ2 TJ2 0
theorem nmJ2 : ∀ a, a < 0 → ∀ b, b < 0 → a ≠ b → (TJ2 a).2.1 ≠ (TJ2 b).2.1 := by decide +kernel
theorem tyJ2_ok : ∀ k, k < 0 → parseFieldDescriptor (TJ2 k).2.2.1 = some (tyJ2 k) := by decide +kernel
abbrev cJ2_getChar_3b067 : ByteArray := prog_14_method_5_code
def yJ2_getChar_3b067 : MethodName := ⟨RJ2, "getChar", "([BI)C"⟩
abbrev cJ2_length_9d52b : ByteArray := prog_14_method_6_code
def yJ2_length_9d52b : MethodName := ⟨RJ2, "length", "([B)I"⟩
abbrev cJ2_charAt_3b067 : ByteArray := prog_14_method_83_code
def yJ2_charAt_3b067 : MethodName := ⟨RJ2, "charAt", "([BI)C"⟩
abbrev cJ2_checkIndex_2214a : ByteArray := prog_14_method_91_code
def yJ2_checkIndex_2214a : MethodName := ⟨RJ2, "checkIndex", "(I[B)V"⟩
def RJ10 : String := "java/lang/System"
def TJ10 : u_T := fun k => match k with
  | _ => ("", "", "", false)
def tyJ10 : Nat → FieldType := fun k => match k with
  | _ => .int
theorem nmJ10 : ∀ a, a < 0 → ∀ b, b < 0 → a ≠ b → (TJ10 a).2.1 ≠ (TJ10 b).2.1 := by decide +kernel
theorem tyJ10_ok : ∀ k, k < 0 → parseFieldDescriptor (TJ10 k).2.2.1 = some (tyJ10 k) := by decide +kernel
def RJ3 : String := "jdk/internal/util/Preconditions"
def TJ3 : u_T := fun k => match k with
  | _ => ("", "", "", false)
def tyJ3 : Nat → FieldType := fun k => match k with
  | _ => .int
abbrev wsJ30 : List Cond := u_ws RJ3 TJ3 0
theorem nmJ3 : ∀ a, a < 0 → ∀ b, b < 0 → a ≠ b → (TJ3 a).2.1 ≠ (TJ3 b).2.1 := by decide +kernel
theorem tyJ3_ok : ∀ k, k < 0 → parseFieldDescriptor (TJ3 k).2.2.1 = some (tyJ3 k) := by decide +kernel
abbrev cJ3_checkIndex_8e157 : ByteArray := prog_16_method_11_code
def yJ3_checkIndex_8e157 : MethodName := ⟨RJ3, "checkIndex", "(IILjava/util/function/BiFunction;)I"⟩
def RL : String := "TypedAmountsLaw"
abbrev cL_law : ByteArray := code
theorem inX0 : ∀ w ∈ wsX00, w ∈ lw_tbl := by decide +kernel
theorem inX1 : ∀ w ∈ wsX10, w ∈ lw_tbl := by decide +kernel
theorem inX2 : ∀ w ∈ wsX20, w ∈ lw_tbl := by decide +kernel
theorem inX3 : ∀ w ∈ wsX30, w ∈ lw_tbl := by decide +kernel
theorem inX4 : ∀ w ∈ wsX40, w ∈ lw_tbl := by decide +kernel
theorem inX5 : ∀ w ∈ wsX50, w ∈ lw_tbl := by decide +kernel
theorem inX6 : ∀ w ∈ wsX60, w ∈ lw_tbl := by decide +kernel
theorem inX7 : ∀ w ∈ wsX70, w ∈ lw_tbl := by decide +kernel
theorem inX8 : ∀ w ∈ wsX80, w ∈ lw_tbl := by decide +kernel
theorem inJ9 : ∀ w ∈ wsJ90, w ∈ lw_tbl := by decide +kernel
theorem inJ0 : ∀ w ∈ wsJ00, w ∈ lw_tbl := by decide +kernel
theorem inJ1 : ∀ w ∈ wsJ10, w ∈ lw_tbl := by decide +kernel
theorem inJ2 : ∀ w ∈ wsJ20, w ∈ lw_tbl := by decide +kernel
theorem inJ3 : ∀ w ∈ wsJ30, w ∈ lw_tbl := by decide +kernel
abbrev vwCl : List vw_C := [(RX1, TX1, 8), (RX2, TX2, 9), (RX3, TX3, 9), (RX4, TX4, 2), (RX7, TX7, 4), (RX8, TX8, 29)]
end
section
theorem dX0_isLeap_0 : decode cX0_isLeap 0 = .ok (.iload_n 0, 1) := by decide +kernel
theorem dX0_isLeap_1 : decode cX0_isLeap 1 = .ok (.iconst 4, 1) := by decide +kernel
theorem dX0_isLeap_2 : decode cX0_isLeap 2 = .ok (.irem, 1) := by decide +kernel
theorem dX0_isLeap_3 : decode cX0_isLeap 3 = .ok (.ifCond .ne 10, 3) := by decide +kernel
theorem dX0_isLeap_6 : decode cX0_isLeap 6 = .ok (.iload_n 0, 1) := by decide +kernel
theorem dX0_isLeap_7 : decode cX0_isLeap 7 = .ok (.bipush 100, 2) := by decide +kernel
theorem dX0_isLeap_9 : decode cX0_isLeap 9 = .ok (.irem, 1) := by decide +kernel
theorem dX0_isLeap_10 : decode cX0_isLeap 10 = .ok (.ifCond .ne 11, 3) := by decide +kernel
theorem dX0_isLeap_13 : decode cX0_isLeap 13 = .ok (.iload_n 0, 1) := by decide +kernel
theorem dX0_isLeap_14 : decode cX0_isLeap 14 = .ok (.sipush 400, 3) := by decide +kernel
theorem dX0_isLeap_17 : decode cX0_isLeap 17 = .ok (.irem, 1) := by decide +kernel
theorem dX0_isLeap_18 : decode cX0_isLeap 18 = .ok (.ifCond .ne 7, 3) := by decide +kernel
theorem dX0_isLeap_21 : decode cX0_isLeap 21 = .ok (.iconst 1, 1) := by decide +kernel
theorem dX0_isLeap_22 : decode cX0_isLeap 22 = .ok (.goto 4, 3) := by decide +kernel
theorem dX0_isLeap_25 : decode cX0_isLeap 25 = .ok (.iconst 0, 1) := by decide +kernel
theorem dX0_isLeap_26 : decode cX0_isLeap 26 = .ok (.ireturn, 1) := by decide +kernel
theorem dX0_lengthOf_0 : decode cX0_lengthOf 0 = .ok (.iload_n 0, 1) := by decide +kernel
theorem dX0_lengthOf_1 : decode cX0_lengthOf 1 = .ok (.iconst 1, 1) := by decide +kernel
theorem dX0_lengthOf_2 : decode cX0_lengthOf 2 = .ok (.if_icmp .lt 11, 3) := by decide +kernel
theorem dX0_lengthOf_5 : decode cX0_lengthOf 5 = .ok (.iload_n 0, 1) := by decide +kernel
theorem dX0_lengthOf_6 : decode cX0_lengthOf 6 = .ok (.getstatic 7, 3) := by decide +kernel
theorem dX0_lengthOf_9 : decode cX0_lengthOf 9 = .ok (.arraylength, 1) := by decide +kernel
theorem dX0_lengthOf_10 : decode cX0_lengthOf 10 = .ok (.if_icmp .le 5, 3) := by decide +kernel
theorem dX0_lengthOf_13 : decode cX0_lengthOf 13 = .ok (.iconst 0, 1) := by decide +kernel
theorem dX0_lengthOf_14 : decode cX0_lengthOf 14 = .ok (.ireturn, 1) := by decide +kernel
theorem dX0_lengthOf_15 : decode cX0_lengthOf 15 = .ok (.iload_n 0, 1) := by decide +kernel
theorem dX0_lengthOf_16 : decode cX0_lengthOf 16 = .ok (.iconst 2, 1) := by decide +kernel
theorem dX0_lengthOf_17 : decode cX0_lengthOf 17 = .ok (.if_icmp .ne 12, 3) := by decide +kernel
theorem dX0_lengthOf_20 : decode cX0_lengthOf 20 = .ok (.iload_n 1, 1) := by decide +kernel
theorem dX0_lengthOf_21 : decode cX0_lengthOf 21 = .ok (.ifCond .eq 8, 3) := by decide +kernel
theorem dX0_lengthOf_24 : decode cX0_lengthOf 24 = .ok (.bipush 29, 2) := by decide +kernel
theorem dX0_lengthOf_26 : decode cX0_lengthOf 26 = .ok (.goto 10, 3) := by decide +kernel
theorem dX0_lengthOf_29 : decode cX0_lengthOf 29 = .ok (.getstatic 7, 3) := by decide +kernel
theorem dX0_lengthOf_32 : decode cX0_lengthOf 32 = .ok (.iload_n 0, 1) := by decide +kernel
theorem dX0_lengthOf_33 : decode cX0_lengthOf 33 = .ok (.iconst 1, 1) := by decide +kernel
theorem dX0_lengthOf_34 : decode cX0_lengthOf 34 = .ok (.isub, 1) := by decide +kernel
theorem dX0_lengthOf_35 : decode cX0_lengthOf 35 = .ok (.iaload, 1) := by decide +kernel
theorem dX0_lengthOf_36 : decode cX0_lengthOf 36 = .ok (.ireturn, 1) := by decide +kernel
theorem dX0_isDay_0 : decode cX0_isDay 0 = .ok (.iload_n 0, 1) := by decide +kernel
theorem dX0_isDay_1 : decode cX0_isDay 1 = .ok (.iconst 1, 1) := by decide +kernel
theorem dX0_isDay_2 : decode cX0_isDay 2 = .ok (.if_icmp .lt 31, 3) := by decide +kernel
theorem dX0_isDay_5 : decode cX0_isDay 5 = .ok (.iload_n 0, 1) := by decide +kernel
theorem dX0_isDay_6 : decode cX0_isDay 6 = .ok (.sipush 9999, 3) := by decide +kernel
theorem dX0_isDay_9 : decode cX0_isDay 9 = .ok (.if_icmp .gt 24, 3) := by decide +kernel
theorem dX0_isDay_12 : decode cX0_isDay 12 = .ok (.iload_n 2, 1) := by decide +kernel
theorem dX0_isDay_13 : decode cX0_isDay 13 = .ok (.iconst 1, 1) := by decide +kernel
theorem dX0_isDay_14 : decode cX0_isDay 14 = .ok (.if_icmp .lt 19, 3) := by decide +kernel
theorem dX0_isDay_17 : decode cX0_isDay 17 = .ok (.iload_n 2, 1) := by decide +kernel
theorem dX0_isDay_18 : decode cX0_isDay 18 = .ok (.iload_n 1, 1) := by decide +kernel
theorem dX0_isDay_19 : decode cX0_isDay 19 = .ok (.iload_n 0, 1) := by decide +kernel
theorem dX0_isDay_20 : decode cX0_isDay 20 = .ok (.invokestatic 13, 3) := by decide +kernel
theorem dX0_isDay_23 : decode cX0_isDay 23 = .ok (.invokestatic 17, 3) := by decide +kernel
theorem dX0_isDay_26 : decode cX0_isDay 26 = .ok (.if_icmp .gt 7, 3) := by decide +kernel
theorem dX0_isDay_29 : decode cX0_isDay 29 = .ok (.iconst 1, 1) := by decide +kernel
theorem dX0_isDay_30 : decode cX0_isDay 30 = .ok (.goto 4, 3) := by decide +kernel
theorem dX0_isDay_33 : decode cX0_isDay 33 = .ok (.iconst 0, 1) := by decide +kernel
theorem dX0_isDay_34 : decode cX0_isDay 34 = .ok (.ireturn, 1) := by decide +kernel
theorem dX0_beforeYear_0 : decode cX0_beforeYear 0 = .ok (.iload_n 0, 1) := by decide +kernel
theorem dX0_beforeYear_1 : decode cX0_beforeYear 1 = .ok (.iconst 1, 1) := by decide +kernel
theorem dX0_beforeYear_2 : decode cX0_beforeYear 2 = .ok (.isub, 1) := by decide +kernel
theorem dX0_beforeYear_3 : decode cX0_beforeYear 3 = .ok (.istore_n 1, 1) := by decide +kernel
theorem dX0_beforeYear_4 : decode cX0_beforeYear 4 = .ok (.iload_n 1, 1) := by decide +kernel
theorem dX0_beforeYear_5 : decode cX0_beforeYear 5 = .ok (.sipush 365, 3) := by decide +kernel
theorem dX0_beforeYear_8 : decode cX0_beforeYear 8 = .ok (.imul, 1) := by decide +kernel
theorem dX0_beforeYear_9 : decode cX0_beforeYear 9 = .ok (.iload_n 1, 1) := by decide +kernel
theorem dX0_beforeYear_10 : decode cX0_beforeYear 10 = .ok (.iconst 4, 1) := by decide +kernel
theorem dX0_beforeYear_11 : decode cX0_beforeYear 11 = .ok (.idiv, 1) := by decide +kernel
theorem dX0_beforeYear_12 : decode cX0_beforeYear 12 = .ok (.iadd, 1) := by decide +kernel
theorem dX0_beforeYear_13 : decode cX0_beforeYear 13 = .ok (.iload_n 1, 1) := by decide +kernel
theorem dX0_beforeYear_14 : decode cX0_beforeYear 14 = .ok (.bipush 100, 2) := by decide +kernel
theorem dX0_beforeYear_16 : decode cX0_beforeYear 16 = .ok (.idiv, 1) := by decide +kernel
theorem dX0_beforeYear_17 : decode cX0_beforeYear 17 = .ok (.isub, 1) := by decide +kernel
theorem dX0_beforeYear_18 : decode cX0_beforeYear 18 = .ok (.iload_n 1, 1) := by decide +kernel
theorem dX0_beforeYear_19 : decode cX0_beforeYear 19 = .ok (.sipush 400, 3) := by decide +kernel
theorem dX0_beforeYear_22 : decode cX0_beforeYear 22 = .ok (.idiv, 1) := by decide +kernel
theorem dX0_beforeYear_23 : decode cX0_beforeYear 23 = .ok (.iadd, 1) := by decide +kernel
theorem dX0_beforeYear_24 : decode cX0_beforeYear 24 = .ok (.ireturn, 1) := by decide +kernel
theorem dX0_numberOf_0 : decode cX0_numberOf 0 = .ok (.iload_n 0, 1) := by decide +kernel
theorem dX0_numberOf_1 : decode cX0_numberOf 1 = .ok (.invokestatic 13, 3) := by decide +kernel
theorem dX0_numberOf_4 : decode cX0_numberOf 4 = .ok (.istore_n 3, 1) := by decide +kernel
theorem dX0_numberOf_5 : decode cX0_numberOf 5 = .ok (.iload_n 0, 1) := by decide +kernel
theorem dX0_numberOf_6 : decode cX0_numberOf 6 = .ok (.invokestatic 21, 3) := by decide +kernel
theorem dX0_numberOf_9 : decode cX0_numberOf 9 = .ok (.iload_n 2, 1) := by decide +kernel
theorem dX0_numberOf_10 : decode cX0_numberOf 10 = .ok (.iadd, 1) := by decide +kernel
theorem dX0_numberOf_11 : decode cX0_numberOf 11 = .ok (.iconst 1, 1) := by decide +kernel
theorem dX0_numberOf_12 : decode cX0_numberOf 12 = .ok (.isub, 1) := by decide +kernel
theorem dX0_numberOf_13 : decode cX0_numberOf 13 = .ok (.istore 4, 2) := by decide +kernel
theorem dX0_numberOf_15 : decode cX0_numberOf 15 = .ok (.iconst 1, 1) := by decide +kernel
theorem dX0_numberOf_16 : decode cX0_numberOf 16 = .ok (.istore 5, 2) := by decide +kernel
theorem dX0_numberOf_18 : decode cX0_numberOf 18 = .ok (.iload 5, 2) := by decide +kernel
theorem dX0_numberOf_20 : decode cX0_numberOf 20 = .ok (.iload_n 1, 1) := by decide +kernel
theorem dX0_numberOf_21 : decode cX0_numberOf 21 = .ok (.if_icmp .ge 27, 3) := by decide +kernel
theorem dX0_numberOf_24 : decode cX0_numberOf 24 = .ok (.iload 5, 2) := by decide +kernel
theorem dX0_numberOf_26 : decode cX0_numberOf 26 = .ok (.bipush 12, 2) := by decide +kernel
theorem dX0_numberOf_28 : decode cX0_numberOf 28 = .ok (.if_icmp .gt 20, 3) := by decide +kernel
theorem dX0_numberOf_31 : decode cX0_numberOf 31 = .ok (.iload 4, 2) := by decide +kernel
theorem dX0_numberOf_33 : decode cX0_numberOf 33 = .ok (.iload 5, 2) := by decide +kernel
theorem dX0_numberOf_35 : decode cX0_numberOf 35 = .ok (.iload_n 3, 1) := by decide +kernel
theorem dX0_numberOf_36 : decode cX0_numberOf 36 = .ok (.invokestatic 17, 3) := by decide +kernel
theorem dX0_numberOf_39 : decode cX0_numberOf 39 = .ok (.iadd, 1) := by decide +kernel
theorem dX0_numberOf_40 : decode cX0_numberOf 40 = .ok (.istore 4, 2) := by decide +kernel
theorem dX0_numberOf_42 : decode cX0_numberOf 42 = .ok (.iinc 5 1, 3) := by decide +kernel
theorem dX0_numberOf_45 : decode cX0_numberOf 45 = .ok (.goto (-27), 3) := by decide +kernel
theorem dX0_numberOf_48 : decode cX0_numberOf 48 = .ok (.iload 4, 2) := by decide +kernel
theorem dX0_numberOf_50 : decode cX0_numberOf 50 = .ok (.ireturn, 1) := by decide +kernel
theorem dX0_yearOf_0 : decode cX0_yearOf 0 = .ok (.iload_n 0, 1) := by decide +kernel
theorem dX0_yearOf_1 : decode cX0_yearOf 1 = .ok (.ldc 25, 2) := by decide +kernel
theorem dX0_yearOf_3 : decode cX0_yearOf 3 = .ok (.irem, 1) := by decide +kernel
theorem dX0_yearOf_4 : decode cX0_yearOf 4 = .ok (.istore_n 1, 1) := by decide +kernel
theorem dX0_yearOf_5 : decode cX0_yearOf 5 = .ok (.iload_n 1, 1) := by decide +kernel
theorem dX0_yearOf_6 : decode cX0_yearOf 6 = .ok (.ldc 26, 2) := by decide +kernel
theorem dX0_yearOf_8 : decode cX0_yearOf 8 = .ok (.idiv, 1) := by decide +kernel
theorem dX0_yearOf_9 : decode cX0_yearOf 9 = .ok (.iconst 3, 1) := by decide +kernel
theorem dX0_yearOf_10 : decode cX0_yearOf 10 = .ok (.invokestatic 27, 3) := by decide +kernel
theorem dX0_yearOf_13 : decode cX0_yearOf 13 = .ok (.istore_n 2, 1) := by decide +kernel
theorem dX0_yearOf_14 : decode cX0_yearOf 14 = .ok (.iload_n 1, 1) := by decide +kernel
theorem dX0_yearOf_15 : decode cX0_yearOf 15 = .ok (.iload_n 2, 1) := by decide +kernel
theorem dX0_yearOf_16 : decode cX0_yearOf 16 = .ok (.ldc 26, 2) := by decide +kernel
theorem dX0_yearOf_18 : decode cX0_yearOf 18 = .ok (.imul, 1) := by decide +kernel
theorem dX0_yearOf_19 : decode cX0_yearOf 19 = .ok (.isub, 1) := by decide +kernel
theorem dX0_yearOf_20 : decode cX0_yearOf 20 = .ok (.istore_n 1, 1) := by decide +kernel
theorem dX0_yearOf_21 : decode cX0_yearOf 21 = .ok (.iload_n 1, 1) := by decide +kernel
theorem dX0_yearOf_22 : decode cX0_yearOf 22 = .ok (.sipush 1461, 3) := by decide +kernel
theorem dX0_yearOf_25 : decode cX0_yearOf 25 = .ok (.idiv, 1) := by decide +kernel
theorem dX0_yearOf_26 : decode cX0_yearOf 26 = .ok (.istore_n 3, 1) := by decide +kernel
theorem dX0_yearOf_27 : decode cX0_yearOf 27 = .ok (.iload_n 1, 1) := by decide +kernel
theorem dX0_yearOf_28 : decode cX0_yearOf 28 = .ok (.iload_n 3, 1) := by decide +kernel
theorem dX0_yearOf_29 : decode cX0_yearOf 29 = .ok (.sipush 1461, 3) := by decide +kernel
theorem dX0_yearOf_32 : decode cX0_yearOf 32 = .ok (.imul, 1) := by decide +kernel
theorem dX0_yearOf_33 : decode cX0_yearOf 33 = .ok (.isub, 1) := by decide +kernel
theorem dX0_yearOf_34 : decode cX0_yearOf 34 = .ok (.istore_n 1, 1) := by decide +kernel
theorem dX0_yearOf_35 : decode cX0_yearOf 35 = .ok (.iload_n 1, 1) := by decide +kernel
theorem dX0_yearOf_36 : decode cX0_yearOf 36 = .ok (.sipush 365, 3) := by decide +kernel
theorem dX0_yearOf_39 : decode cX0_yearOf 39 = .ok (.idiv, 1) := by decide +kernel
theorem dX0_yearOf_40 : decode cX0_yearOf 40 = .ok (.iconst 3, 1) := by decide +kernel
theorem dX0_yearOf_41 : decode cX0_yearOf 41 = .ok (.invokestatic 27, 3) := by decide +kernel
theorem dX0_yearOf_44 : decode cX0_yearOf 44 = .ok (.istore 4, 2) := by decide +kernel
theorem dX0_yearOf_46 : decode cX0_yearOf 46 = .ok (.iload_n 0, 1) := by decide +kernel
theorem dX0_yearOf_47 : decode cX0_yearOf 47 = .ok (.ldc 25, 2) := by decide +kernel
theorem dX0_yearOf_49 : decode cX0_yearOf 49 = .ok (.idiv, 1) := by decide +kernel
theorem dX0_yearOf_50 : decode cX0_yearOf 50 = .ok (.sipush 400, 3) := by decide +kernel
theorem dX0_yearOf_53 : decode cX0_yearOf 53 = .ok (.imul, 1) := by decide +kernel
theorem dX0_yearOf_54 : decode cX0_yearOf 54 = .ok (.iload_n 2, 1) := by decide +kernel
theorem dX0_yearOf_55 : decode cX0_yearOf 55 = .ok (.bipush 100, 2) := by decide +kernel
theorem dX0_yearOf_57 : decode cX0_yearOf 57 = .ok (.imul, 1) := by decide +kernel
theorem dX0_yearOf_58 : decode cX0_yearOf 58 = .ok (.iadd, 1) := by decide +kernel
theorem dX0_yearOf_59 : decode cX0_yearOf 59 = .ok (.iload_n 3, 1) := by decide +kernel
theorem dX0_yearOf_60 : decode cX0_yearOf 60 = .ok (.iconst 4, 1) := by decide +kernel
theorem dX0_yearOf_61 : decode cX0_yearOf 61 = .ok (.imul, 1) := by decide +kernel
theorem dX0_yearOf_62 : decode cX0_yearOf 62 = .ok (.iadd, 1) := by decide +kernel
theorem dX0_yearOf_63 : decode cX0_yearOf 63 = .ok (.iload 4, 2) := by decide +kernel
theorem dX0_yearOf_65 : decode cX0_yearOf 65 = .ok (.iadd, 1) := by decide +kernel
theorem dX0_yearOf_66 : decode cX0_yearOf 66 = .ok (.iconst 1, 1) := by decide +kernel
theorem dX0_yearOf_67 : decode cX0_yearOf 67 = .ok (.iadd, 1) := by decide +kernel
theorem dX0_yearOf_68 : decode cX0_yearOf 68 = .ok (.ireturn, 1) := by decide +kernel
theorem dX1_init_0 : decode cX1_init 0 = .ok (.aload_n 0, 1) := by decide +kernel
theorem dX1_init_1 : decode cX1_init 1 = .ok (.invokespecial 3, 3) := by decide +kernel
theorem dX1_init_4 : decode cX1_init 4 = .ok (.aload_n 0, 1) := by decide +kernel
theorem dX1_init_5 : decode cX1_init 5 = .ok (.iload_n 1, 1) := by decide +kernel
theorem dX1_init_6 : decode cX1_init 6 = .ok (.putfield 9, 3) := by decide +kernel
theorem dX1_init_9 : decode cX1_init 9 = .ok (.aload_n 0, 1) := by decide +kernel
theorem dX1_init_10 : decode cX1_init 10 = .ok (.iload_n 2, 1) := by decide +kernel
theorem dX1_init_11 : decode cX1_init 11 = .ok (.putfield 15, 3) := by decide +kernel
theorem dX1_init_14 : decode cX1_init 14 = .ok (.aload_n 0, 1) := by decide +kernel
theorem dX1_init_15 : decode cX1_init 15 = .ok (.iload_n 3, 1) := by decide +kernel
theorem dX1_init_16 : decode cX1_init 16 = .ok (.iconst 1, 1) := by decide +kernel
theorem dX1_init_17 : decode cX1_init 17 = .ok (.if_icmp .ne 7, 3) := by decide +kernel
theorem dX1_init_20 : decode cX1_init 20 = .ok (.iconst 1, 1) := by decide +kernel
theorem dX1_init_21 : decode cX1_init 21 = .ok (.goto 4, 3) := by decide +kernel
theorem dX1_init_24 : decode cX1_init 24 = .ok (.iconst 0, 1) := by decide +kernel
theorem dX1_init_25 : decode cX1_init 25 = .ok (.putfield 18, 3) := by decide +kernel
theorem dX1_init_28 : decode cX1_init 28 = .ok (.aload_n 0, 1) := by decide +kernel
theorem dX1_init_29 : decode cX1_init 29 = .ok (.iload 4, 2) := by decide +kernel
theorem dX1_init_31 : decode cX1_init 31 = .ok (.putfield 22, 3) := by decide +kernel
theorem dX1_init_34 : decode cX1_init 34 = .ok (.aload_n 0, 1) := by decide +kernel
theorem dX1_init_35 : decode cX1_init 35 = .ok (.iload 5, 2) := by decide +kernel
theorem dX1_init_37 : decode cX1_init 37 = .ok (.putfield 25, 3) := by decide +kernel
theorem dX1_init_40 : decode cX1_init 40 = .ok (.aload_n 0, 1) := by decide +kernel
theorem dX1_init_41 : decode cX1_init 41 = .ok (.iload 6, 2) := by decide +kernel
theorem dX1_init_43 : decode cX1_init 43 = .ok (.putfield 28, 3) := by decide +kernel
theorem dX1_init_46 : decode cX1_init 46 = .ok (.return_, 1) := by decide +kernel
theorem dX1_setDays_0 : decode cX1_setDays 0 = .ok (.aload_n 0, 1) := by decide +kernel
theorem dX1_setDays_1 : decode cX1_setDays 1 = .ok (.iload_n 1, 1) := by decide +kernel
theorem dX1_setDays_2 : decode cX1_setDays 2 = .ok (.putfield 31, 3) := by decide +kernel
theorem dX1_setDays_5 : decode cX1_setDays 5 = .ok (.aload_n 0, 1) := by decide +kernel
theorem dX1_setDays_6 : decode cX1_setDays 6 = .ok (.iload_n 2, 1) := by decide +kernel
theorem dX1_setDays_7 : decode cX1_setDays 7 = .ok (.putfield 34, 3) := by decide +kernel
theorem dX1_setDays_10 : decode cX1_setDays 10 = .ok (.return_, 1) := by decide +kernel
theorem dX1_canWriteNumbers_0 : decode cX1_canWriteNumbers 0 = .ok (.iload_n 0, 1) := by decide +kernel
theorem dX1_canWriteNumbers_1 : decode cX1_canWriteNumbers 1 = .ok (.bipush 44, 2) := by decide +kernel
theorem dX1_canWriteNumbers_3 : decode cX1_canWriteNumbers 3 = .ok (.if_icmp .eq 9, 3) := by decide +kernel
theorem dX1_canWriteNumbers_6 : decode cX1_canWriteNumbers 6 = .ok (.iload_n 0, 1) := by decide +kernel
theorem dX1_canWriteNumbers_7 : decode cX1_canWriteNumbers 7 = .ok (.bipush 46, 2) := by decide +kernel
theorem dX1_canWriteNumbers_9 : decode cX1_canWriteNumbers 9 = .ok (.if_icmp .ne 7, 3) := by decide +kernel
theorem dX1_canWriteNumbers_12 : decode cX1_canWriteNumbers 12 = .ok (.iconst 1, 1) := by decide +kernel
theorem dX1_canWriteNumbers_13 : decode cX1_canWriteNumbers 13 = .ok (.goto 4, 3) := by decide +kernel
theorem dX1_canWriteNumbers_16 : decode cX1_canWriteNumbers 16 = .ok (.iconst 0, 1) := by decide +kernel
theorem dX1_canWriteNumbers_17 : decode cX1_canWriteNumbers 17 = .ok (.istore 4, 2) := by decide +kernel
theorem dX1_canWriteNumbers_19 : decode cX1_canWriteNumbers 19 = .ok (.iload_n 1, 1) := by decide +kernel
theorem dX1_canWriteNumbers_20 : decode cX1_canWriteNumbers 20 = .ok (.bipush 44, 2) := by decide +kernel
theorem dX1_canWriteNumbers_22 : decode cX1_canWriteNumbers 22 = .ok (.if_icmp .eq 25, 3) := by decide +kernel
theorem dX1_canWriteNumbers_25 : decode cX1_canWriteNumbers 25 = .ok (.iload_n 1, 1) := by decide +kernel
theorem dX1_canWriteNumbers_26 : decode cX1_canWriteNumbers 26 = .ok (.bipush 46, 2) := by decide +kernel
theorem dX1_canWriteNumbers_28 : decode cX1_canWriteNumbers 28 = .ok (.if_icmp .eq 19, 3) := by decide +kernel
theorem dX1_canWriteNumbers_31 : decode cX1_canWriteNumbers 31 = .ok (.iload_n 1, 1) := by decide +kernel
theorem dX1_canWriteNumbers_32 : decode cX1_canWriteNumbers 32 = .ok (.bipush 32, 2) := by decide +kernel
theorem dX1_canWriteNumbers_34 : decode cX1_canWriteNumbers 34 = .ok (.if_icmp .eq 13, 3) := by decide +kernel
theorem dX1_canWriteNumbers_37 : decode cX1_canWriteNumbers 37 = .ok (.iload_n 1, 1) := by decide +kernel
theorem dX1_canWriteNumbers_38 : decode cX1_canWriteNumbers 38 = .ok (.bipush 39, 2) := by decide +kernel
theorem dX1_canWriteNumbers_40 : decode cX1_canWriteNumbers 40 = .ok (.if_icmp .eq 7, 3) := by decide +kernel
theorem dX1_canWriteNumbers_43 : decode cX1_canWriteNumbers 43 = .ok (.iload_n 1, 1) := by decide +kernel
theorem dX1_canWriteNumbers_44 : decode cX1_canWriteNumbers 44 = .ok (.ifCond .ne 7, 3) := by decide +kernel
theorem dX1_canWriteNumbers_47 : decode cX1_canWriteNumbers 47 = .ok (.iconst 1, 1) := by decide +kernel
theorem dX1_canWriteNumbers_48 : decode cX1_canWriteNumbers 48 = .ok (.goto 4, 3) := by decide +kernel
theorem dX1_canWriteNumbers_51 : decode cX1_canWriteNumbers 51 = .ok (.iconst 0, 1) := by decide +kernel
theorem dX1_canWriteNumbers_52 : decode cX1_canWriteNumbers 52 = .ok (.istore 5, 2) := by decide +kernel
theorem dX1_canWriteNumbers_54 : decode cX1_canWriteNumbers 54 = .ok (.iload 4, 2) := by decide +kernel
theorem dX1_canWriteNumbers_56 : decode cX1_canWriteNumbers 56 = .ok (.ifCond .eq 35, 3) := by decide +kernel
theorem dX1_canWriteNumbers_59 : decode cX1_canWriteNumbers 59 = .ok (.iload 5, 2) := by decide +kernel
theorem dX1_canWriteNumbers_61 : decode cX1_canWriteNumbers 61 = .ok (.ifCond .eq 30, 3) := by decide +kernel
theorem dX1_canWriteNumbers_64 : decode cX1_canWriteNumbers 64 = .ok (.iload_n 1, 1) := by decide +kernel
theorem dX1_canWriteNumbers_65 : decode cX1_canWriteNumbers 65 = .ok (.iload_n 0, 1) := by decide +kernel
theorem dX1_canWriteNumbers_66 : decode cX1_canWriteNumbers 66 = .ok (.if_icmp .eq 25, 3) := by decide +kernel
theorem dX1_canWriteNumbers_69 : decode cX1_canWriteNumbers 69 = .ok (.iload_n 2, 1) := by decide +kernel
theorem dX1_canWriteNumbers_70 : decode cX1_canWriteNumbers 70 = .ok (.ifCond .eq 8, 3) := by decide +kernel
theorem dX1_canWriteNumbers_73 : decode cX1_canWriteNumbers 73 = .ok (.iload_n 2, 1) := by decide +kernel
theorem dX1_canWriteNumbers_74 : decode cX1_canWriteNumbers 74 = .ok (.iconst 1, 1) := by decide +kernel
theorem dX1_canWriteNumbers_75 : decode cX1_canWriteNumbers 75 = .ok (.if_icmp .ne 16, 3) := by decide +kernel
theorem dX1_canWriteNumbers_78 : decode cX1_canWriteNumbers 78 = .ok (.iload_n 3, 1) := by decide +kernel
theorem dX1_canWriteNumbers_79 : decode cX1_canWriteNumbers 79 = .ok (.ifCond .lt 12, 3) := by decide +kernel
theorem dX1_canWriteNumbers_82 : decode cX1_canWriteNumbers 82 = .ok (.iload_n 3, 1) := by decide +kernel
theorem dX1_canWriteNumbers_83 : decode cX1_canWriteNumbers 83 = .ok (.iconst 2, 1) := by decide +kernel
theorem dX1_canWriteNumbers_84 : decode cX1_canWriteNumbers 84 = .ok (.if_icmp .gt 7, 3) := by decide +kernel
theorem dX1_canWriteNumbers_87 : decode cX1_canWriteNumbers 87 = .ok (.iconst 1, 1) := by decide +kernel
theorem dX1_canWriteNumbers_88 : decode cX1_canWriteNumbers 88 = .ok (.goto 4, 3) := by decide +kernel
theorem dX1_canWriteNumbers_91 : decode cX1_canWriteNumbers 91 = .ok (.iconst 0, 1) := by decide +kernel
theorem dX1_canWriteNumbers_92 : decode cX1_canWriteNumbers 92 = .ok (.ireturn, 1) := by decide +kernel
theorem dX1_canWriteMoney_0 : decode cX1_canWriteMoney 0 = .ok (.iload_n 0, 1) := by decide +kernel
theorem dX1_canWriteMoney_1 : decode cX1_canWriteMoney 1 = .ok (.bipush 16, 2) := by decide +kernel
theorem dX1_canWriteMoney_3 : decode cX1_canWriteMoney 3 = .ok (.ishr, 1) := by decide +kernel
theorem dX1_canWriteMoney_4 : decode cX1_canWriteMoney 4 = .ok (.invokestatic 37, 3) := by decide +kernel
theorem dX1_canWriteMoney_7 : decode cX1_canWriteMoney 7 = .ok (.ifCond .eq 32, 3) := by decide +kernel
theorem dX1_canWriteMoney_10 : decode cX1_canWriteMoney 10 = .ok (.iload_n 0, 1) := by decide +kernel
theorem dX1_canWriteMoney_11 : decode cX1_canWriteMoney 11 = .ok (.bipush 8, 2) := by decide +kernel
theorem dX1_canWriteMoney_13 : decode cX1_canWriteMoney 13 = .ok (.ishr, 1) := by decide +kernel
theorem dX1_canWriteMoney_14 : decode cX1_canWriteMoney 14 = .ok (.sipush 255, 3) := by decide +kernel
theorem dX1_canWriteMoney_17 : decode cX1_canWriteMoney 17 = .ok (.iand, 1) := by decide +kernel
theorem dX1_canWriteMoney_18 : decode cX1_canWriteMoney 18 = .ok (.invokestatic 37, 3) := by decide +kernel
theorem dX1_canWriteMoney_21 : decode cX1_canWriteMoney 21 = .ok (.ifCond .eq 18, 3) := by decide +kernel
theorem dX1_canWriteMoney_24 : decode cX1_canWriteMoney 24 = .ok (.iload_n 0, 1) := by decide +kernel
theorem dX1_canWriteMoney_25 : decode cX1_canWriteMoney 25 = .ok (.sipush 255, 3) := by decide +kernel
theorem dX1_canWriteMoney_28 : decode cX1_canWriteMoney 28 = .ok (.iand, 1) := by decide +kernel
theorem dX1_canWriteMoney_29 : decode cX1_canWriteMoney 29 = .ok (.invokestatic 37, 3) := by decide +kernel
theorem dX1_canWriteMoney_32 : decode cX1_canWriteMoney 32 = .ok (.ifCond .eq 7, 3) := by decide +kernel
theorem dX1_canWriteMoney_35 : decode cX1_canWriteMoney 35 = .ok (.iconst 1, 1) := by decide +kernel
theorem dX1_canWriteMoney_36 : decode cX1_canWriteMoney 36 = .ok (.goto 4, 3) := by decide +kernel
theorem dX1_canWriteMoney_39 : decode cX1_canWriteMoney 39 = .ok (.iconst 0, 1) := by decide +kernel
theorem dX1_canWriteMoney_40 : decode cX1_canWriteMoney 40 = .ok (.ireturn, 1) := by decide +kernel
theorem dX1_canWriteDays_0 : decode cX1_canWriteDays 0 = .ok (.iload_n 0, 1) := by decide +kernel
theorem dX1_canWriteDays_1 : decode cX1_canWriteDays 1 = .ok (.ifCond .lt 30, 3) := by decide +kernel
theorem dX1_canWriteDays_4 : decode cX1_canWriteDays 4 = .ok (.iload_n 0, 1) := by decide +kernel
theorem dX1_canWriteDays_5 : decode cX1_canWriteDays 5 = .ok (.iconst 2, 1) := by decide +kernel
theorem dX1_canWriteDays_6 : decode cX1_canWriteDays 6 = .ok (.if_icmp .gt 25, 3) := by decide +kernel
theorem dX1_canWriteDays_9 : decode cX1_canWriteDays 9 = .ok (.iload_n 1, 1) := by decide +kernel
theorem dX1_canWriteDays_10 : decode cX1_canWriteDays 10 = .ok (.bipush 47, 2) := by decide +kernel
theorem dX1_canWriteDays_12 : decode cX1_canWriteDays 12 = .ok (.if_icmp .eq 15, 3) := by decide +kernel
theorem dX1_canWriteDays_15 : decode cX1_canWriteDays 15 = .ok (.iload_n 1, 1) := by decide +kernel
theorem dX1_canWriteDays_16 : decode cX1_canWriteDays 16 = .ok (.bipush 46, 2) := by decide +kernel
theorem dX1_canWriteDays_18 : decode cX1_canWriteDays 18 = .ok (.if_icmp .eq 9, 3) := by decide +kernel
theorem dX1_canWriteDays_21 : decode cX1_canWriteDays 21 = .ok (.iload_n 1, 1) := by decide +kernel
theorem dX1_canWriteDays_22 : decode cX1_canWriteDays 22 = .ok (.bipush 45, 2) := by decide +kernel
theorem dX1_canWriteDays_24 : decode cX1_canWriteDays 24 = .ok (.if_icmp .ne 7, 3) := by decide +kernel
theorem dX1_canWriteDays_27 : decode cX1_canWriteDays 27 = .ok (.iconst 1, 1) := by decide +kernel
theorem dX1_canWriteDays_28 : decode cX1_canWriteDays 28 = .ok (.goto 4, 3) := by decide +kernel
theorem dX1_canWriteDays_31 : decode cX1_canWriteDays 31 = .ok (.iconst 0, 1) := by decide +kernel
theorem dX1_canWriteDays_32 : decode cX1_canWriteDays 32 = .ok (.ireturn, 1) := by decide +kernel
theorem dX1_isCapital_0 : decode cX1_isCapital 0 = .ok (.iload_n 0, 1) := by decide +kernel
theorem dX1_isCapital_1 : decode cX1_isCapital 1 = .ok (.bipush 65, 2) := by decide +kernel
theorem dX1_isCapital_3 : decode cX1_isCapital 3 = .ok (.if_icmp .lt 13, 3) := by decide +kernel
theorem dX1_isCapital_6 : decode cX1_isCapital 6 = .ok (.iload_n 0, 1) := by decide +kernel
theorem dX1_isCapital_7 : decode cX1_isCapital 7 = .ok (.bipush 90, 2) := by decide +kernel
theorem dX1_isCapital_9 : decode cX1_isCapital 9 = .ok (.if_icmp .gt 7, 3) := by decide +kernel
theorem dX1_isCapital_12 : decode cX1_isCapital 12 = .ok (.iconst 1, 1) := by decide +kernel
theorem dX1_isCapital_13 : decode cX1_isCapital 13 = .ok (.goto 4, 3) := by decide +kernel
theorem dX1_isCapital_16 : decode cX1_isCapital 16 = .ok (.iconst 0, 1) := by decide +kernel
theorem dX1_isCapital_17 : decode cX1_isCapital 17 = .ok (.ireturn, 1) := by decide +kernel
theorem dX1_markByte_0 : decode cX1_markByte 0 = .ok (.aload_n 0, 1) := by decide +kernel
theorem dX1_markByte_1 : decode cX1_markByte 1 = .ok (.getfield 25, 3) := by decide +kernel
theorem dX1_markByte_4 : decode cX1_markByte 4 = .ok (.iload_n 1, 1) := by decide +kernel
theorem dX1_markByte_5 : decode cX1_markByte 5 = .ok (.iconst 1, 1) := by decide +kernel
theorem dX1_markByte_6 : decode cX1_markByte 6 = .ok (.iadd, 1) := by decide +kernel
theorem dX1_markByte_7 : decode cX1_markByte 7 = .ok (.invokestatic 41, 3) := by decide +kernel
theorem dX1_markByte_10 : decode cX1_markByte 10 = .ok (.ireturn, 1) := by decide +kernel
theorem dX1_signOfDays_0 : decode cX1_signOfDays 0 = .ok (.aload_n 0, 1) := by decide +kernel
theorem dX1_signOfDays_1 : decode cX1_signOfDays 1 = .ok (.getfield 34, 3) := by decide +kernel
theorem dX1_signOfDays_4 : decode cX1_signOfDays 4 = .ok (.ireturn, 1) := by decide +kernel
theorem dX1_partAt_0 : decode cX1_partAt 0 = .ok (.aload_n 0, 1) := by decide +kernel
theorem dX1_partAt_1 : decode cX1_partAt 1 = .ok (.getfield 31, 3) := by decide +kernel
theorem dX1_partAt_4 : decode cX1_partAt 4 = .ok (.iconst 2, 1) := by decide +kernel
theorem dX1_partAt_5 : decode cX1_partAt 5 = .ok (.if_icmp .ne 7, 3) := by decide +kernel
theorem dX1_partAt_8 : decode cX1_partAt 8 = .ok (.iconst 2, 1) := by decide +kernel
theorem dX1_partAt_9 : decode cX1_partAt 9 = .ok (.iload_n 1, 1) := by decide +kernel
theorem dX1_partAt_10 : decode cX1_partAt 10 = .ok (.isub, 1) := by decide +kernel
theorem dX1_partAt_11 : decode cX1_partAt 11 = .ok (.ireturn, 1) := by decide +kernel
theorem dX1_partAt_12 : decode cX1_partAt 12 = .ok (.aload_n 0, 1) := by decide +kernel
theorem dX1_partAt_13 : decode cX1_partAt 13 = .ok (.getfield 31, 3) := by decide +kernel
theorem dX1_partAt_16 : decode cX1_partAt 16 = .ok (.iconst 1, 1) := by decide +kernel
theorem dX1_partAt_17 : decode cX1_partAt 17 = .ok (.if_icmp .ne 14, 3) := by decide +kernel
theorem dX1_partAt_20 : decode cX1_partAt 20 = .ok (.iload_n 1, 1) := by decide +kernel
theorem dX1_partAt_21 : decode cX1_partAt 21 = .ok (.iconst 2, 1) := by decide +kernel
theorem dX1_partAt_22 : decode cX1_partAt 22 = .ok (.if_icmp .ge 9, 3) := by decide +kernel
theorem dX1_partAt_25 : decode cX1_partAt 25 = .ok (.iconst 1, 1) := by decide +kernel
theorem dX1_partAt_26 : decode cX1_partAt 26 = .ok (.iload_n 1, 1) := by decide +kernel
theorem dX1_partAt_27 : decode cX1_partAt 27 = .ok (.isub, 1) := by decide +kernel
theorem dX1_partAt_28 : decode cX1_partAt 28 = .ok (.goto 4, 3) := by decide +kernel
theorem dX1_partAt_31 : decode cX1_partAt 31 = .ok (.iload_n 1, 1) := by decide +kernel
theorem dX1_partAt_32 : decode cX1_partAt 32 = .ok (.ireturn, 1) := by decide +kernel
theorem dX1_minusAhead_0 : decode cX1_minusAhead 0 = .ok (.aload_n 0, 1) := by decide +kernel
theorem dX1_minusAhead_1 : decode cX1_minusAhead 1 = .ok (.getfield 22, 3) := by decide +kernel
theorem dX1_minusAhead_4 : decode cX1_minusAhead 4 = .ok (.iconst 1, 1) := by decide +kernel
theorem dX1_minusAhead_5 : decode cX1_minusAhead 5 = .ok (.if_icmp .ne 5, 3) := by decide +kernel
theorem dX1_minusAhead_8 : decode cX1_minusAhead 8 = .ok (.iconst (-1), 1) := by decide +kernel
theorem dX1_minusAhead_9 : decode cX1_minusAhead 9 = .ok (.ireturn, 1) := by decide +kernel
theorem dX1_minusAhead_10 : decode cX1_minusAhead 10 = .ok (.aload_n 0, 1) := by decide +kernel
theorem dX1_minusAhead_11 : decode cX1_minusAhead 11 = .ok (.getfield 22, 3) := by decide +kernel
theorem dX1_minusAhead_14 : decode cX1_minusAhead 14 = .ok (.iconst 2, 1) := by decide +kernel
theorem dX1_minusAhead_15 : decode cX1_minusAhead 15 = .ok (.if_icmp .ne 8, 3) := by decide +kernel
theorem dX1_minusAhead_18 : decode cX1_minusAhead 18 = .ok (.bipush 40, 2) := by decide +kernel
theorem dX1_minusAhead_20 : decode cX1_minusAhead 20 = .ok (.goto 5, 3) := by decide +kernel
theorem dX1_minusAhead_23 : decode cX1_minusAhead 23 = .ok (.bipush 45, 2) := by decide +kernel
theorem dX1_minusAhead_25 : decode cX1_minusAhead 25 = .ok (.ireturn, 1) := by decide +kernel
theorem dX1_minusBehind_0 : decode cX1_minusBehind 0 = .ok (.aload_n 0, 1) := by decide +kernel
theorem dX1_minusBehind_1 : decode cX1_minusBehind 1 = .ok (.getfield 22, 3) := by decide +kernel
theorem dX1_minusBehind_4 : decode cX1_minusBehind 4 = .ok (.ifCond .ne 5, 3) := by decide +kernel
theorem dX1_minusBehind_7 : decode cX1_minusBehind 7 = .ok (.iconst (-1), 1) := by decide +kernel
theorem dX1_minusBehind_8 : decode cX1_minusBehind 8 = .ok (.ireturn, 1) := by decide +kernel
theorem dX1_minusBehind_9 : decode cX1_minusBehind 9 = .ok (.aload_n 0, 1) := by decide +kernel
theorem dX1_minusBehind_10 : decode cX1_minusBehind 10 = .ok (.getfield 22, 3) := by decide +kernel
theorem dX1_minusBehind_13 : decode cX1_minusBehind 13 = .ok (.iconst 2, 1) := by decide +kernel
theorem dX1_minusBehind_14 : decode cX1_minusBehind 14 = .ok (.if_icmp .ne 8, 3) := by decide +kernel
theorem dX1_minusBehind_17 : decode cX1_minusBehind 17 = .ok (.bipush 41, 2) := by decide +kernel
theorem dX1_minusBehind_19 : decode cX1_minusBehind 19 = .ok (.goto 5, 3) := by decide +kernel
theorem dX1_minusBehind_22 : decode cX1_minusBehind 22 = .ok (.bipush 45, 2) := by decide +kernel
theorem dX1_minusBehind_24 : decode cX1_minusBehind 24 = .ok (.ireturn, 1) := by decide +kernel
theorem dX1_groupsAhead_0 : decode cX1_groupsAhead 0 = .ok (.aload_n 0, 1) := by decide +kernel
theorem dX1_groupsAhead_1 : decode cX1_groupsAhead 1 = .ok (.getfield 15, 3) := by decide +kernel
theorem dX1_groupsAhead_4 : decode cX1_groupsAhead 4 = .ok (.ifCond .eq 8, 3) := by decide +kernel
theorem dX1_groupsAhead_7 : decode cX1_groupsAhead 7 = .ok (.iload_n 1, 1) := by decide +kernel
theorem dX1_groupsAhead_8 : decode cX1_groupsAhead 8 = .ok (.iconst 3, 1) := by decide +kernel
theorem dX1_groupsAhead_9 : decode cX1_groupsAhead 9 = .ok (.if_icmp .ge 5, 3) := by decide +kernel
theorem dX1_groupsAhead_12 : decode cX1_groupsAhead 12 = .ok (.iconst 0, 1) := by decide +kernel
theorem dX1_groupsAhead_13 : decode cX1_groupsAhead 13 = .ok (.ireturn, 1) := by decide +kernel
theorem dX1_groupsAhead_14 : decode cX1_groupsAhead 14 = .ok (.aload_n 0, 1) := by decide +kernel
theorem dX1_groupsAhead_15 : decode cX1_groupsAhead 15 = .ok (.getfield 18, 3) := by decide +kernel
theorem dX1_groupsAhead_18 : decode cX1_groupsAhead 18 = .ok (.ifCond .eq 18, 3) := by decide +kernel
theorem dX1_groupsAhead_21 : decode cX1_groupsAhead 21 = .ok (.iload_n 1, 1) := by decide +kernel
theorem dX1_groupsAhead_22 : decode cX1_groupsAhead 22 = .ok (.iconst 2, 1) := by decide +kernel
theorem dX1_groupsAhead_23 : decode cX1_groupsAhead 23 = .ok (.irem, 1) := by decide +kernel
theorem dX1_groupsAhead_24 : decode cX1_groupsAhead 24 = .ok (.iconst 1, 1) := by decide +kernel
theorem dX1_groupsAhead_25 : decode cX1_groupsAhead 25 = .ok (.if_icmp .ne 7, 3) := by decide +kernel
theorem dX1_groupsAhead_28 : decode cX1_groupsAhead 28 = .ok (.iconst 1, 1) := by decide +kernel
theorem dX1_groupsAhead_29 : decode cX1_groupsAhead 29 = .ok (.goto 18, 3) := by decide +kernel
theorem dX1_groupsAhead_32 : decode cX1_groupsAhead 32 = .ok (.iconst 0, 1) := by decide +kernel
theorem dX1_groupsAhead_33 : decode cX1_groupsAhead 33 = .ok (.goto 14, 3) := by decide +kernel
theorem dX1_groupsAhead_36 : decode cX1_groupsAhead 36 = .ok (.iload_n 1, 1) := by decide +kernel
theorem dX1_groupsAhead_37 : decode cX1_groupsAhead 37 = .ok (.iconst 3, 1) := by decide +kernel
theorem dX1_groupsAhead_38 : decode cX1_groupsAhead 38 = .ok (.irem, 1) := by decide +kernel
theorem dX1_groupsAhead_39 : decode cX1_groupsAhead 39 = .ok (.ifCond .ne 7, 3) := by decide +kernel
theorem dX1_groupsAhead_42 : decode cX1_groupsAhead 42 = .ok (.iconst 1, 1) := by decide +kernel
theorem dX1_groupsAhead_43 : decode cX1_groupsAhead 43 = .ok (.goto 4, 3) := by decide +kernel
theorem dX1_groupsAhead_46 : decode cX1_groupsAhead 46 = .ok (.iconst 0, 1) := by decide +kernel
theorem dX1_groupsAhead_47 : decode cX1_groupsAhead 47 = .ok (.ireturn, 1) := by decide +kernel
theorem dX2_init_0 : decode cX2_init 0 = .ok (.aload_n 0, 1) := by decide +kernel
theorem dX2_init_1 : decode cX2_init 1 = .ok (.invokespecial 3, 3) := by decide +kernel
theorem dX2_init_4 : decode cX2_init 4 = .ok (.aload_n 0, 1) := by decide +kernel
theorem dX2_init_5 : decode cX2_init 5 = .ok (.iconst 0, 1) := by decide +kernel
theorem dX2_init_6 : decode cX2_init 6 = .ok (.newarray .int, 2) := by decide +kernel
theorem dX2_init_8 : decode cX2_init 8 = .ok (.putfield 9, 3) := by decide +kernel
theorem dX2_init_11 : decode cX2_init 11 = .ok (.aload_n 0, 1) := by decide +kernel
theorem dX2_init_12 : decode cX2_init 12 = .ok (.iconst 3, 1) := by decide +kernel
theorem dX2_init_13 : decode cX2_init 13 = .ok (.newarray .int, 2) := by decide +kernel
theorem dX2_init_15 : decode cX2_init 15 = .ok (.putfield 17, 3) := by decide +kernel
theorem dX2_init_18 : decode cX2_init 18 = .ok (.aload_n 0, 1) := by decide +kernel
theorem dX2_init_19 : decode cX2_init 19 = .ok (.iconst 3, 1) := by decide +kernel
theorem dX2_init_20 : decode cX2_init 20 = .ok (.newarray .int, 2) := by decide +kernel
theorem dX2_init_22 : decode cX2_init 22 = .ok (.putfield 20, 3) := by decide +kernel
theorem dX2_init_25 : decode cX2_init 25 = .ok (.return_, 1) := by decide +kernel
theorem dX2_read_0 : decode cX2_read 0 = .ok (.aload_n 0, 1) := by decide +kernel
theorem dX2_read_1 : decode cX2_read 1 = .ok (.aload_n 1, 1) := by decide +kernel
theorem dX2_read_2 : decode cX2_read 2 = .ok (.putfield 9, 3) := by decide +kernel
theorem dX2_read_5 : decode cX2_read 5 = .ok (.aload_n 0, 1) := by decide +kernel
theorem dX2_read_6 : decode cX2_read 6 = .ok (.iload_n 2, 1) := by decide +kernel
theorem dX2_read_7 : decode cX2_read 7 = .ok (.iconst 0, 1) := by decide +kernel
theorem dX2_read_8 : decode cX2_read 8 = .ok (.invokestatic 23, 3) := by decide +kernel
theorem dX2_read_11 : decode cX2_read 11 = .ok (.putfield 29, 3) := by decide +kernel
theorem dX2_read_14 : decode cX2_read 14 = .ok (.aload_n 0, 1) := by decide +kernel
theorem dX2_read_15 : decode cX2_read 15 = .ok (.iload_n 3, 1) := by decide +kernel
theorem dX2_read_16 : decode cX2_read 16 = .ok (.aload_n 1, 1) := by decide +kernel
theorem dX2_read_17 : decode cX2_read 17 = .ok (.arraylength, 1) := by decide +kernel
theorem dX2_read_18 : decode cX2_read 18 = .ok (.invokestatic 33, 3) := by decide +kernel
theorem dX2_read_21 : decode cX2_read 21 = .ok (.putfield 36, 3) := by decide +kernel
theorem dX2_read_24 : decode cX2_read 24 = .ok (.aload_n 0, 1) := by decide +kernel
theorem dX2_read_25 : decode cX2_read 25 = .ok (.iconst 0, 1) := by decide +kernel
theorem dX2_read_26 : decode cX2_read 26 = .ok (.putfield 39, 3) := by decide +kernel
theorem dX2_read_29 : decode cX2_read 29 = .ok (.aload_n 0, 1) := by decide +kernel
theorem dX2_read_30 : decode cX2_read 30 = .ok (.lconst 0, 1) := by decide +kernel
theorem dX2_read_31 : decode cX2_read 31 = .ok (.putfield 42, 3) := by decide +kernel
theorem dX2_read_34 : decode cX2_read 34 = .ok (.aload_n 0, 1) := by decide +kernel
theorem dX2_read_35 : decode cX2_read 35 = .ok (.lconst 0, 1) := by decide +kernel
theorem dX2_read_36 : decode cX2_read 36 = .ok (.putfield 46, 3) := by decide +kernel
theorem dX2_read_39 : decode cX2_read 39 = .ok (.iload 5, 2) := by decide +kernel
theorem dX2_read_41 : decode cX2_read 41 = .ok (.iconst 2, 1) := by decide +kernel
theorem dX2_read_42 : decode cX2_read 42 = .ok (.if_icmp .ne 12, 3) := by decide +kernel
theorem dX2_read_45 : decode cX2_read 45 = .ok (.aload_n 0, 1) := by decide +kernel
theorem dX2_read_46 : decode cX2_read 46 = .ok (.aload 4, 2) := by decide +kernel
theorem dX2_read_48 : decode cX2_read 48 = .ok (.invokevirtual 49, 3) := by decide +kernel
theorem dX2_read_51 : decode cX2_read 51 = .ok (.goto 20, 3) := by decide +kernel
theorem dX2_read_54 : decode cX2_read 54 = .ok (.aload_n 0, 1) := by decide +kernel
theorem dX2_read_55 : decode cX2_read 55 = .ok (.aload 4, 2) := by decide +kernel
theorem dX2_read_57 : decode cX2_read 57 = .ok (.iload 5, 2) := by decide +kernel
theorem dX2_read_59 : decode cX2_read 59 = .ok (.iconst 1, 1) := by decide +kernel
theorem dX2_read_60 : decode cX2_read 60 = .ok (.if_icmp .ne 7, 3) := by decide +kernel
theorem dX2_read_63 : decode cX2_read 63 = .ok (.iconst 1, 1) := by decide +kernel
theorem dX2_read_64 : decode cX2_read 64 = .ok (.goto 4, 3) := by decide +kernel
theorem dX2_read_67 : decode cX2_read 67 = .ok (.iconst 0, 1) := by decide +kernel
theorem dX2_read_68 : decode cX2_read 68 = .ok (.invokevirtual 53, 3) := by decide +kernel
theorem dX2_read_71 : decode cX2_read 71 = .ok (.aload_n 0, 1) := by decide +kernel
theorem dX2_read_72 : decode cX2_read 72 = .ok (.getfield 39, 3) := by decide +kernel
theorem dX2_read_75 : decode cX2_read 75 = .ok (.ireturn, 1) := by decide +kernel
theorem dX2_readAmount_0 : decode cX2_readAmount 0 = .ok (.aload_n 0, 1) := by decide +kernel
theorem dX2_readAmount_1 : decode cX2_readAmount 1 = .ok (.aload_n 1, 1) := by decide +kernel
theorem dX2_readAmount_2 : decode cX2_readAmount 2 = .ok (.invokevirtual 57, 3) := by decide +kernel
theorem dX2_readAmount_5 : decode cX2_readAmount 5 = .ok (.invokevirtual 61, 3) := by decide +kernel
theorem dX2_readAmount_8 : decode cX2_readAmount 8 = .ok (.istore_n 3, 1) := by decide +kernel
theorem dX2_readAmount_9 : decode cX2_readAmount 9 = .ok (.iload_n 2, 1) := by decide +kernel
theorem dX2_readAmount_10 : decode cX2_readAmount 10 = .ok (.ifCond .eq 22, 3) := by decide +kernel
theorem dX2_readAmount_13 : decode cX2_readAmount 13 = .ok (.aload_n 1, 1) := by decide +kernel
theorem dX2_readAmount_14 : decode cX2_readAmount 14 = .ok (.getfield 65, 3) := by decide +kernel
theorem dX2_readAmount_17 : decode cX2_readAmount 17 = .ok (.ifCond .ne 15, 3) := by decide +kernel
theorem dX2_readAmount_20 : decode cX2_readAmount 20 = .ok (.aload_n 0, 1) := by decide +kernel
theorem dX2_readAmount_21 : decode cX2_readAmount 21 = .ok (.aload_n 1, 1) := by decide +kernel
theorem dX2_readAmount_22 : decode cX2_readAmount 22 = .ok (.invokevirtual 69, 3) := by decide +kernel
theorem dX2_readAmount_25 : decode cX2_readAmount 25 = .ok (.aload_n 0, 1) := by decide +kernel
theorem dX2_readAmount_26 : decode cX2_readAmount 26 = .ok (.bipush 32, 2) := by decide +kernel
theorem dX2_readAmount_28 : decode cX2_readAmount 28 = .ok (.invokevirtual 61, 3) := by decide +kernel
theorem dX2_readAmount_31 : decode cX2_readAmount 31 = .ok (.pop, 1) := by decide +kernel
theorem dX2_readAmount_32 : decode cX2_readAmount 32 = .ok (.aload_n 0, 1) := by decide +kernel
theorem dX2_readAmount_33 : decode cX2_readAmount 33 = .ok (.invokevirtual 72, 3) := by decide +kernel
theorem dX2_readAmount_36 : decode cX2_readAmount 36 = .ok (.istore 4, 2) := by decide +kernel
theorem dX2_readAmount_38 : decode cX2_readAmount 38 = .ok (.aload_n 0, 1) := by decide +kernel
theorem dX2_readAmount_39 : decode cX2_readAmount 39 = .ok (.aload_n 1, 1) := by decide +kernel
theorem dX2_readAmount_40 : decode cX2_readAmount 40 = .ok (.iload 4, 2) := by decide +kernel
theorem dX2_readAmount_42 : decode cX2_readAmount 42 = .ok (.invokevirtual 75, 3) := by decide +kernel
theorem dX2_readAmount_45 : decode cX2_readAmount 45 = .ok (.aload_n 0, 1) := by decide +kernel
theorem dX2_readAmount_46 : decode cX2_readAmount 46 = .ok (.aload_n 1, 1) := by decide +kernel
theorem dX2_readAmount_47 : decode cX2_readAmount 47 = .ok (.getfield 79, 3) := by decide +kernel
theorem dX2_readAmount_50 : decode cX2_readAmount 50 = .ok (.invokevirtual 82, 3) := by decide +kernel
theorem dX2_readAmount_53 : decode cX2_readAmount 53 = .ok (.iload_n 2, 1) := by decide +kernel
theorem dX2_readAmount_54 : decode cX2_readAmount 54 = .ok (.ifCond .eq 22, 3) := by decide +kernel
theorem dX2_readAmount_57 : decode cX2_readAmount 57 = .ok (.aload_n 1, 1) := by decide +kernel
theorem dX2_readAmount_58 : decode cX2_readAmount 58 = .ok (.getfield 65, 3) := by decide +kernel
theorem dX2_readAmount_61 : decode cX2_readAmount 61 = .ok (.ifCond .eq 15, 3) := by decide +kernel
theorem dX2_readAmount_64 : decode cX2_readAmount 64 = .ok (.aload_n 0, 1) := by decide +kernel
theorem dX2_readAmount_65 : decode cX2_readAmount 65 = .ok (.bipush 32, 2) := by decide +kernel
theorem dX2_readAmount_67 : decode cX2_readAmount 67 = .ok (.invokevirtual 61, 3) := by decide +kernel
theorem dX2_readAmount_70 : decode cX2_readAmount 70 = .ok (.pop, 1) := by decide +kernel
theorem dX2_readAmount_71 : decode cX2_readAmount 71 = .ok (.aload_n 0, 1) := by decide +kernel
theorem dX2_readAmount_72 : decode cX2_readAmount 72 = .ok (.aload_n 1, 1) := by decide +kernel
theorem dX2_readAmount_73 : decode cX2_readAmount 73 = .ok (.invokevirtual 69, 3) := by decide +kernel
theorem dX2_readAmount_76 : decode cX2_readAmount 76 = .ok (.aload_n 1, 1) := by decide +kernel
theorem dX2_readAmount_77 : decode cX2_readAmount 77 = .ok (.getfield 86, 3) := by decide +kernel
theorem dX2_readAmount_80 : decode cX2_readAmount 80 = .ok (.iconst 1, 1) := by decide +kernel
theorem dX2_readAmount_81 : decode cX2_readAmount 81 = .ok (.if_icmp .ne 15, 3) := by decide +kernel
theorem dX2_readAmount_84 : decode cX2_readAmount 84 = .ok (.aload_n 0, 1) := by decide +kernel
theorem dX2_readAmount_85 : decode cX2_readAmount 85 = .ok (.aload_n 1, 1) := by decide +kernel
theorem dX2_readAmount_86 : decode cX2_readAmount 86 = .ok (.invokevirtual 89, 3) := by decide +kernel
theorem dX2_readAmount_89 : decode cX2_readAmount 89 = .ok (.invokevirtual 61, 3) := by decide +kernel
theorem dX2_readAmount_92 : decode cX2_readAmount 92 = .ok (.istore_n 3, 1) := by decide +kernel
theorem dX2_readAmount_93 : decode cX2_readAmount 93 = .ok (.goto 23, 3) := by decide +kernel
theorem dX2_readAmount_96 : decode cX2_readAmount 96 = .ok (.aload_n 1, 1) := by decide +kernel
theorem dX2_readAmount_97 : decode cX2_readAmount 97 = .ok (.getfield 86, 3) := by decide +kernel
theorem dX2_readAmount_100 : decode cX2_readAmount 100 = .ok (.iconst 2, 1) := by decide +kernel
theorem dX2_readAmount_101 : decode cX2_readAmount 101 = .ok (.if_icmp .ne 15, 3) := by decide +kernel
theorem dX2_readAmount_104 : decode cX2_readAmount 104 = .ok (.iload_n 3, 1) := by decide +kernel
theorem dX2_readAmount_105 : decode cX2_readAmount 105 = .ok (.ifCond .eq 11, 3) := by decide +kernel
theorem dX2_readAmount_108 : decode cX2_readAmount 108 = .ok (.aload_n 0, 1) := by decide +kernel
theorem dX2_readAmount_109 : decode cX2_readAmount 109 = .ok (.aload_n 1, 1) := by decide +kernel
theorem dX2_readAmount_110 : decode cX2_readAmount 110 = .ok (.invokevirtual 89, 3) := by decide +kernel
theorem dX2_readAmount_113 : decode cX2_readAmount 113 = .ok (.invokevirtual 92, 3) := by decide +kernel
theorem dX2_readAmount_116 : decode cX2_readAmount 116 = .ok (.aload_n 0, 1) := by decide +kernel
theorem dX2_readAmount_117 : decode cX2_readAmount 117 = .ok (.invokevirtual 95, 3) := by decide +kernel
theorem dX2_readAmount_120 : decode cX2_readAmount 120 = .ok (.aload_n 0, 1) := by decide +kernel
theorem dX2_readAmount_121 : decode cX2_readAmount 121 = .ok (.iload_n 3, 1) := by decide +kernel
theorem dX2_readAmount_122 : decode cX2_readAmount 122 = .ok (.ifCond .eq 11, 3) := by decide +kernel
theorem dX2_readAmount_125 : decode cX2_readAmount 125 = .ok (.aload_n 0, 1) := by decide +kernel
theorem dX2_readAmount_126 : decode cX2_readAmount 126 = .ok (.getfield 42, 3) := by decide +kernel
theorem dX2_readAmount_129 : decode cX2_readAmount 129 = .ok (.lneg, 1) := by decide +kernel
theorem dX2_readAmount_130 : decode cX2_readAmount 130 = .ok (.goto 7, 3) := by decide +kernel
theorem dX2_readAmount_133 : decode cX2_readAmount 133 = .ok (.aload_n 0, 1) := by decide +kernel
theorem dX2_readAmount_134 : decode cX2_readAmount 134 = .ok (.getfield 42, 3) := by decide +kernel
theorem dX2_readAmount_137 : decode cX2_readAmount 137 = .ok (.putfield 46, 3) := by decide +kernel
theorem dX2_readAmount_140 : decode cX2_readAmount 140 = .ok (.return_, 1) := by decide +kernel
theorem dX2_needMark_0 : decode cX2_needMark 0 = .ok (.iconst 0, 1) := by decide +kernel
theorem dX2_needMark_1 : decode cX2_needMark 1 = .ok (.istore_n 2, 1) := by decide +kernel
theorem dX2_needMark_2 : decode cX2_needMark 2 = .ok (.iload_n 2, 1) := by decide +kernel
theorem dX2_needMark_3 : decode cX2_needMark 3 = .ok (.iconst 3, 1) := by decide +kernel
theorem dX2_needMark_4 : decode cX2_needMark 4 = .ok (.if_icmp .ge 18, 3) := by decide +kernel
theorem dX2_needMark_7 : decode cX2_needMark 7 = .ok (.aload_n 0, 1) := by decide +kernel
theorem dX2_needMark_8 : decode cX2_needMark 8 = .ok (.aload_n 1, 1) := by decide +kernel
theorem dX2_needMark_9 : decode cX2_needMark 9 = .ok (.iload_n 2, 1) := by decide +kernel
theorem dX2_needMark_10 : decode cX2_needMark 10 = .ok (.invokevirtual 98, 3) := by decide +kernel
theorem dX2_needMark_13 : decode cX2_needMark 13 = .ok (.invokevirtual 92, 3) := by decide +kernel
theorem dX2_needMark_16 : decode cX2_needMark 16 = .ok (.iinc 2 1, 3) := by decide +kernel
theorem dX2_needMark_19 : decode cX2_needMark 19 = .ok (.goto (-17), 3) := by decide +kernel
theorem dX2_needMark_22 : decode cX2_needMark 22 = .ok (.return_, 1) := by decide +kernel
theorem dX2_needFirstDigits_0 : decode cX2_needFirstDigits 0 = .ok (.aload_n 0, 1) := by decide +kernel
theorem dX2_needFirstDigits_1 : decode cX2_needFirstDigits 1 = .ok (.bipush 48, 2) := by decide +kernel
theorem dX2_needFirstDigits_3 : decode cX2_needFirstDigits 3 = .ok (.invokevirtual 61, 3) := by decide +kernel
theorem dX2_needFirstDigits_6 : decode cX2_needFirstDigits 6 = .ok (.ifCond .eq 7, 3) := by decide +kernel
theorem dX2_needFirstDigits_9 : decode cX2_needFirstDigits 9 = .ok (.iconst 1, 1) := by decide +kernel
theorem dX2_needFirstDigits_10 : decode cX2_needFirstDigits 10 = .ok (.goto 9, 3) := by decide +kernel
theorem dX2_needFirstDigits_13 : decode cX2_needFirstDigits 13 = .ok (.aload_n 0, 1) := by decide +kernel
theorem dX2_needFirstDigits_14 : decode cX2_needFirstDigits 14 = .ok (.bipush 9, 2) := by decide +kernel
theorem dX2_needFirstDigits_16 : decode cX2_needFirstDigits 16 = .ok (.invokevirtual 102, 3) := by decide +kernel
theorem dX2_needFirstDigits_19 : decode cX2_needFirstDigits 19 = .ok (.istore_n 1, 1) := by decide +kernel
theorem dX2_needFirstDigits_20 : decode cX2_needFirstDigits 20 = .ok (.iload_n 1, 1) := by decide +kernel
theorem dX2_needFirstDigits_21 : decode cX2_needFirstDigits 21 = .ok (.ifCond .ne 7, 3) := by decide +kernel
theorem dX2_needFirstDigits_24 : decode cX2_needFirstDigits 24 = .ok (.aload_n 0, 1) := by decide +kernel
theorem dX2_needFirstDigits_25 : decode cX2_needFirstDigits 25 = .ok (.invokevirtual 105, 3) := by decide +kernel
theorem dX2_needFirstDigits_28 : decode cX2_needFirstDigits 28 = .ok (.iload_n 1, 1) := by decide +kernel
theorem dX2_needFirstDigits_29 : decode cX2_needFirstDigits 29 = .ok (.ireturn, 1) := by decide +kernel
theorem dX2_needGroups_0 : decode cX2_needGroups 0 = .ok (.aload_n 1, 1) := by decide +kernel
theorem dX2_needGroups_1 : decode cX2_needGroups 1 = .ok (.getfield 108, 3) := by decide +kernel
theorem dX2_needGroups_4 : decode cX2_needGroups 4 = .ok (.ifCond .eq 32, 3) := by decide +kernel
theorem dX2_needGroups_7 : decode cX2_needGroups 7 = .ok (.aload_n 0, 1) := by decide +kernel
theorem dX2_needGroups_8 : decode cX2_needGroups 8 = .ok (.getfield 42, 3) := by decide +kernel
theorem dX2_needGroups_11 : decode cX2_needGroups 11 = .ok (.lconst 0, 1) := by decide +kernel
theorem dX2_needGroups_12 : decode cX2_needGroups 12 = .ok (.lcmp, 1) := by decide +kernel
theorem dX2_needGroups_13 : decode cX2_needGroups 13 = .ok (.ifCond .le 23, 3) := by decide +kernel
theorem dX2_needGroups_16 : decode cX2_needGroups 16 = .ok (.iload_n 2, 1) := by decide +kernel
theorem dX2_needGroups_17 : decode cX2_needGroups 17 = .ok (.aload_n 1, 1) := by decide +kernel
theorem dX2_needGroups_18 : decode cX2_needGroups 18 = .ok (.getfield 111, 3) := by decide +kernel
theorem dX2_needGroups_21 : decode cX2_needGroups 21 = .ok (.ifCond .eq 7, 3) := by decide +kernel
theorem dX2_needGroups_24 : decode cX2_needGroups 24 = .ok (.iconst 2, 1) := by decide +kernel
theorem dX2_needGroups_25 : decode cX2_needGroups 25 = .ok (.goto 4, 3) := by decide +kernel
theorem dX2_needGroups_28 : decode cX2_needGroups 28 = .ok (.iconst 3, 1) := by decide +kernel
theorem dX2_needGroups_29 : decode cX2_needGroups 29 = .ok (.if_icmp .gt 7, 3) := by decide +kernel
theorem dX2_needGroups_32 : decode cX2_needGroups 32 = .ok (.iconst 1, 1) := by decide +kernel
theorem dX2_needGroups_33 : decode cX2_needGroups 33 = .ok (.goto 4, 3) := by decide +kernel
theorem dX2_needGroups_36 : decode cX2_needGroups 36 = .ok (.iconst 0, 1) := by decide +kernel
theorem dX2_needGroups_37 : decode cX2_needGroups 37 = .ok (.istore_n 3, 1) := by decide +kernel
theorem dX2_needGroups_38 : decode cX2_needGroups 38 = .ok (.aload_n 1, 1) := by decide +kernel
theorem dX2_needGroups_39 : decode cX2_needGroups 39 = .ok (.getfield 111, 3) := by decide +kernel
theorem dX2_needGroups_42 : decode cX2_needGroups 42 = .ok (.ifCond .eq 7, 3) := by decide +kernel
theorem dX2_needGroups_45 : decode cX2_needGroups 45 = .ok (.iconst 3, 1) := by decide +kernel
theorem dX2_needGroups_46 : decode cX2_needGroups 46 = .ok (.goto 4, 3) := by decide +kernel
theorem dX2_needGroups_49 : decode cX2_needGroups 49 = .ok (.iconst 2, 1) := by decide +kernel
theorem dX2_needGroups_50 : decode cX2_needGroups 50 = .ok (.istore 4, 2) := by decide +kernel
theorem dX2_needGroups_52 : decode cX2_needGroups 52 = .ok (.iconst 1, 1) := by decide +kernel
theorem dX2_needGroups_53 : decode cX2_needGroups 53 = .ok (.istore 5, 2) := by decide +kernel
theorem dX2_needGroups_55 : decode cX2_needGroups 55 = .ok (.iconst 0, 1) := by decide +kernel
theorem dX2_needGroups_56 : decode cX2_needGroups 56 = .ok (.istore 6, 2) := by decide +kernel
theorem dX2_needGroups_58 : decode cX2_needGroups 58 = .ok (.iload 6, 2) := by decide +kernel
theorem dX2_needGroups_60 : decode cX2_needGroups 60 = .ok (.iload 4, 2) := by decide +kernel
theorem dX2_needGroups_62 : decode cX2_needGroups 62 = .ok (.if_icmp .ge 78, 3) := by decide +kernel
theorem dX2_needGroups_65 : decode cX2_needGroups 65 = .ok (.iload_n 3, 1) := by decide +kernel
theorem dX2_needGroups_66 : decode cX2_needGroups 66 = .ok (.ifCond .eq 74, 3) := by decide +kernel
theorem dX2_needGroups_69 : decode cX2_needGroups 69 = .ok (.aload_n 0, 1) := by decide +kernel
theorem dX2_needGroups_70 : decode cX2_needGroups 70 = .ok (.aload_n 1, 1) := by decide +kernel
theorem dX2_needGroups_71 : decode cX2_needGroups 71 = .ok (.getfield 108, 3) := by decide +kernel
theorem dX2_needGroups_74 : decode cX2_needGroups 74 = .ok (.invokevirtual 114, 3) := by decide +kernel
theorem dX2_needGroups_77 : decode cX2_needGroups 77 = .ok (.ifCond .eq 63, 3) := by decide +kernel
theorem dX2_needGroups_80 : decode cX2_needGroups 80 = .ok (.aload_n 0, 1) := by decide +kernel
theorem dX2_needGroups_81 : decode cX2_needGroups 81 = .ok (.dup, 1) := by decide +kernel
theorem dX2_needGroups_82 : decode cX2_needGroups 82 = .ok (.getfield 29, 3) := by decide +kernel
theorem dX2_needGroups_85 : decode cX2_needGroups 85 = .ok (.iconst 1, 1) := by decide +kernel
theorem dX2_needGroups_86 : decode cX2_needGroups 86 = .ok (.iadd, 1) := by decide +kernel
theorem dX2_needGroups_87 : decode cX2_needGroups 87 = .ok (.putfield 29, 3) := by decide +kernel
theorem dX2_needGroups_90 : decode cX2_needGroups 90 = .ok (.aload_n 0, 1) := by decide +kernel
theorem dX2_needGroups_91 : decode cX2_needGroups 91 = .ok (.iconst 3, 1) := by decide +kernel
theorem dX2_needGroups_92 : decode cX2_needGroups 92 = .ok (.invokevirtual 102, 3) := by decide +kernel
theorem dX2_needGroups_95 : decode cX2_needGroups 95 = .ok (.istore 7, 2) := by decide +kernel
theorem dX2_needGroups_97 : decode cX2_needGroups 97 = .ok (.iload 7, 2) := by decide +kernel
theorem dX2_needGroups_99 : decode cX2_needGroups 99 = .ok (.iconst 3, 1) := by decide +kernel
theorem dX2_needGroups_100 : decode cX2_needGroups 100 = .ok (.if_icmp .ne 7, 3) := by decide +kernel
theorem dX2_needGroups_103 : decode cX2_needGroups 103 = .ok (.iconst 1, 1) := by decide +kernel
theorem dX2_needGroups_104 : decode cX2_needGroups 104 = .ok (.goto 4, 3) := by decide +kernel
theorem dX2_needGroups_107 : decode cX2_needGroups 107 = .ok (.iconst 0, 1) := by decide +kernel
theorem dX2_needGroups_108 : decode cX2_needGroups 108 = .ok (.istore 5, 2) := by decide +kernel
theorem dX2_needGroups_110 : decode cX2_needGroups 110 = .ok (.aload_n 1, 1) := by decide +kernel
theorem dX2_needGroups_111 : decode cX2_needGroups 111 = .ok (.getfield 111, 3) := by decide +kernel
theorem dX2_needGroups_114 : decode cX2_needGroups 114 = .ok (.ifCond .eq 17, 3) := by decide +kernel
theorem dX2_needGroups_117 : decode cX2_needGroups 117 = .ok (.iload 7, 2) := by decide +kernel
theorem dX2_needGroups_119 : decode cX2_needGroups 119 = .ok (.iconst 2, 1) := by decide +kernel
theorem dX2_needGroups_120 : decode cX2_needGroups 120 = .ok (.if_icmp .ne 7, 3) := by decide +kernel
theorem dX2_needGroups_123 : decode cX2_needGroups 123 = .ok (.iconst 1, 1) := by decide +kernel
theorem dX2_needGroups_124 : decode cX2_needGroups 124 = .ok (.goto 9, 3) := by decide +kernel
theorem dX2_needGroups_127 : decode cX2_needGroups 127 = .ok (.iconst 0, 1) := by decide +kernel
theorem dX2_needGroups_128 : decode cX2_needGroups 128 = .ok (.goto 5, 3) := by decide +kernel
theorem dX2_needGroups_131 : decode cX2_needGroups 131 = .ok (.iload 5, 2) := by decide +kernel
theorem dX2_needGroups_133 : decode cX2_needGroups 133 = .ok (.istore_n 3, 1) := by decide +kernel
theorem dX2_needGroups_134 : decode cX2_needGroups 134 = .ok (.iinc 6 1, 3) := by decide +kernel
theorem dX2_needGroups_137 : decode cX2_needGroups 137 = .ok (.goto (-79), 3) := by decide +kernel
theorem dX2_needGroups_140 : decode cX2_needGroups 140 = .ok (.iload 5, 2) := by decide +kernel
theorem dX2_needGroups_142 : decode cX2_needGroups 142 = .ok (.ifCond .ne 7, 3) := by decide +kernel
theorem dX2_needGroups_145 : decode cX2_needGroups 145 = .ok (.aload_n 0, 1) := by decide +kernel
theorem dX2_needGroups_146 : decode cX2_needGroups 146 = .ok (.invokevirtual 105, 3) := by decide +kernel
theorem dX2_needGroups_149 : decode cX2_needGroups 149 = .ok (.return_, 1) := by decide +kernel
theorem dX2_isGroupNext_0 : decode cX2_isGroupNext 0 = .ok (.aload_n 0, 1) := by decide +kernel
theorem dX2_isGroupNext_1 : decode cX2_isGroupNext 1 = .ok (.getfield 39, 3) := by decide +kernel
theorem dX2_isGroupNext_4 : decode cX2_isGroupNext 4 = .ok (.ifCond .ne 61, 3) := by decide +kernel
theorem dX2_isGroupNext_7 : decode cX2_isGroupNext 7 = .ok (.aload_n 0, 1) := by decide +kernel
theorem dX2_isGroupNext_8 : decode cX2_isGroupNext 8 = .ok (.getfield 29, 3) := by decide +kernel
theorem dX2_isGroupNext_11 : decode cX2_isGroupNext 11 = .ok (.aload_n 0, 1) := by decide +kernel
theorem dX2_isGroupNext_12 : decode cX2_isGroupNext 12 = .ok (.getfield 36, 3) := by decide +kernel
theorem dX2_isGroupNext_15 : decode cX2_isGroupNext 15 = .ok (.if_icmp .ge 50, 3) := by decide +kernel
theorem dX2_isGroupNext_18 : decode cX2_isGroupNext 18 = .ok (.aload_n 0, 1) := by decide +kernel
theorem dX2_isGroupNext_19 : decode cX2_isGroupNext 19 = .ok (.getfield 9, 3) := by decide +kernel
theorem dX2_isGroupNext_22 : decode cX2_isGroupNext 22 = .ok (.aload_n 0, 1) := by decide +kernel
theorem dX2_isGroupNext_23 : decode cX2_isGroupNext 23 = .ok (.getfield 29, 3) := by decide +kernel
theorem dX2_isGroupNext_26 : decode cX2_isGroupNext 26 = .ok (.iaload, 1) := by decide +kernel
theorem dX2_isGroupNext_27 : decode cX2_isGroupNext 27 = .ok (.iload_n 1, 1) := by decide +kernel
theorem dX2_isGroupNext_28 : decode cX2_isGroupNext 28 = .ok (.if_icmp .ne 37, 3) := by decide +kernel
theorem dX2_isGroupNext_31 : decode cX2_isGroupNext 31 = .ok (.aload_n 0, 1) := by decide +kernel
theorem dX2_isGroupNext_32 : decode cX2_isGroupNext 32 = .ok (.getfield 29, 3) := by decide +kernel
theorem dX2_isGroupNext_35 : decode cX2_isGroupNext 35 = .ok (.iconst 1, 1) := by decide +kernel
theorem dX2_isGroupNext_36 : decode cX2_isGroupNext 36 = .ok (.iadd, 1) := by decide +kernel
theorem dX2_isGroupNext_37 : decode cX2_isGroupNext 37 = .ok (.aload_n 0, 1) := by decide +kernel
theorem dX2_isGroupNext_38 : decode cX2_isGroupNext 38 = .ok (.getfield 36, 3) := by decide +kernel
theorem dX2_isGroupNext_41 : decode cX2_isGroupNext 41 = .ok (.if_icmp .ge 20, 3) := by decide +kernel
theorem dX2_isGroupNext_44 : decode cX2_isGroupNext 44 = .ok (.aload_n 0, 1) := by decide +kernel
theorem dX2_isGroupNext_45 : decode cX2_isGroupNext 45 = .ok (.getfield 9, 3) := by decide +kernel
theorem dX2_isGroupNext_48 : decode cX2_isGroupNext 48 = .ok (.aload_n 0, 1) := by decide +kernel
theorem dX2_isGroupNext_49 : decode cX2_isGroupNext 49 = .ok (.getfield 29, 3) := by decide +kernel
theorem dX2_isGroupNext_52 : decode cX2_isGroupNext 52 = .ok (.iconst 1, 1) := by decide +kernel
theorem dX2_isGroupNext_53 : decode cX2_isGroupNext 53 = .ok (.iadd, 1) := by decide +kernel
theorem dX2_isGroupNext_54 : decode cX2_isGroupNext 54 = .ok (.iaload, 1) := by decide +kernel
theorem dX2_isGroupNext_55 : decode cX2_isGroupNext 55 = .ok (.invokestatic 117, 3) := by decide +kernel
theorem dX2_isGroupNext_58 : decode cX2_isGroupNext 58 = .ok (.ifCond .eq 7, 3) := by decide +kernel
theorem dX2_isGroupNext_61 : decode cX2_isGroupNext 61 = .ok (.iconst 1, 1) := by decide +kernel
theorem dX2_isGroupNext_62 : decode cX2_isGroupNext 62 = .ok (.goto 4, 3) := by decide +kernel
theorem dX2_isGroupNext_65 : decode cX2_isGroupNext 65 = .ok (.iconst 0, 1) := by decide +kernel
theorem dX2_isGroupNext_66 : decode cX2_isGroupNext 66 = .ok (.ireturn, 1) := by decide +kernel
theorem dX2_passFraction_0 : decode cX2_passFraction 0 = .ok (.iconst 0, 1) := by decide +kernel
theorem dX2_passFraction_1 : decode cX2_passFraction 1 = .ok (.istore_n 2, 1) := by decide +kernel
theorem dX2_passFraction_2 : decode cX2_passFraction 2 = .ok (.aload_n 0, 1) := by decide +kernel
theorem dX2_passFraction_3 : decode cX2_passFraction 3 = .ok (.iload_n 1, 1) := by decide +kernel
theorem dX2_passFraction_4 : decode cX2_passFraction 4 = .ok (.invokevirtual 61, 3) := by decide +kernel
theorem dX2_passFraction_7 : decode cX2_passFraction 7 = .ok (.ifCond .eq 18, 3) := by decide +kernel
theorem dX2_passFraction_10 : decode cX2_passFraction 10 = .ok (.aload_n 0, 1) := by decide +kernel
theorem dX2_passFraction_11 : decode cX2_passFraction 11 = .ok (.bipush 6, 2) := by decide +kernel
theorem dX2_passFraction_13 : decode cX2_passFraction 13 = .ok (.invokevirtual 102, 3) := by decide +kernel
theorem dX2_passFraction_16 : decode cX2_passFraction 16 = .ok (.istore_n 2, 1) := by decide +kernel
theorem dX2_passFraction_17 : decode cX2_passFraction 17 = .ok (.iload_n 2, 1) := by decide +kernel
theorem dX2_passFraction_18 : decode cX2_passFraction 18 = .ok (.ifCond .ne 7, 3) := by decide +kernel
theorem dX2_passFraction_21 : decode cX2_passFraction 21 = .ok (.aload_n 0, 1) := by decide +kernel
theorem dX2_passFraction_22 : decode cX2_passFraction 22 = .ok (.invokevirtual 105, 3) := by decide +kernel
theorem dX2_passFraction_25 : decode cX2_passFraction 25 = .ok (.iload_n 2, 1) := by decide +kernel
theorem dX2_passFraction_26 : decode cX2_passFraction 26 = .ok (.istore_n 3, 1) := by decide +kernel
theorem dX2_passFraction_27 : decode cX2_passFraction 27 = .ok (.iload_n 3, 1) := by decide +kernel
theorem dX2_passFraction_28 : decode cX2_passFraction 28 = .ok (.bipush 6, 2) := by decide +kernel
theorem dX2_passFraction_30 : decode cX2_passFraction 30 = .ok (.if_icmp .ge 21, 3) := by decide +kernel
theorem dX2_passFraction_33 : decode cX2_passFraction 33 = .ok (.aload_n 0, 1) := by decide +kernel
theorem dX2_passFraction_34 : decode cX2_passFraction 34 = .ok (.dup, 1) := by decide +kernel
theorem dX2_passFraction_35 : decode cX2_passFraction 35 = .ok (.getfield 42, 3) := by decide +kernel
theorem dX2_passFraction_38 : decode cX2_passFraction 38 = .ok (.ldc2_w 120, 3) := by decide +kernel
theorem dX2_passFraction_41 : decode cX2_passFraction 41 = .ok (.lmul, 1) := by decide +kernel
theorem dX2_passFraction_42 : decode cX2_passFraction 42 = .ok (.putfield 42, 3) := by decide +kernel
theorem dX2_passFraction_45 : decode cX2_passFraction 45 = .ok (.iinc 3 1, 3) := by decide +kernel
theorem dX2_passFraction_48 : decode cX2_passFraction 48 = .ok (.goto (-21), 3) := by decide +kernel
theorem dX2_passFraction_51 : decode cX2_passFraction 51 = .ok (.return_, 1) := by decide +kernel
theorem dX2_readDay_0 : decode cX2_readDay 0 = .ok (.aload_n 0, 1) := by decide +kernel
theorem dX2_readDay_1 : decode cX2_readDay 1 = .ok (.iconst (-1), 1) := by decide +kernel
theorem dX2_readDay_2 : decode cX2_readDay 2 = .ok (.putfield 122, 3) := by decide +kernel
theorem dX2_readDay_5 : decode cX2_readDay 5 = .ok (.iconst 0, 1) := by decide +kernel
theorem dX2_readDay_6 : decode cX2_readDay 6 = .ok (.istore_n 2, 1) := by decide +kernel
theorem dX2_readDay_7 : decode cX2_readDay 7 = .ok (.iload_n 2, 1) := by decide +kernel
theorem dX2_readDay_8 : decode cX2_readDay 8 = .ok (.iconst 3, 1) := by decide +kernel
theorem dX2_readDay_9 : decode cX2_readDay 9 = .ok (.if_icmp .ge 23, 3) := by decide +kernel
theorem dX2_readDay_12 : decode cX2_readDay 12 = .ok (.aload_n 0, 1) := by decide +kernel
theorem dX2_readDay_13 : decode cX2_readDay 13 = .ok (.getfield 17, 3) := by decide +kernel
theorem dX2_readDay_16 : decode cX2_readDay 16 = .ok (.iload_n 2, 1) := by decide +kernel
theorem dX2_readDay_17 : decode cX2_readDay 17 = .ok (.iconst 0, 1) := by decide +kernel
theorem dX2_readDay_18 : decode cX2_readDay 18 = .ok (.iastore, 1) := by decide +kernel
theorem dX2_readDay_19 : decode cX2_readDay 19 = .ok (.aload_n 0, 1) := by decide +kernel
theorem dX2_readDay_20 : decode cX2_readDay 20 = .ok (.getfield 20, 3) := by decide +kernel
theorem dX2_readDay_23 : decode cX2_readDay 23 = .ok (.iload_n 2, 1) := by decide +kernel
theorem dX2_readDay_24 : decode cX2_readDay 24 = .ok (.iconst 0, 1) := by decide +kernel
theorem dX2_readDay_25 : decode cX2_readDay 25 = .ok (.iastore, 1) := by decide +kernel
theorem dX2_readDay_26 : decode cX2_readDay 26 = .ok (.iinc 2 1, 3) := by decide +kernel
theorem dX2_readDay_29 : decode cX2_readDay 29 = .ok (.goto (-22), 3) := by decide +kernel
theorem dX2_readDay_32 : decode cX2_readDay 32 = .ok (.iconst 0, 1) := by decide +kernel
theorem dX2_readDay_33 : decode cX2_readDay 33 = .ok (.istore_n 2, 1) := by decide +kernel
theorem dX2_readDay_34 : decode cX2_readDay 34 = .ok (.iload_n 2, 1) := by decide +kernel
theorem dX2_readDay_35 : decode cX2_readDay 35 = .ok (.iconst 3, 1) := by decide +kernel
theorem dX2_readDay_36 : decode cX2_readDay 36 = .ok (.if_icmp .ge 30, 3) := by decide +kernel
theorem dX2_readDay_39 : decode cX2_readDay 39 = .ok (.iload_n 2, 1) := by decide +kernel
theorem dX2_readDay_40 : decode cX2_readDay 40 = .ok (.ifCond .le 11, 3) := by decide +kernel
theorem dX2_readDay_43 : decode cX2_readDay 43 = .ok (.aload_n 0, 1) := by decide +kernel
theorem dX2_readDay_44 : decode cX2_readDay 44 = .ok (.aload_n 1, 1) := by decide +kernel
theorem dX2_readDay_45 : decode cX2_readDay 45 = .ok (.invokevirtual 125, 3) := by decide +kernel
theorem dX2_readDay_48 : decode cX2_readDay 48 = .ok (.invokevirtual 92, 3) := by decide +kernel
theorem dX2_readDay_51 : decode cX2_readDay 51 = .ok (.aload_n 0, 1) := by decide +kernel
theorem dX2_readDay_52 : decode cX2_readDay 52 = .ok (.aload_n 1, 1) := by decide +kernel
theorem dX2_readDay_53 : decode cX2_readDay 53 = .ok (.iload_n 2, 1) := by decide +kernel
theorem dX2_readDay_54 : decode cX2_readDay 54 = .ok (.invokevirtual 128, 3) := by decide +kernel
theorem dX2_readDay_57 : decode cX2_readDay 57 = .ok (.invokevirtual 131, 3) := by decide +kernel
theorem dX2_readDay_60 : decode cX2_readDay 60 = .ok (.iinc 2 1, 3) := by decide +kernel
theorem dX2_readDay_63 : decode cX2_readDay 63 = .ok (.goto (-29), 3) := by decide +kernel
theorem dX2_readDay_66 : decode cX2_readDay 66 = .ok (.aload_n 0, 1) := by decide +kernel
theorem dX2_readDay_67 : decode cX2_readDay 67 = .ok (.invokevirtual 95, 3) := by decide +kernel
theorem dX2_readDay_70 : decode cX2_readDay 70 = .ok (.aload_n 0, 1) := by decide +kernel
theorem dX2_readDay_71 : decode cX2_readDay 71 = .ok (.getfield 17, 3) := by decide +kernel
theorem dX2_readDay_74 : decode cX2_readDay 74 = .ok (.iconst 2, 1) := by decide +kernel
theorem dX2_readDay_75 : decode cX2_readDay 75 = .ok (.iaload, 1) := by decide +kernel
theorem dX2_readDay_76 : decode cX2_readDay 76 = .ok (.istore_n 2, 1) := by decide +kernel
theorem dX2_readDay_77 : decode cX2_readDay 77 = .ok (.aload_n 0, 1) := by decide +kernel
theorem dX2_readDay_78 : decode cX2_readDay 78 = .ok (.getfield 17, 3) := by decide +kernel
theorem dX2_readDay_81 : decode cX2_readDay 81 = .ok (.iconst 1, 1) := by decide +kernel
theorem dX2_readDay_82 : decode cX2_readDay 82 = .ok (.iaload, 1) := by decide +kernel
theorem dX2_readDay_83 : decode cX2_readDay 83 = .ok (.istore_n 3, 1) := by decide +kernel
theorem dX2_readDay_84 : decode cX2_readDay 84 = .ok (.aload_n 0, 1) := by decide +kernel
theorem dX2_readDay_85 : decode cX2_readDay 85 = .ok (.getfield 17, 3) := by decide +kernel
theorem dX2_readDay_88 : decode cX2_readDay 88 = .ok (.iconst 0, 1) := by decide +kernel
theorem dX2_readDay_89 : decode cX2_readDay 89 = .ok (.iaload, 1) := by decide +kernel
theorem dX2_readDay_90 : decode cX2_readDay 90 = .ok (.istore 4, 2) := by decide +kernel
theorem dX2_readDay_92 : decode cX2_readDay 92 = .ok (.aload_n 0, 1) := by decide +kernel
theorem dX2_readDay_93 : decode cX2_readDay 93 = .ok (.getfield 39, 3) := by decide +kernel
theorem dX2_readDay_96 : decode cX2_readDay 96 = .ok (.ifCond .ne 28, 3) := by decide +kernel
theorem dX2_readDay_99 : decode cX2_readDay 99 = .ok (.iload_n 2, 1) := by decide +kernel
theorem dX2_readDay_100 : decode cX2_readDay 100 = .ok (.iload_n 3, 1) := by decide +kernel
theorem dX2_readDay_101 : decode cX2_readDay 101 = .ok (.iload 4, 2) := by decide +kernel
theorem dX2_readDay_103 : decode cX2_readDay 103 = .ok (.invokestatic 134, 3) := by decide +kernel
theorem dX2_readDay_106 : decode cX2_readDay 106 = .ok (.ifCond .eq 18, 3) := by decide +kernel
theorem dX2_readDay_109 : decode cX2_readDay 109 = .ok (.aload_n 0, 1) := by decide +kernel
theorem dX2_readDay_110 : decode cX2_readDay 110 = .ok (.iload_n 2, 1) := by decide +kernel
theorem dX2_readDay_111 : decode cX2_readDay 111 = .ok (.iload_n 3, 1) := by decide +kernel
theorem dX2_readDay_112 : decode cX2_readDay 112 = .ok (.iload 4, 2) := by decide +kernel
theorem dX2_readDay_114 : decode cX2_readDay 114 = .ok (.invokestatic 140, 3) := by decide +kernel
theorem dX2_readDay_117 : decode cX2_readDay 117 = .ok (.i2l, 1) := by decide +kernel
theorem dX2_readDay_118 : decode cX2_readDay 118 = .ok (.putfield 46, 3) := by decide +kernel
theorem dX2_readDay_121 : decode cX2_readDay 121 = .ok (.goto 27, 3) := by decide +kernel
theorem dX2_readDay_124 : decode cX2_readDay 124 = .ok (.aload_n 0, 1) := by decide +kernel
theorem dX2_readDay_125 : decode cX2_readDay 125 = .ok (.getfield 39, 3) := by decide +kernel
theorem dX2_readDay_128 : decode cX2_readDay 128 = .ok (.iconst 2, 1) := by decide +kernel
theorem dX2_readDay_129 : decode cX2_readDay 129 = .ok (.if_icmp .eq 19, 3) := by decide +kernel
theorem dX2_readDay_132 : decode cX2_readDay 132 = .ok (.aload_n 0, 1) := by decide +kernel
theorem dX2_readDay_133 : decode cX2_readDay 133 = .ok (.aload_n 0, 1) := by decide +kernel
theorem dX2_readDay_134 : decode cX2_readDay 134 = .ok (.invokevirtual 144, 3) := by decide +kernel
theorem dX2_readDay_137 : decode cX2_readDay 137 = .ok (.ifCond .eq 7, 3) := by decide +kernel
theorem dX2_readDay_140 : decode cX2_readDay 140 = .ok (.iconst 1, 1) := by decide +kernel
theorem dX2_readDay_141 : decode cX2_readDay 141 = .ok (.goto 4, 3) := by decide +kernel
theorem dX2_readDay_144 : decode cX2_readDay 144 = .ok (.iconst 2, 1) := by decide +kernel
theorem dX2_readDay_145 : decode cX2_readDay 145 = .ok (.putfield 39, 3) := by decide +kernel
theorem dX2_readDay_148 : decode cX2_readDay 148 = .ok (.return_, 1) := by decide +kernel
theorem dX2_needPart_0 : decode cX2_needPart 0 = .ok (.aload_n 0, 1) := by decide +kernel
theorem dX2_needPart_1 : decode cX2_needPart 1 = .ok (.getfield 39, 3) := by decide +kernel
theorem dX2_needPart_4 : decode cX2_needPart 4 = .ok (.ifCond .ne 12, 3) := by decide +kernel
theorem dX2_needPart_7 : decode cX2_needPart 7 = .ok (.iload_n 1, 1) := by decide +kernel
theorem dX2_needPart_8 : decode cX2_needPart 8 = .ok (.ifCond .lt 8, 3) := by decide +kernel
theorem dX2_needPart_11 : decode cX2_needPart 11 = .ok (.iload_n 1, 1) := by decide +kernel
theorem dX2_needPart_12 : decode cX2_needPart 12 = .ok (.iconst 3, 1) := by decide +kernel
theorem dX2_needPart_13 : decode cX2_needPart 13 = .ok (.if_icmp .lt 4, 3) := by decide +kernel
theorem dX2_needPart_16 : decode cX2_needPart 16 = .ok (.return_, 1) := by decide +kernel
theorem dX2_needPart_17 : decode cX2_needPart 17 = .ok (.iload_n 1, 1) := by decide +kernel
theorem dX2_needPart_18 : decode cX2_needPart 18 = .ok (.iconst 2, 1) := by decide +kernel
theorem dX2_needPart_19 : decode cX2_needPart 19 = .ok (.if_icmp .ne 7, 3) := by decide +kernel
theorem dX2_needPart_22 : decode cX2_needPart 22 = .ok (.iconst 1, 1) := by decide +kernel
theorem dX2_needPart_23 : decode cX2_needPart 23 = .ok (.goto 4, 3) := by decide +kernel
theorem dX2_needPart_26 : decode cX2_needPart 26 = .ok (.iconst 0, 1) := by decide +kernel
theorem dX2_needPart_27 : decode cX2_needPart 27 = .ok (.istore_n 2, 1) := by decide +kernel
theorem dX2_needPart_28 : decode cX2_needPart 28 = .ok (.aload_n 0, 1) := by decide +kernel
theorem dX2_needPart_29 : decode cX2_needPart 29 = .ok (.lconst 0, 1) := by decide +kernel
theorem dX2_needPart_30 : decode cX2_needPart 30 = .ok (.putfield 42, 3) := by decide +kernel
theorem dX2_needPart_33 : decode cX2_needPart 33 = .ok (.aload_n 0, 1) := by decide +kernel
theorem dX2_needPart_34 : decode cX2_needPart 34 = .ok (.getfield 20, 3) := by decide +kernel
theorem dX2_needPart_37 : decode cX2_needPart 37 = .ok (.iload_n 1, 1) := by decide +kernel
theorem dX2_needPart_38 : decode cX2_needPart 38 = .ok (.aload_n 0, 1) := by decide +kernel
theorem dX2_needPart_39 : decode cX2_needPart 39 = .ok (.iload_n 2, 1) := by decide +kernel
theorem dX2_needPart_40 : decode cX2_needPart 40 = .ok (.ifCond .eq 7, 3) := by decide +kernel
theorem dX2_needPart_43 : decode cX2_needPart 43 = .ok (.iconst 4, 1) := by decide +kernel
theorem dX2_needPart_44 : decode cX2_needPart 44 = .ok (.goto 4, 3) := by decide +kernel
theorem dX2_needPart_47 : decode cX2_needPart 47 = .ok (.iconst 2, 1) := by decide +kernel
theorem dX2_needPart_48 : decode cX2_needPart 48 = .ok (.invokevirtual 102, 3) := by decide +kernel
theorem dX2_needPart_51 : decode cX2_needPart 51 = .ok (.iastore, 1) := by decide +kernel
theorem dX2_needPart_52 : decode cX2_needPart 52 = .ok (.aload_n 0, 1) := by decide +kernel
theorem dX2_needPart_53 : decode cX2_needPart 53 = .ok (.getfield 17, 3) := by decide +kernel
theorem dX2_needPart_56 : decode cX2_needPart 56 = .ok (.iload_n 1, 1) := by decide +kernel
theorem dX2_needPart_57 : decode cX2_needPart 57 = .ok (.aload_n 0, 1) := by decide +kernel
theorem dX2_needPart_58 : decode cX2_needPart 58 = .ok (.getfield 42, 3) := by decide +kernel
theorem dX2_needPart_61 : decode cX2_needPart 61 = .ok (.l2i, 1) := by decide +kernel
theorem dX2_needPart_62 : decode cX2_needPart 62 = .ok (.iastore, 1) := by decide +kernel
theorem dX2_needPart_63 : decode cX2_needPart 63 = .ok (.aload_n 0, 1) := by decide +kernel
theorem dX2_needPart_64 : decode cX2_needPart 64 = .ok (.getfield 29, 3) := by decide +kernel
theorem dX2_needPart_67 : decode cX2_needPart 67 = .ok (.aload_n 0, 1) := by decide +kernel
theorem dX2_needPart_68 : decode cX2_needPart 68 = .ok (.getfield 36, 3) := by decide +kernel
theorem dX2_needPart_71 : decode cX2_needPart 71 = .ok (.if_icmp .lt 8, 3) := by decide +kernel
theorem dX2_needPart_74 : decode cX2_needPart 74 = .ok (.aload_n 0, 1) := by decide +kernel
theorem dX2_needPart_75 : decode cX2_needPart 75 = .ok (.iload_n 1, 1) := by decide +kernel
theorem dX2_needPart_76 : decode cX2_needPart 76 = .ok (.putfield 122, 3) := by decide +kernel
theorem dX2_needPart_79 : decode cX2_needPart 79 = .ok (.aload_n 0, 1) := by decide +kernel
theorem dX2_needPart_80 : decode cX2_needPart 80 = .ok (.getfield 20, 3) := by decide +kernel
theorem dX2_needPart_83 : decode cX2_needPart 83 = .ok (.iload_n 1, 1) := by decide +kernel
theorem dX2_needPart_84 : decode cX2_needPart 84 = .ok (.iaload, 1) := by decide +kernel
theorem dX2_needPart_85 : decode cX2_needPart 85 = .ok (.iload_n 2, 1) := by decide +kernel
theorem dX2_needPart_86 : decode cX2_needPart 86 = .ok (.ifCond .eq 7, 3) := by decide +kernel
theorem dX2_needPart_89 : decode cX2_needPart 89 = .ok (.iconst 4, 1) := by decide +kernel
theorem dX2_needPart_90 : decode cX2_needPart 90 = .ok (.goto 4, 3) := by decide +kernel
theorem dX2_needPart_93 : decode cX2_needPart 93 = .ok (.iconst 1, 1) := by decide +kernel
theorem dX2_needPart_94 : decode cX2_needPart 94 = .ok (.if_icmp .ge 7, 3) := by decide +kernel
theorem dX2_needPart_97 : decode cX2_needPart 97 = .ok (.aload_n 0, 1) := by decide +kernel
theorem dX2_needPart_98 : decode cX2_needPart 98 = .ok (.invokevirtual 105, 3) := by decide +kernel
theorem dX2_needPart_101 : decode cX2_needPart 101 = .ok (.return_, 1) := by decide +kernel
theorem dX2_couldBeDay_0 : decode cX2_couldBeDay 0 = .ok (.aload_n 0, 1) := by decide +kernel
theorem dX2_couldBeDay_1 : decode cX2_couldBeDay 1 = .ok (.getfield 20, 3) := by decide +kernel
theorem dX2_couldBeDay_4 : decode cX2_couldBeDay 4 = .ok (.iconst 2, 1) := by decide +kernel
theorem dX2_couldBeDay_5 : decode cX2_couldBeDay 5 = .ok (.iaload, 1) := by decide +kernel
theorem dX2_couldBeDay_6 : decode cX2_couldBeDay 6 = .ok (.iconst 4, 1) := by decide +kernel
theorem dX2_couldBeDay_7 : decode cX2_couldBeDay 7 = .ok (.if_icmp .ne 7, 3) := by decide +kernel
theorem dX2_couldBeDay_10 : decode cX2_couldBeDay 10 = .ok (.iconst 1, 1) := by decide +kernel
theorem dX2_couldBeDay_11 : decode cX2_couldBeDay 11 = .ok (.goto 4, 3) := by decide +kernel
theorem dX2_couldBeDay_14 : decode cX2_couldBeDay 14 = .ok (.iconst 0, 1) := by decide +kernel
theorem dX2_couldBeDay_15 : decode cX2_couldBeDay 15 = .ok (.istore_n 1, 1) := by decide +kernel
theorem dX2_couldBeDay_16 : decode cX2_couldBeDay 16 = .ok (.aload_n 0, 1) := by decide +kernel
theorem dX2_couldBeDay_17 : decode cX2_couldBeDay 17 = .ok (.getfield 17, 3) := by decide +kernel
theorem dX2_couldBeDay_20 : decode cX2_couldBeDay 20 = .ok (.iconst 2, 1) := by decide +kernel
theorem dX2_couldBeDay_21 : decode cX2_couldBeDay 21 = .ok (.iaload, 1) := by decide +kernel
theorem dX2_couldBeDay_22 : decode cX2_couldBeDay 22 = .ok (.istore_n 2, 1) := by decide +kernel
theorem dX2_couldBeDay_23 : decode cX2_couldBeDay 23 = .ok (.iload_n 1, 1) := by decide +kernel
theorem dX2_couldBeDay_24 : decode cX2_couldBeDay 24 = .ok (.ifCond .eq 9, 3) := by decide +kernel
theorem dX2_couldBeDay_27 : decode cX2_couldBeDay 27 = .ok (.iload_n 2, 1) := by decide +kernel
theorem dX2_couldBeDay_28 : decode cX2_couldBeDay 28 = .ok (.ifCond .ne 5, 3) := by decide +kernel
theorem dX2_couldBeDay_31 : decode cX2_couldBeDay 31 = .ok (.iconst 0, 1) := by decide +kernel
theorem dX2_couldBeDay_32 : decode cX2_couldBeDay 32 = .ok (.ireturn, 1) := by decide +kernel
theorem dX2_couldBeDay_33 : decode cX2_couldBeDay 33 = .ok (.iload_n 1, 1) := by decide +kernel
theorem dX2_couldBeDay_34 : decode cX2_couldBeDay 34 = .ok (.ifCond .eq 10, 3) := by decide +kernel
theorem dX2_couldBeDay_37 : decode cX2_couldBeDay 37 = .ok (.iload_n 2, 1) := by decide +kernel
theorem dX2_couldBeDay_38 : decode cX2_couldBeDay 38 = .ok (.invokestatic 148, 3) := by decide +kernel
theorem dX2_couldBeDay_41 : decode cX2_couldBeDay 41 = .ok (.ifCond .eq 7, 3) := by decide +kernel
theorem dX2_couldBeDay_44 : decode cX2_couldBeDay 44 = .ok (.iconst 1, 1) := by decide +kernel
theorem dX2_couldBeDay_45 : decode cX2_couldBeDay 45 = .ok (.goto 4, 3) := by decide +kernel
theorem dX2_couldBeDay_48 : decode cX2_couldBeDay 48 = .ok (.iconst 0, 1) := by decide +kernel
theorem dX2_couldBeDay_49 : decode cX2_couldBeDay 49 = .ok (.istore_n 3, 1) := by decide +kernel
theorem dX2_couldBeDay_50 : decode cX2_couldBeDay 50 = .ok (.aload_n 0, 1) := by decide +kernel
theorem dX2_couldBeDay_51 : decode cX2_couldBeDay 51 = .ok (.invokevirtual 151, 3) := by decide +kernel
theorem dX2_couldBeDay_54 : decode cX2_couldBeDay 54 = .ok (.istore 4, 2) := by decide +kernel
theorem dX2_couldBeDay_56 : decode cX2_couldBeDay 56 = .ok (.iconst 1, 1) := by decide +kernel
theorem dX2_couldBeDay_57 : decode cX2_couldBeDay 57 = .ok (.istore 5, 2) := by decide +kernel
theorem dX2_couldBeDay_59 : decode cX2_couldBeDay 59 = .ok (.iload 5, 2) := by decide +kernel
theorem dX2_couldBeDay_61 : decode cX2_couldBeDay 61 = .ok (.bipush 12, 2) := by decide +kernel
theorem dX2_couldBeDay_63 : decode cX2_couldBeDay 63 = .ok (.if_icmp .gt 37, 3) := by decide +kernel
theorem dX2_couldBeDay_66 : decode cX2_couldBeDay 66 = .ok (.aload_n 0, 1) := by decide +kernel
theorem dX2_couldBeDay_67 : decode cX2_couldBeDay 67 = .ok (.iload 5, 2) := by decide +kernel
theorem dX2_couldBeDay_69 : decode cX2_couldBeDay 69 = .ok (.invokevirtual 154, 3) := by decide +kernel
theorem dX2_couldBeDay_72 : decode cX2_couldBeDay 72 = .ok (.ifCond .eq 22, 3) := by decide +kernel
theorem dX2_couldBeDay_75 : decode cX2_couldBeDay 75 = .ok (.iload 4, 2) := by decide +kernel
theorem dX2_couldBeDay_77 : decode cX2_couldBeDay 77 = .ok (.iconst 1, 1) := by decide +kernel
theorem dX2_couldBeDay_78 : decode cX2_couldBeDay 78 = .ok (.if_icmp .lt 16, 3) := by decide +kernel
theorem dX2_couldBeDay_81 : decode cX2_couldBeDay 81 = .ok (.iload 4, 2) := by decide +kernel
theorem dX2_couldBeDay_83 : decode cX2_couldBeDay 83 = .ok (.iload 5, 2) := by decide +kernel
theorem dX2_couldBeDay_85 : decode cX2_couldBeDay 85 = .ok (.iload_n 3, 1) := by decide +kernel
theorem dX2_couldBeDay_86 : decode cX2_couldBeDay 86 = .ok (.invokestatic 157, 3) := by decide +kernel
theorem dX2_couldBeDay_89 : decode cX2_couldBeDay 89 = .ok (.if_icmp .gt 5, 3) := by decide +kernel
theorem dX2_couldBeDay_92 : decode cX2_couldBeDay 92 = .ok (.iconst 1, 1) := by decide +kernel
theorem dX2_couldBeDay_93 : decode cX2_couldBeDay 93 = .ok (.ireturn, 1) := by decide +kernel
theorem dX2_couldBeDay_94 : decode cX2_couldBeDay 94 = .ok (.iinc 5 1, 3) := by decide +kernel
theorem dX2_couldBeDay_97 : decode cX2_couldBeDay 97 = .ok (.goto (-38), 3) := by decide +kernel
theorem dX2_couldBeDay_100 : decode cX2_couldBeDay 100 = .ok (.iconst 0, 1) := by decide +kernel
theorem dX2_couldBeDay_101 : decode cX2_couldBeDay 101 = .ok (.ireturn, 1) := by decide +kernel
theorem dX2_leastDay_0 : decode cX2_leastDay 0 = .ok (.aload_n 0, 1) := by decide +kernel
theorem dX2_leastDay_1 : decode cX2_leastDay 1 = .ok (.getfield 20, 3) := by decide +kernel
theorem dX2_leastDay_4 : decode cX2_leastDay 4 = .ok (.iconst 0, 1) := by decide +kernel
theorem dX2_leastDay_5 : decode cX2_leastDay 5 = .ok (.iaload, 1) := by decide +kernel
theorem dX2_leastDay_6 : decode cX2_leastDay 6 = .ok (.istore_n 1, 1) := by decide +kernel
theorem dX2_leastDay_7 : decode cX2_leastDay 7 = .ok (.aload_n 0, 1) := by decide +kernel
theorem dX2_leastDay_8 : decode cX2_leastDay 8 = .ok (.getfield 17, 3) := by decide +kernel
theorem dX2_leastDay_11 : decode cX2_leastDay 11 = .ok (.iconst 0, 1) := by decide +kernel
theorem dX2_leastDay_12 : decode cX2_leastDay 12 = .ok (.iaload, 1) := by decide +kernel
theorem dX2_leastDay_13 : decode cX2_leastDay 13 = .ok (.istore_n 2, 1) := by decide +kernel
theorem dX2_leastDay_14 : decode cX2_leastDay 14 = .ok (.iload_n 1, 1) := by decide +kernel
theorem dX2_leastDay_15 : decode cX2_leastDay 15 = .ok (.ifCond .eq 15, 3) := by decide +kernel
theorem dX2_leastDay_18 : decode cX2_leastDay 18 = .ok (.iload_n 1, 1) := by decide +kernel
theorem dX2_leastDay_19 : decode cX2_leastDay 19 = .ok (.iconst 1, 1) := by decide +kernel
theorem dX2_leastDay_20 : decode cX2_leastDay 20 = .ok (.if_icmp .ne 14, 3) := by decide +kernel
theorem dX2_leastDay_23 : decode cX2_leastDay 23 = .ok (.aload_n 0, 1) := by decide +kernel
theorem dX2_leastDay_24 : decode cX2_leastDay 24 = .ok (.getfield 122, 3) := by decide +kernel
theorem dX2_leastDay_27 : decode cX2_leastDay 27 = .ok (.ifCond .ne 7, 3) := by decide +kernel
theorem dX2_leastDay_30 : decode cX2_leastDay 30 = .ok (.iconst 1, 1) := by decide +kernel
theorem dX2_leastDay_31 : decode cX2_leastDay 31 = .ok (.goto 4, 3) := by decide +kernel
theorem dX2_leastDay_34 : decode cX2_leastDay 34 = .ok (.iconst 0, 1) := by decide +kernel
theorem dX2_leastDay_35 : decode cX2_leastDay 35 = .ok (.istore_n 3, 1) := by decide +kernel
theorem dX2_leastDay_36 : decode cX2_leastDay 36 = .ok (.iload_n 3, 1) := by decide +kernel
theorem dX2_leastDay_37 : decode cX2_leastDay 37 = .ok (.ifCond .eq 11, 3) := by decide +kernel
theorem dX2_leastDay_40 : decode cX2_leastDay 40 = .ok (.iload_n 2, 1) := by decide +kernel
theorem dX2_leastDay_41 : decode cX2_leastDay 41 = .ok (.iconst 1, 1) := by decide +kernel
theorem dX2_leastDay_42 : decode cX2_leastDay 42 = .ok (.invokestatic 23, 3) := by decide +kernel
theorem dX2_leastDay_45 : decode cX2_leastDay 45 = .ok (.goto 4, 3) := by decide +kernel
theorem dX2_leastDay_48 : decode cX2_leastDay 48 = .ok (.iload_n 2, 1) := by decide +kernel
theorem dX2_leastDay_49 : decode cX2_leastDay 49 = .ok (.ireturn, 1) := by decide +kernel
end
section
theorem dX2_couldBeMonth_0 : decode cX2_couldBeMonth 0 = .ok (.aload_n 0, 1) := by decide +kernel
theorem dX2_couldBeMonth_1 : decode cX2_couldBeMonth 1 = .ok (.getfield 20, 3) := by decide +kernel
theorem dX2_couldBeMonth_4 : decode cX2_couldBeMonth 4 = .ok (.iconst 1, 1) := by decide +kernel
theorem dX2_couldBeMonth_5 : decode cX2_couldBeMonth 5 = .ok (.iaload, 1) := by decide +kernel
theorem dX2_couldBeMonth_6 : decode cX2_couldBeMonth 6 = .ok (.istore_n 2, 1) := by decide +kernel
theorem dX2_couldBeMonth_7 : decode cX2_couldBeMonth 7 = .ok (.aload_n 0, 1) := by decide +kernel
theorem dX2_couldBeMonth_8 : decode cX2_couldBeMonth 8 = .ok (.getfield 17, 3) := by decide +kernel
theorem dX2_couldBeMonth_11 : decode cX2_couldBeMonth 11 = .ok (.iconst 1, 1) := by decide +kernel
theorem dX2_couldBeMonth_12 : decode cX2_couldBeMonth 12 = .ok (.iaload, 1) := by decide +kernel
theorem dX2_couldBeMonth_13 : decode cX2_couldBeMonth 13 = .ok (.istore_n 3, 1) := by decide +kernel
theorem dX2_couldBeMonth_14 : decode cX2_couldBeMonth 14 = .ok (.iload_n 2, 1) := by decide +kernel
theorem dX2_couldBeMonth_15 : decode cX2_couldBeMonth 15 = .ok (.iconst 1, 1) := by decide +kernel
theorem dX2_couldBeMonth_16 : decode cX2_couldBeMonth 16 = .ok (.if_icmp .ne 23, 3) := by decide +kernel
theorem dX2_couldBeMonth_19 : decode cX2_couldBeMonth 19 = .ok (.aload_n 0, 1) := by decide +kernel
theorem dX2_couldBeMonth_20 : decode cX2_couldBeMonth 20 = .ok (.getfield 122, 3) := by decide +kernel
theorem dX2_couldBeMonth_23 : decode cX2_couldBeMonth 23 = .ok (.iconst 1, 1) := by decide +kernel
theorem dX2_couldBeMonth_24 : decode cX2_couldBeMonth 24 = .ok (.if_icmp .ne 15, 3) := by decide +kernel
theorem dX2_couldBeMonth_27 : decode cX2_couldBeMonth 27 = .ok (.iload_n 1, 1) := by decide +kernel
theorem dX2_couldBeMonth_28 : decode cX2_couldBeMonth 28 = .ok (.bipush 10, 2) := by decide +kernel
theorem dX2_couldBeMonth_30 : decode cX2_couldBeMonth 30 = .ok (.idiv, 1) := by decide +kernel
theorem dX2_couldBeMonth_31 : decode cX2_couldBeMonth 31 = .ok (.iload_n 3, 1) := by decide +kernel
theorem dX2_couldBeMonth_32 : decode cX2_couldBeMonth 32 = .ok (.if_icmp .ne 7, 3) := by decide +kernel
theorem dX2_couldBeMonth_35 : decode cX2_couldBeMonth 35 = .ok (.iconst 1, 1) := by decide +kernel
theorem dX2_couldBeMonth_36 : decode cX2_couldBeMonth 36 = .ok (.goto 4, 3) := by decide +kernel
theorem dX2_couldBeMonth_39 : decode cX2_couldBeMonth 39 = .ok (.iconst 0, 1) := by decide +kernel
theorem dX2_couldBeMonth_40 : decode cX2_couldBeMonth 40 = .ok (.istore 4, 2) := by decide +kernel
theorem dX2_couldBeMonth_42 : decode cX2_couldBeMonth 42 = .ok (.iload_n 2, 1) := by decide +kernel
theorem dX2_couldBeMonth_43 : decode cX2_couldBeMonth 43 = .ok (.ifCond .eq 13, 3) := by decide +kernel
theorem dX2_couldBeMonth_46 : decode cX2_couldBeMonth 46 = .ok (.iload_n 1, 1) := by decide +kernel
theorem dX2_couldBeMonth_47 : decode cX2_couldBeMonth 47 = .ok (.iload_n 3, 1) := by decide +kernel
theorem dX2_couldBeMonth_48 : decode cX2_couldBeMonth 48 = .ok (.if_icmp .eq 8, 3) := by decide +kernel
theorem dX2_couldBeMonth_51 : decode cX2_couldBeMonth 51 = .ok (.iload 4, 2) := by decide +kernel
theorem dX2_couldBeMonth_53 : decode cX2_couldBeMonth 53 = .ok (.ifCond .eq 7, 3) := by decide +kernel
theorem dX2_couldBeMonth_56 : decode cX2_couldBeMonth 56 = .ok (.iconst 1, 1) := by decide +kernel
theorem dX2_couldBeMonth_57 : decode cX2_couldBeMonth 57 = .ok (.goto 4, 3) := by decide +kernel
theorem dX2_couldBeMonth_60 : decode cX2_couldBeMonth 60 = .ok (.iconst 0, 1) := by decide +kernel
theorem dX2_couldBeMonth_61 : decode cX2_couldBeMonth 61 = .ok (.ireturn, 1) := by decide +kernel
theorem dX2_passes_0 : decode cX2_passes 0 = .ok (.aload_n 0, 1) := by decide +kernel
theorem dX2_passes_1 : decode cX2_passes 1 = .ok (.getfield 39, 3) := by decide +kernel
theorem dX2_passes_4 : decode cX2_passes 4 = .ok (.ifCond .ne 27, 3) := by decide +kernel
theorem dX2_passes_7 : decode cX2_passes 7 = .ok (.aload_n 0, 1) := by decide +kernel
theorem dX2_passes_8 : decode cX2_passes 8 = .ok (.getfield 29, 3) := by decide +kernel
theorem dX2_passes_11 : decode cX2_passes 11 = .ok (.aload_n 0, 1) := by decide +kernel
theorem dX2_passes_12 : decode cX2_passes 12 = .ok (.getfield 36, 3) := by decide +kernel
theorem dX2_passes_15 : decode cX2_passes 15 = .ok (.if_icmp .ge 16, 3) := by decide +kernel
theorem dX2_passes_18 : decode cX2_passes 18 = .ok (.aload_n 0, 1) := by decide +kernel
theorem dX2_passes_19 : decode cX2_passes 19 = .ok (.getfield 9, 3) := by decide +kernel
theorem dX2_passes_22 : decode cX2_passes 22 = .ok (.aload_n 0, 1) := by decide +kernel
theorem dX2_passes_23 : decode cX2_passes 23 = .ok (.getfield 29, 3) := by decide +kernel
theorem dX2_passes_26 : decode cX2_passes 26 = .ok (.iaload, 1) := by decide +kernel
theorem dX2_passes_27 : decode cX2_passes 27 = .ok (.iload_n 1, 1) := by decide +kernel
theorem dX2_passes_28 : decode cX2_passes 28 = .ok (.if_icmp .eq 5, 3) := by decide +kernel
theorem dX2_passes_31 : decode cX2_passes 31 = .ok (.iconst 0, 1) := by decide +kernel
theorem dX2_passes_32 : decode cX2_passes 32 = .ok (.ireturn, 1) := by decide +kernel
theorem dX2_passes_33 : decode cX2_passes 33 = .ok (.aload_n 0, 1) := by decide +kernel
theorem dX2_passes_34 : decode cX2_passes 34 = .ok (.dup, 1) := by decide +kernel
theorem dX2_passes_35 : decode cX2_passes 35 = .ok (.getfield 29, 3) := by decide +kernel
theorem dX2_passes_38 : decode cX2_passes 38 = .ok (.iconst 1, 1) := by decide +kernel
theorem dX2_passes_39 : decode cX2_passes 39 = .ok (.iadd, 1) := by decide +kernel
theorem dX2_passes_40 : decode cX2_passes 40 = .ok (.putfield 29, 3) := by decide +kernel
theorem dX2_passes_43 : decode cX2_passes 43 = .ok (.iconst 1, 1) := by decide +kernel
theorem dX2_passes_44 : decode cX2_passes 44 = .ok (.ireturn, 1) := by decide +kernel
theorem dX2_passDigits_0 : decode cX2_passDigits 0 = .ok (.iconst 0, 1) := by decide +kernel
theorem dX2_passDigits_1 : decode cX2_passDigits 1 = .ok (.istore_n 2, 1) := by decide +kernel
theorem dX2_passDigits_2 : decode cX2_passDigits 2 = .ok (.iload_n 2, 1) := by decide +kernel
theorem dX2_passDigits_3 : decode cX2_passDigits 3 = .ok (.iload_n 1, 1) := by decide +kernel
theorem dX2_passDigits_4 : decode cX2_passDigits 4 = .ok (.if_icmp .ge 78, 3) := by decide +kernel
theorem dX2_passDigits_7 : decode cX2_passDigits 7 = .ok (.aload_n 0, 1) := by decide +kernel
theorem dX2_passDigits_8 : decode cX2_passDigits 8 = .ok (.getfield 39, 3) := by decide +kernel
theorem dX2_passDigits_11 : decode cX2_passDigits 11 = .ok (.ifCond .ne 71, 3) := by decide +kernel
theorem dX2_passDigits_14 : decode cX2_passDigits 14 = .ok (.aload_n 0, 1) := by decide +kernel
theorem dX2_passDigits_15 : decode cX2_passDigits 15 = .ok (.getfield 29, 3) := by decide +kernel
theorem dX2_passDigits_18 : decode cX2_passDigits 18 = .ok (.aload_n 0, 1) := by decide +kernel
theorem dX2_passDigits_19 : decode cX2_passDigits 19 = .ok (.getfield 36, 3) := by decide +kernel
theorem dX2_passDigits_22 : decode cX2_passDigits 22 = .ok (.if_icmp .ge 60, 3) := by decide +kernel
theorem dX2_passDigits_25 : decode cX2_passDigits 25 = .ok (.aload_n 0, 1) := by decide +kernel
theorem dX2_passDigits_26 : decode cX2_passDigits 26 = .ok (.getfield 9, 3) := by decide +kernel
theorem dX2_passDigits_29 : decode cX2_passDigits 29 = .ok (.aload_n 0, 1) := by decide +kernel
theorem dX2_passDigits_30 : decode cX2_passDigits 30 = .ok (.getfield 29, 3) := by decide +kernel
theorem dX2_passDigits_33 : decode cX2_passDigits 33 = .ok (.iaload, 1) := by decide +kernel
theorem dX2_passDigits_34 : decode cX2_passDigits 34 = .ok (.invokestatic 117, 3) := by decide +kernel
theorem dX2_passDigits_37 : decode cX2_passDigits 37 = .ok (.ifCond .eq 45, 3) := by decide +kernel
theorem dX2_passDigits_40 : decode cX2_passDigits 40 = .ok (.aload_n 0, 1) := by decide +kernel
theorem dX2_passDigits_41 : decode cX2_passDigits 41 = .ok (.aload_n 0, 1) := by decide +kernel
theorem dX2_passDigits_42 : decode cX2_passDigits 42 = .ok (.getfield 42, 3) := by decide +kernel
theorem dX2_passDigits_45 : decode cX2_passDigits 45 = .ok (.ldc2_w 120, 3) := by decide +kernel
theorem dX2_passDigits_48 : decode cX2_passDigits 48 = .ok (.lmul, 1) := by decide +kernel
theorem dX2_passDigits_49 : decode cX2_passDigits 49 = .ok (.aload_n 0, 1) := by decide +kernel
theorem dX2_passDigits_50 : decode cX2_passDigits 50 = .ok (.getfield 9, 3) := by decide +kernel
theorem dX2_passDigits_53 : decode cX2_passDigits 53 = .ok (.aload_n 0, 1) := by decide +kernel
theorem dX2_passDigits_54 : decode cX2_passDigits 54 = .ok (.getfield 29, 3) := by decide +kernel
theorem dX2_passDigits_57 : decode cX2_passDigits 57 = .ok (.iaload, 1) := by decide +kernel
theorem dX2_passDigits_58 : decode cX2_passDigits 58 = .ok (.bipush 48, 2) := by decide +kernel
theorem dX2_passDigits_60 : decode cX2_passDigits 60 = .ok (.isub, 1) := by decide +kernel
theorem dX2_passDigits_61 : decode cX2_passDigits 61 = .ok (.i2l, 1) := by decide +kernel
theorem dX2_passDigits_62 : decode cX2_passDigits 62 = .ok (.ladd, 1) := by decide +kernel
theorem dX2_passDigits_63 : decode cX2_passDigits 63 = .ok (.putfield 42, 3) := by decide +kernel
theorem dX2_passDigits_66 : decode cX2_passDigits 66 = .ok (.aload_n 0, 1) := by decide +kernel
theorem dX2_passDigits_67 : decode cX2_passDigits 67 = .ok (.dup, 1) := by decide +kernel
theorem dX2_passDigits_68 : decode cX2_passDigits 68 = .ok (.getfield 29, 3) := by decide +kernel
theorem dX2_passDigits_71 : decode cX2_passDigits 71 = .ok (.iconst 1, 1) := by decide +kernel
theorem dX2_passDigits_72 : decode cX2_passDigits 72 = .ok (.iadd, 1) := by decide +kernel
theorem dX2_passDigits_73 : decode cX2_passDigits 73 = .ok (.putfield 29, 3) := by decide +kernel
theorem dX2_passDigits_76 : decode cX2_passDigits 76 = .ok (.iinc 2 1, 3) := by decide +kernel
theorem dX2_passDigits_79 : decode cX2_passDigits 79 = .ok (.goto (-77), 3) := by decide +kernel
theorem dX2_passDigits_82 : decode cX2_passDigits 82 = .ok (.iload_n 2, 1) := by decide +kernel
theorem dX2_passDigits_83 : decode cX2_passDigits 83 = .ok (.ireturn, 1) := by decide +kernel
theorem dX2_need_0 : decode cX2_need 0 = .ok (.aload_n 0, 1) := by decide +kernel
theorem dX2_need_1 : decode cX2_need 1 = .ok (.iload_n 1, 1) := by decide +kernel
theorem dX2_need_2 : decode cX2_need 2 = .ok (.invokevirtual 61, 3) := by decide +kernel
theorem dX2_need_5 : decode cX2_need 5 = .ok (.ifCond .ne 7, 3) := by decide +kernel
theorem dX2_need_8 : decode cX2_need 8 = .ok (.aload_n 0, 1) := by decide +kernel
theorem dX2_need_9 : decode cX2_need 9 = .ok (.invokevirtual 105, 3) := by decide +kernel
theorem dX2_need_12 : decode cX2_need 12 = .ok (.return_, 1) := by decide +kernel
theorem dX2_needEnd_0 : decode cX2_needEnd 0 = .ok (.aload_n 0, 1) := by decide +kernel
theorem dX2_needEnd_1 : decode cX2_needEnd 1 = .ok (.getfield 29, 3) := by decide +kernel
theorem dX2_needEnd_4 : decode cX2_needEnd 4 = .ok (.aload_n 0, 1) := by decide +kernel
theorem dX2_needEnd_5 : decode cX2_needEnd 5 = .ok (.getfield 36, 3) := by decide +kernel
theorem dX2_needEnd_8 : decode cX2_needEnd 8 = .ok (.if_icmp .ge 7, 3) := by decide +kernel
theorem dX2_needEnd_11 : decode cX2_needEnd 11 = .ok (.aload_n 0, 1) := by decide +kernel
theorem dX2_needEnd_12 : decode cX2_needEnd 12 = .ok (.invokevirtual 105, 3) := by decide +kernel
theorem dX2_needEnd_15 : decode cX2_needEnd 15 = .ok (.return_, 1) := by decide +kernel
theorem dX2_lack_0 : decode cX2_lack 0 = .ok (.aload_n 0, 1) := by decide +kernel
theorem dX2_lack_1 : decode cX2_lack 1 = .ok (.getfield 39, 3) := by decide +kernel
theorem dX2_lack_4 : decode cX2_lack 4 = .ok (.ifCond .ne 23, 3) := by decide +kernel
theorem dX2_lack_7 : decode cX2_lack 7 = .ok (.aload_n 0, 1) := by decide +kernel
theorem dX2_lack_8 : decode cX2_lack 8 = .ok (.aload_n 0, 1) := by decide +kernel
theorem dX2_lack_9 : decode cX2_lack 9 = .ok (.getfield 29, 3) := by decide +kernel
theorem dX2_lack_12 : decode cX2_lack 12 = .ok (.aload_n 0, 1) := by decide +kernel
theorem dX2_lack_13 : decode cX2_lack 13 = .ok (.getfield 36, 3) := by decide +kernel
theorem dX2_lack_16 : decode cX2_lack 16 = .ok (.if_icmp .lt 7, 3) := by decide +kernel
theorem dX2_lack_19 : decode cX2_lack 19 = .ok (.iconst 1, 1) := by decide +kernel
theorem dX2_lack_20 : decode cX2_lack 20 = .ok (.goto 4, 3) := by decide +kernel
theorem dX2_lack_23 : decode cX2_lack 23 = .ok (.iconst 2, 1) := by decide +kernel
theorem dX2_lack_24 : decode cX2_lack 24 = .ok (.putfield 39, 3) := by decide +kernel
theorem dX2_lack_27 : decode cX2_lack 27 = .ok (.return_, 1) := by decide +kernel
theorem dX3_init_0 : decode cX3_init 0 = .ok (.aload_n 0, 1) := by decide +kernel
theorem dX3_init_1 : decode cX3_init 1 = .ok (.invokespecial 3, 3) := by decide +kernel
theorem dX3_init_4 : decode cX3_init 4 = .ok (.aload_n 0, 1) := by decide +kernel
theorem dX3_init_5 : decode cX3_init 5 = .ok (.new 9, 3) := by decide +kernel
theorem dX3_init_8 : decode cX3_init 8 = .ok (.dup, 1) := by decide +kernel
theorem dX3_init_9 : decode cX3_init 9 = .ok (.bipush 60, 2) := by decide +kernel
theorem dX3_init_11 : decode cX3_init 11 = .ok (.invokespecial 11, 3) := by decide +kernel
theorem dX3_init_14 : decode cX3_init 14 = .ok (.putfield 14, 3) := by decide +kernel
theorem dX3_init_17 : decode cX3_init 17 = .ok (.aload_n 0, 1) := by decide +kernel
theorem dX3_init_18 : decode cX3_init 18 = .ok (.new 9, 3) := by decide +kernel
theorem dX3_init_21 : decode cX3_init 21 = .ok (.dup, 1) := by decide +kernel
theorem dX3_init_22 : decode cX3_init 22 = .ok (.bipush 100, 2) := by decide +kernel
theorem dX3_init_24 : decode cX3_init 24 = .ok (.invokespecial 11, 3) := by decide +kernel
theorem dX3_init_27 : decode cX3_init 27 = .ok (.putfield 20, 3) := by decide +kernel
theorem dX3_init_30 : decode cX3_init 30 = .ok (.aload_n 0, 1) := by decide +kernel
theorem dX3_init_31 : decode cX3_init 31 = .ok (.bipush 6, 2) := by decide +kernel
theorem dX3_init_33 : decode cX3_init 33 = .ok (.anewarray 23, 3) := by decide +kernel
theorem dX3_init_36 : decode cX3_init 36 = .ok (.putfield 25, 3) := by decide +kernel
theorem dX3_init_39 : decode cX3_init 39 = .ok (.aload_n 0, 1) := by decide +kernel
theorem dX3_init_40 : decode cX3_init 40 = .ok (.sipush 1800, 3) := by decide +kernel
theorem dX3_init_43 : decode cX3_init 43 = .ok (.newarray .int, 2) := by decide +kernel
theorem dX3_init_45 : decode cX3_init 45 = .ok (.putfield 29, 3) := by decide +kernel
theorem dX3_init_48 : decode cX3_init 48 = .ok (.aload_n 0, 1) := by decide +kernel
theorem dX3_init_49 : decode cX3_init 49 = .ok (.bipush 30, 2) := by decide +kernel
theorem dX3_init_51 : decode cX3_init 51 = .ok (.newarray .int, 2) := by decide +kernel
theorem dX3_init_53 : decode cX3_init 53 = .ok (.putfield 33, 3) := by decide +kernel
theorem dX3_init_56 : decode cX3_init 56 = .ok (.aload_n 0, 1) := by decide +kernel
theorem dX3_init_57 : decode cX3_init 57 = .ok (.iconst 3, 1) := by decide +kernel
theorem dX3_init_58 : decode cX3_init 58 = .ok (.newarray .long, 2) := by decide +kernel
theorem dX3_init_60 : decode cX3_init 60 = .ok (.putfield 36, 3) := by decide +kernel
theorem dX3_init_63 : decode cX3_init 63 = .ok (.aload_n 0, 1) := by decide +kernel
theorem dX3_init_64 : decode cX3_init 64 = .ok (.iconst 3, 1) := by decide +kernel
theorem dX3_init_65 : decode cX3_init 65 = .ok (.newarray .long, 2) := by decide +kernel
theorem dX3_init_67 : decode cX3_init 67 = .ok (.putfield 40, 3) := by decide +kernel
theorem dX3_init_70 : decode cX3_init 70 = .ok (.iconst 0, 1) := by decide +kernel
theorem dX3_init_71 : decode cX3_init 71 = .ok (.istore_n 1, 1) := by decide +kernel
theorem dX3_init_72 : decode cX3_init 72 = .ok (.iload_n 1, 1) := by decide +kernel
theorem dX3_init_73 : decode cX3_init 73 = .ok (.iconst 3, 1) := by decide +kernel
theorem dX3_init_74 : decode cX3_init 74 = .ok (.if_icmp .ge 27, 3) := by decide +kernel
theorem dX3_init_77 : decode cX3_init 77 = .ok (.aload_n 0, 1) := by decide +kernel
theorem dX3_init_78 : decode cX3_init 78 = .ok (.getfield 36, 3) := by decide +kernel
theorem dX3_init_81 : decode cX3_init 81 = .ok (.iload_n 1, 1) := by decide +kernel
theorem dX3_init_82 : decode cX3_init 82 = .ok (.ldc2_w 43, 3) := by decide +kernel
theorem dX3_init_85 : decode cX3_init 85 = .ok (.lastore, 1) := by decide +kernel
theorem dX3_init_86 : decode cX3_init 86 = .ok (.aload_n 0, 1) := by decide +kernel
theorem dX3_init_87 : decode cX3_init 87 = .ok (.getfield 40, 3) := by decide +kernel
theorem dX3_init_90 : decode cX3_init 90 = .ok (.iload_n 1, 1) := by decide +kernel
theorem dX3_init_91 : decode cX3_init 91 = .ok (.ldc2_w 45, 3) := by decide +kernel
theorem dX3_init_94 : decode cX3_init 94 = .ok (.lastore, 1) := by decide +kernel
theorem dX3_init_95 : decode cX3_init 95 = .ok (.iinc 1 1, 3) := by decide +kernel
theorem dX3_init_98 : decode cX3_init 98 = .ok (.goto (-26), 3) := by decide +kernel
theorem dX3_init_101 : decode cX3_init 101 = .ok (.return_, 1) := by decide +kernel
theorem dX3_landAt_0 : decode cX3_landAt 0 = .ok (.iload_n 1, 1) := by decide +kernel
theorem dX3_landAt_1 : decode cX3_landAt 1 = .ok (.ifCond .lt 29, 3) := by decide +kernel
theorem dX3_landAt_4 : decode cX3_landAt 4 = .ok (.iload_n 1, 1) := by decide +kernel
theorem dX3_landAt_5 : decode cX3_landAt 5 = .ok (.aload_n 0, 1) := by decide +kernel
theorem dX3_landAt_6 : decode cX3_landAt 6 = .ok (.getfield 47, 3) := by decide +kernel
theorem dX3_landAt_9 : decode cX3_landAt 9 = .ok (.if_icmp .ge 21, 3) := by decide +kernel
theorem dX3_landAt_12 : decode cX3_landAt 12 = .ok (.iload_n 1, 1) := by decide +kernel
theorem dX3_landAt_13 : decode cX3_landAt 13 = .ok (.aload_n 0, 1) := by decide +kernel
theorem dX3_landAt_14 : decode cX3_landAt 14 = .ok (.getfield 25, 3) := by decide +kernel
theorem dX3_landAt_17 : decode cX3_landAt 17 = .ok (.arraylength, 1) := by decide +kernel
theorem dX3_landAt_18 : decode cX3_landAt 18 = .ok (.if_icmp .ge 12, 3) := by decide +kernel
theorem dX3_landAt_21 : decode cX3_landAt 21 = .ok (.aload_n 0, 1) := by decide +kernel
theorem dX3_landAt_22 : decode cX3_landAt 22 = .ok (.getfield 25, 3) := by decide +kernel
theorem dX3_landAt_25 : decode cX3_landAt 25 = .ok (.iload_n 1, 1) := by decide +kernel
theorem dX3_landAt_26 : decode cX3_landAt 26 = .ok (.aaload, 1) := by decide +kernel
theorem dX3_landAt_27 : decode cX3_landAt 27 = .ok (.goto 4, 3) := by decide +kernel
theorem dX3_landAt_30 : decode cX3_landAt 30 = .ok (.aconst_null, 1) := by decide +kernel
theorem dX3_landAt_31 : decode cX3_landAt 31 = .ok (.areturn, 1) := by decide +kernel
theorem dX3_addLand_0 : decode cX3_addLand 0 = .ok (.aload_n 0, 1) := by decide +kernel
theorem dX3_addLand_1 : decode cX3_addLand 1 = .ok (.getfield 47, 3) := by decide +kernel
theorem dX3_addLand_4 : decode cX3_addLand 4 = .ok (.aload_n 0, 1) := by decide +kernel
theorem dX3_addLand_5 : decode cX3_addLand 5 = .ok (.getfield 25, 3) := by decide +kernel
theorem dX3_addLand_8 : decode cX3_addLand 8 = .ok (.arraylength, 1) := by decide +kernel
theorem dX3_addLand_9 : decode cX3_addLand 9 = .ok (.if_icmp .lt 5, 3) := by decide +kernel
theorem dX3_addLand_12 : decode cX3_addLand 12 = .ok (.iconst (-1), 1) := by decide +kernel
theorem dX3_addLand_13 : decode cX3_addLand 13 = .ok (.ireturn, 1) := by decide +kernel
theorem dX3_addLand_14 : decode cX3_addLand 14 = .ok (.aload_n 0, 1) := by decide +kernel
theorem dX3_addLand_15 : decode cX3_addLand 15 = .ok (.getfield 25, 3) := by decide +kernel
theorem dX3_addLand_18 : decode cX3_addLand 18 = .ok (.aload_n 0, 1) := by decide +kernel
theorem dX3_addLand_19 : decode cX3_addLand 19 = .ok (.getfield 47, 3) := by decide +kernel
theorem dX3_addLand_22 : decode cX3_addLand 22 = .ok (.aload_n 1, 1) := by decide +kernel
theorem dX3_addLand_23 : decode cX3_addLand 23 = .ok (.aastore, 1) := by decide +kernel
theorem dX3_addLand_24 : decode cX3_addLand 24 = .ok (.aload_n 0, 1) := by decide +kernel
theorem dX3_addLand_25 : decode cX3_addLand 25 = .ok (.dup, 1) := by decide +kernel
theorem dX3_addLand_26 : decode cX3_addLand 26 = .ok (.getfield 47, 3) := by decide +kernel
theorem dX3_addLand_29 : decode cX3_addLand 29 = .ok (.iconst 1, 1) := by decide +kernel
theorem dX3_addLand_30 : decode cX3_addLand 30 = .ok (.iadd, 1) := by decide +kernel
theorem dX3_addLand_31 : decode cX3_addLand 31 = .ok (.putfield 47, 3) := by decide +kernel
theorem dX3_addLand_34 : decode cX3_addLand 34 = .ok (.aload_n 0, 1) := by decide +kernel
theorem dX3_addLand_35 : decode cX3_addLand 35 = .ok (.getfield 47, 3) := by decide +kernel
theorem dX3_addLand_38 : decode cX3_addLand 38 = .ok (.iconst 1, 1) := by decide +kernel
theorem dX3_addLand_39 : decode cX3_addLand 39 = .ok (.isub, 1) := by decide +kernel
theorem dX3_addLand_40 : decode cX3_addLand 40 = .ok (.ireturn, 1) := by decide +kernel
theorem dX3_setBounds_0 : decode cX3_setBounds 0 = .ok (.iload_n 1, 1) := by decide +kernel
theorem dX3_setBounds_1 : decode cX3_setBounds 1 = .ok (.invokestatic 51, 3) := by decide +kernel
theorem dX3_setBounds_4 : decode cX3_setBounds 4 = .ok (.ifCond .eq 18, 3) := by decide +kernel
theorem dX3_setBounds_7 : decode cX3_setBounds 7 = .ok (.aload_n 0, 1) := by decide +kernel
theorem dX3_setBounds_8 : decode cX3_setBounds 8 = .ok (.getfield 36, 3) := by decide +kernel
theorem dX3_setBounds_11 : decode cX3_setBounds 11 = .ok (.iload_n 1, 1) := by decide +kernel
theorem dX3_setBounds_12 : decode cX3_setBounds 12 = .ok (.lload_n 2, 1) := by decide +kernel
theorem dX3_setBounds_13 : decode cX3_setBounds 13 = .ok (.lastore, 1) := by decide +kernel
theorem dX3_setBounds_14 : decode cX3_setBounds 14 = .ok (.aload_n 0, 1) := by decide +kernel
theorem dX3_setBounds_15 : decode cX3_setBounds 15 = .ok (.getfield 40, 3) := by decide +kernel
theorem dX3_setBounds_18 : decode cX3_setBounds 18 = .ok (.iload_n 1, 1) := by decide +kernel
theorem dX3_setBounds_19 : decode cX3_setBounds 19 = .ok (.lload 4, 2) := by decide +kernel
theorem dX3_setBounds_21 : decode cX3_setBounds 21 = .ok (.lastore, 1) := by decide +kernel
theorem dX3_setBounds_22 : decode cX3_setBounds 22 = .ok (.return_, 1) := by decide +kernel
theorem dX3_isWithin_0 : decode cX3_isWithin 0 = .ok (.iload_n 1, 1) := by decide +kernel
theorem dX3_isWithin_1 : decode cX3_isWithin 1 = .ok (.invokestatic 51, 3) := by decide +kernel
theorem dX3_isWithin_4 : decode cX3_isWithin 4 = .ok (.ifCond .eq 29, 3) := by decide +kernel
theorem dX3_isWithin_7 : decode cX3_isWithin 7 = .ok (.lload_n 2, 1) := by decide +kernel
theorem dX3_isWithin_8 : decode cX3_isWithin 8 = .ok (.aload_n 0, 1) := by decide +kernel
theorem dX3_isWithin_9 : decode cX3_isWithin 9 = .ok (.getfield 36, 3) := by decide +kernel
theorem dX3_isWithin_12 : decode cX3_isWithin 12 = .ok (.iload_n 1, 1) := by decide +kernel
theorem dX3_isWithin_13 : decode cX3_isWithin 13 = .ok (.laload, 1) := by decide +kernel
theorem dX3_isWithin_14 : decode cX3_isWithin 14 = .ok (.lcmp, 1) := by decide +kernel
theorem dX3_isWithin_15 : decode cX3_isWithin 15 = .ok (.ifCond .lt 18, 3) := by decide +kernel
theorem dX3_isWithin_18 : decode cX3_isWithin 18 = .ok (.lload_n 2, 1) := by decide +kernel
theorem dX3_isWithin_19 : decode cX3_isWithin 19 = .ok (.aload_n 0, 1) := by decide +kernel
theorem dX3_isWithin_20 : decode cX3_isWithin 20 = .ok (.getfield 40, 3) := by decide +kernel
theorem dX3_isWithin_23 : decode cX3_isWithin 23 = .ok (.iload_n 1, 1) := by decide +kernel
theorem dX3_isWithin_24 : decode cX3_isWithin 24 = .ok (.laload, 1) := by decide +kernel
theorem dX3_isWithin_25 : decode cX3_isWithin 25 = .ok (.lcmp, 1) := by decide +kernel
theorem dX3_isWithin_26 : decode cX3_isWithin 26 = .ok (.ifCond .gt 7, 3) := by decide +kernel
theorem dX3_isWithin_29 : decode cX3_isWithin 29 = .ok (.iconst 1, 1) := by decide +kernel
theorem dX3_isWithin_30 : decode cX3_isWithin 30 = .ok (.goto 4, 3) := by decide +kernel
theorem dX3_isWithin_33 : decode cX3_isWithin 33 = .ok (.iconst 0, 1) := by decide +kernel
theorem dX3_isWithin_34 : decode cX3_isWithin 34 = .ok (.ireturn, 1) := by decide +kernel
theorem dX3_moveLineToRows_0 : decode cX3_moveLineToRows 0 = .ok (.aload_n 0, 1) := by decide +kernel
theorem dX3_moveLineToRows_1 : decode cX3_moveLineToRows 1 = .ok (.getfield 55, 3) := by decide +kernel
theorem dX3_moveLineToRows_4 : decode cX3_moveLineToRows 4 = .ok (.bipush 30, 2) := by decide +kernel
theorem dX3_moveLineToRows_6 : decode cX3_moveLineToRows 6 = .ok (.if_icmp .lt 5, 3) := by decide +kernel
theorem dX3_moveLineToRows_9 : decode cX3_moveLineToRows 9 = .ok (.iconst (-1), 1) := by decide +kernel
theorem dX3_moveLineToRows_10 : decode cX3_moveLineToRows 10 = .ok (.ireturn, 1) := by decide +kernel
theorem dX3_moveLineToRows_11 : decode cX3_moveLineToRows 11 = .ok (.aload_n 0, 1) := by decide +kernel
theorem dX3_moveLineToRows_12 : decode cX3_moveLineToRows 12 = .ok (.getfield 33, 3) := by decide +kernel
theorem dX3_moveLineToRows_15 : decode cX3_moveLineToRows 15 = .ok (.aload_n 0, 1) := by decide +kernel
theorem dX3_moveLineToRows_16 : decode cX3_moveLineToRows 16 = .ok (.getfield 55, 3) := by decide +kernel
theorem dX3_moveLineToRows_19 : decode cX3_moveLineToRows 19 = .ok (.aload_n 0, 1) := by decide +kernel
theorem dX3_moveLineToRows_20 : decode cX3_moveLineToRows 20 = .ok (.getfield 14, 3) := by decide +kernel
theorem dX3_moveLineToRows_23 : decode cX3_moveLineToRows 23 = .ok (.invokevirtual 58, 3) := by decide +kernel
theorem dX3_moveLineToRows_26 : decode cX3_moveLineToRows 26 = .ok (.iastore, 1) := by decide +kernel
theorem dX3_moveLineToRows_27 : decode cX3_moveLineToRows 27 = .ok (.aload_n 0, 1) := by decide +kernel
theorem dX3_moveLineToRows_28 : decode cX3_moveLineToRows 28 = .ok (.getfield 14, 3) := by decide +kernel
theorem dX3_moveLineToRows_31 : decode cX3_moveLineToRows 31 = .ok (.getfield 62, 3) := by decide +kernel
theorem dX3_moveLineToRows_34 : decode cX3_moveLineToRows 34 = .ok (.iconst 0, 1) := by decide +kernel
theorem dX3_moveLineToRows_35 : decode cX3_moveLineToRows 35 = .ok (.aload_n 0, 1) := by decide +kernel
theorem dX3_moveLineToRows_36 : decode cX3_moveLineToRows 36 = .ok (.getfield 29, 3) := by decide +kernel
theorem dX3_moveLineToRows_39 : decode cX3_moveLineToRows 39 = .ok (.aload_n 0, 1) := by decide +kernel
theorem dX3_moveLineToRows_40 : decode cX3_moveLineToRows 40 = .ok (.aload_n 0, 1) := by decide +kernel
theorem dX3_moveLineToRows_41 : decode cX3_moveLineToRows 41 = .ok (.getfield 55, 3) := by decide +kernel
theorem dX3_moveLineToRows_44 : decode cX3_moveLineToRows 44 = .ok (.invokevirtual 65, 3) := by decide +kernel
theorem dX3_moveLineToRows_47 : decode cX3_moveLineToRows 47 = .ok (.aload_n 0, 1) := by decide +kernel
theorem dX3_moveLineToRows_48 : decode cX3_moveLineToRows 48 = .ok (.getfield 14, 3) := by decide +kernel
theorem dX3_moveLineToRows_51 : decode cX3_moveLineToRows 51 = .ok (.invokevirtual 58, 3) := by decide +kernel
theorem dX3_moveLineToRows_54 : decode cX3_moveLineToRows 54 = .ok (.invokestatic 69, 3) := by decide +kernel
theorem dX3_moveLineToRows_57 : decode cX3_moveLineToRows 57 = .ok (.aload_n 0, 1) := by decide +kernel
theorem dX3_moveLineToRows_58 : decode cX3_moveLineToRows 58 = .ok (.getfield 14, 3) := by decide +kernel
theorem dX3_moveLineToRows_61 : decode cX3_moveLineToRows 61 = .ok (.invokevirtual 75, 3) := by decide +kernel
theorem dX3_moveLineToRows_64 : decode cX3_moveLineToRows 64 = .ok (.aload_n 0, 1) := by decide +kernel
theorem dX3_moveLineToRows_65 : decode cX3_moveLineToRows 65 = .ok (.dup, 1) := by decide +kernel
theorem dX3_moveLineToRows_66 : decode cX3_moveLineToRows 66 = .ok (.getfield 55, 3) := by decide +kernel
theorem dX3_moveLineToRows_69 : decode cX3_moveLineToRows 69 = .ok (.iconst 1, 1) := by decide +kernel
theorem dX3_moveLineToRows_70 : decode cX3_moveLineToRows 70 = .ok (.iadd, 1) := by decide +kernel
theorem dX3_moveLineToRows_71 : decode cX3_moveLineToRows 71 = .ok (.putfield 55, 3) := by decide +kernel
theorem dX3_moveLineToRows_74 : decode cX3_moveLineToRows 74 = .ok (.aload_n 0, 1) := by decide +kernel
theorem dX3_moveLineToRows_75 : decode cX3_moveLineToRows 75 = .ok (.getfield 55, 3) := by decide +kernel
theorem dX3_moveLineToRows_78 : decode cX3_moveLineToRows 78 = .ok (.iconst 1, 1) := by decide +kernel
theorem dX3_moveLineToRows_79 : decode cX3_moveLineToRows 79 = .ok (.isub, 1) := by decide +kernel
theorem dX3_moveLineToRows_80 : decode cX3_moveLineToRows 80 = .ok (.ireturn, 1) := by decide +kernel
theorem dX3_rowStart_0 : decode cX3_rowStart 0 = .ok (.iload_n 1, 1) := by decide +kernel
theorem dX3_rowStart_1 : decode cX3_rowStart 1 = .ok (.bipush 60, 2) := by decide +kernel
theorem dX3_rowStart_3 : decode cX3_rowStart 3 = .ok (.imul, 1) := by decide +kernel
theorem dX3_rowStart_4 : decode cX3_rowStart 4 = .ok (.ireturn, 1) := by decide +kernel
theorem dX3_rowLength_0 : decode cX3_rowLength 0 = .ok (.iload_n 1, 1) := by decide +kernel
theorem dX3_rowLength_1 : decode cX3_rowLength 1 = .ok (.ifCond .lt 29, 3) := by decide +kernel
theorem dX3_rowLength_4 : decode cX3_rowLength 4 = .ok (.iload_n 1, 1) := by decide +kernel
theorem dX3_rowLength_5 : decode cX3_rowLength 5 = .ok (.aload_n 0, 1) := by decide +kernel
theorem dX3_rowLength_6 : decode cX3_rowLength 6 = .ok (.getfield 55, 3) := by decide +kernel
theorem dX3_rowLength_9 : decode cX3_rowLength 9 = .ok (.if_icmp .ge 21, 3) := by decide +kernel
theorem dX3_rowLength_12 : decode cX3_rowLength 12 = .ok (.iload_n 1, 1) := by decide +kernel
theorem dX3_rowLength_13 : decode cX3_rowLength 13 = .ok (.aload_n 0, 1) := by decide +kernel
theorem dX3_rowLength_14 : decode cX3_rowLength 14 = .ok (.getfield 33, 3) := by decide +kernel
theorem dX3_rowLength_17 : decode cX3_rowLength 17 = .ok (.arraylength, 1) := by decide +kernel
theorem dX3_rowLength_18 : decode cX3_rowLength 18 = .ok (.if_icmp .ge 12, 3) := by decide +kernel
theorem dX3_rowLength_21 : decode cX3_rowLength 21 = .ok (.aload_n 0, 1) := by decide +kernel
theorem dX3_rowLength_22 : decode cX3_rowLength 22 = .ok (.getfield 33, 3) := by decide +kernel
theorem dX3_rowLength_25 : decode cX3_rowLength 25 = .ok (.iload_n 1, 1) := by decide +kernel
theorem dX3_rowLength_26 : decode cX3_rowLength 26 = .ok (.iaload, 1) := by decide +kernel
theorem dX3_rowLength_27 : decode cX3_rowLength 27 = .ok (.goto 4, 3) := by decide +kernel
theorem dX3_rowLength_30 : decode cX3_rowLength 30 = .ok (.iconst 0, 1) := by decide +kernel
theorem dX3_rowLength_31 : decode cX3_rowLength 31 = .ok (.ireturn, 1) := by decide +kernel
theorem dX3_copyFrom_0 : decode cX3_copyFrom 0 = .ok (.aload_n 0, 1) := by decide +kernel
theorem dX3_copyFrom_1 : decode cX3_copyFrom 1 = .ok (.getfield 14, 3) := by decide +kernel
theorem dX3_copyFrom_4 : decode cX3_copyFrom 4 = .ok (.aload_n 1, 1) := by decide +kernel
theorem dX3_copyFrom_5 : decode cX3_copyFrom 5 = .ok (.getfield 14, 3) := by decide +kernel
theorem dX3_copyFrom_8 : decode cX3_copyFrom 8 = .ok (.invokevirtual 78, 3) := by decide +kernel
theorem dX3_copyFrom_11 : decode cX3_copyFrom 11 = .ok (.aload_n 0, 1) := by decide +kernel
theorem dX3_copyFrom_12 : decode cX3_copyFrom 12 = .ok (.getfield 20, 3) := by decide +kernel
theorem dX3_copyFrom_15 : decode cX3_copyFrom 15 = .ok (.aload_n 1, 1) := by decide +kernel
theorem dX3_copyFrom_16 : decode cX3_copyFrom 16 = .ok (.getfield 20, 3) := by decide +kernel
theorem dX3_copyFrom_19 : decode cX3_copyFrom 19 = .ok (.invokevirtual 78, 3) := by decide +kernel
theorem dX3_copyFrom_22 : decode cX3_copyFrom 22 = .ok (.aload_n 0, 1) := by decide +kernel
theorem dX3_copyFrom_23 : decode cX3_copyFrom 23 = .ok (.aload_n 1, 1) := by decide +kernel
theorem dX3_copyFrom_24 : decode cX3_copyFrom 24 = .ok (.getfield 47, 3) := by decide +kernel
theorem dX3_copyFrom_27 : decode cX3_copyFrom 27 = .ok (.putfield 47, 3) := by decide +kernel
theorem dX3_copyFrom_30 : decode cX3_copyFrom 30 = .ok (.iconst 0, 1) := by decide +kernel
theorem dX3_copyFrom_31 : decode cX3_copyFrom 31 = .ok (.istore_n 2, 1) := by decide +kernel
theorem dX3_copyFrom_32 : decode cX3_copyFrom 32 = .ok (.iload_n 2, 1) := by decide +kernel
theorem dX3_copyFrom_33 : decode cX3_copyFrom 33 = .ok (.bipush 6, 2) := by decide +kernel
theorem dX3_copyFrom_35 : decode cX3_copyFrom 35 = .ok (.if_icmp .ge 21, 3) := by decide +kernel
theorem dX3_copyFrom_38 : decode cX3_copyFrom 38 = .ok (.aload_n 0, 1) := by decide +kernel
theorem dX3_copyFrom_39 : decode cX3_copyFrom 39 = .ok (.getfield 25, 3) := by decide +kernel
theorem dX3_copyFrom_42 : decode cX3_copyFrom 42 = .ok (.iload_n 2, 1) := by decide +kernel
theorem dX3_copyFrom_43 : decode cX3_copyFrom 43 = .ok (.aload_n 1, 1) := by decide +kernel
theorem dX3_copyFrom_44 : decode cX3_copyFrom 44 = .ok (.getfield 25, 3) := by decide +kernel
theorem dX3_copyFrom_47 : decode cX3_copyFrom 47 = .ok (.iload_n 2, 1) := by decide +kernel
theorem dX3_copyFrom_48 : decode cX3_copyFrom 48 = .ok (.aaload, 1) := by decide +kernel
theorem dX3_copyFrom_49 : decode cX3_copyFrom 49 = .ok (.aastore, 1) := by decide +kernel
theorem dX3_copyFrom_50 : decode cX3_copyFrom 50 = .ok (.iinc 2 1, 3) := by decide +kernel
theorem dX3_copyFrom_53 : decode cX3_copyFrom 53 = .ok (.goto (-21), 3) := by decide +kernel
theorem dX3_copyFrom_56 : decode cX3_copyFrom 56 = .ok (.aload_n 0, 1) := by decide +kernel
theorem dX3_copyFrom_57 : decode cX3_copyFrom 57 = .ok (.aload_n 1, 1) := by decide +kernel
theorem dX3_copyFrom_58 : decode cX3_copyFrom 58 = .ok (.getfield 55, 3) := by decide +kernel
theorem dX3_copyFrom_61 : decode cX3_copyFrom 61 = .ok (.putfield 55, 3) := by decide +kernel
theorem dX3_copyFrom_64 : decode cX3_copyFrom 64 = .ok (.aload_n 1, 1) := by decide +kernel
theorem dX3_copyFrom_65 : decode cX3_copyFrom 65 = .ok (.getfield 33, 3) := by decide +kernel
theorem dX3_copyFrom_68 : decode cX3_copyFrom 68 = .ok (.iconst 0, 1) := by decide +kernel
theorem dX3_copyFrom_69 : decode cX3_copyFrom 69 = .ok (.aload_n 0, 1) := by decide +kernel
theorem dX3_copyFrom_70 : decode cX3_copyFrom 70 = .ok (.getfield 33, 3) := by decide +kernel
theorem dX3_copyFrom_73 : decode cX3_copyFrom 73 = .ok (.iconst 0, 1) := by decide +kernel
theorem dX3_copyFrom_74 : decode cX3_copyFrom 74 = .ok (.bipush 30, 2) := by decide +kernel
theorem dX3_copyFrom_76 : decode cX3_copyFrom 76 = .ok (.invokestatic 69, 3) := by decide +kernel
theorem dX3_copyFrom_79 : decode cX3_copyFrom 79 = .ok (.aload_n 1, 1) := by decide +kernel
theorem dX3_copyFrom_80 : decode cX3_copyFrom 80 = .ok (.getfield 29, 3) := by decide +kernel
theorem dX3_copyFrom_83 : decode cX3_copyFrom 83 = .ok (.iconst 0, 1) := by decide +kernel
theorem dX3_copyFrom_84 : decode cX3_copyFrom 84 = .ok (.aload_n 0, 1) := by decide +kernel
theorem dX3_copyFrom_85 : decode cX3_copyFrom 85 = .ok (.getfield 29, 3) := by decide +kernel
theorem dX3_copyFrom_88 : decode cX3_copyFrom 88 = .ok (.iconst 0, 1) := by decide +kernel
theorem dX3_copyFrom_89 : decode cX3_copyFrom 89 = .ok (.aload_n 0, 1) := by decide +kernel
theorem dX3_copyFrom_90 : decode cX3_copyFrom 90 = .ok (.getfield 29, 3) := by decide +kernel
theorem dX3_copyFrom_93 : decode cX3_copyFrom 93 = .ok (.arraylength, 1) := by decide +kernel
theorem dX3_copyFrom_94 : decode cX3_copyFrom 94 = .ok (.invokestatic 69, 3) := by decide +kernel
theorem dX3_copyFrom_97 : decode cX3_copyFrom 97 = .ok (.aload_n 1, 1) := by decide +kernel
theorem dX3_copyFrom_98 : decode cX3_copyFrom 98 = .ok (.getfield 36, 3) := by decide +kernel
theorem dX3_copyFrom_101 : decode cX3_copyFrom 101 = .ok (.iconst 0, 1) := by decide +kernel
theorem dX3_copyFrom_102 : decode cX3_copyFrom 102 = .ok (.aload_n 0, 1) := by decide +kernel
theorem dX3_copyFrom_103 : decode cX3_copyFrom 103 = .ok (.getfield 36, 3) := by decide +kernel
theorem dX3_copyFrom_106 : decode cX3_copyFrom 106 = .ok (.iconst 0, 1) := by decide +kernel
theorem dX3_copyFrom_107 : decode cX3_copyFrom 107 = .ok (.iconst 3, 1) := by decide +kernel
theorem dX3_copyFrom_108 : decode cX3_copyFrom 108 = .ok (.invokestatic 69, 3) := by decide +kernel
theorem dX3_copyFrom_111 : decode cX3_copyFrom 111 = .ok (.aload_n 1, 1) := by decide +kernel
theorem dX3_copyFrom_112 : decode cX3_copyFrom 112 = .ok (.getfield 40, 3) := by decide +kernel
theorem dX3_copyFrom_115 : decode cX3_copyFrom 115 = .ok (.iconst 0, 1) := by decide +kernel
theorem dX3_copyFrom_116 : decode cX3_copyFrom 116 = .ok (.aload_n 0, 1) := by decide +kernel
theorem dX3_copyFrom_117 : decode cX3_copyFrom 117 = .ok (.getfield 40, 3) := by decide +kernel
theorem dX3_copyFrom_120 : decode cX3_copyFrom 120 = .ok (.iconst 0, 1) := by decide +kernel
theorem dX3_copyFrom_121 : decode cX3_copyFrom 121 = .ok (.iconst 3, 1) := by decide +kernel
theorem dX3_copyFrom_122 : decode cX3_copyFrom 122 = .ok (.invokestatic 69, 3) := by decide +kernel
theorem dX3_copyFrom_125 : decode cX3_copyFrom 125 = .ok (.return_, 1) := by decide +kernel
theorem dX4_init_0 : decode cX4_init 0 = .ok (.aload_n 0, 1) := by decide +kernel
theorem dX4_init_1 : decode cX4_init 1 = .ok (.invokespecial 3, 3) := by decide +kernel
theorem dX4_init_4 : decode cX4_init 4 = .ok (.aload_n 0, 1) := by decide +kernel
theorem dX4_init_5 : decode cX4_init 5 = .ok (.iload_n 1, 1) := by decide +kernel
theorem dX4_init_6 : decode cX4_init 6 = .ok (.iconst 0, 1) := by decide +kernel
theorem dX4_init_7 : decode cX4_init 7 = .ok (.invokestatic 9, 3) := by decide +kernel
theorem dX4_init_10 : decode cX4_init 10 = .ok (.newarray .int, 2) := by decide +kernel
theorem dX4_init_12 : decode cX4_init 12 = .ok (.putfield 15, 3) := by decide +kernel
theorem dX4_init_15 : decode cX4_init 15 = .ok (.return_, 1) := by decide +kernel
theorem dX4_length_0 : decode cX4_length 0 = .ok (.aload_n 0, 1) := by decide +kernel
theorem dX4_length_1 : decode cX4_length 1 = .ok (.getfield 21, 3) := by decide +kernel
theorem dX4_length_4 : decode cX4_length 4 = .ok (.ireturn, 1) := by decide +kernel
theorem dX4_byteAt_0 : decode cX4_byteAt 0 = .ok (.iload_n 1, 1) := by decide +kernel
theorem dX4_byteAt_1 : decode cX4_byteAt 1 = .ok (.ifCond .lt 20, 3) := by decide +kernel
theorem dX4_byteAt_4 : decode cX4_byteAt 4 = .ok (.iload_n 1, 1) := by decide +kernel
theorem dX4_byteAt_5 : decode cX4_byteAt 5 = .ok (.aload_n 0, 1) := by decide +kernel
theorem dX4_byteAt_6 : decode cX4_byteAt 6 = .ok (.getfield 21, 3) := by decide +kernel
theorem dX4_byteAt_9 : decode cX4_byteAt 9 = .ok (.if_icmp .ge 12, 3) := by decide +kernel
theorem dX4_byteAt_12 : decode cX4_byteAt 12 = .ok (.aload_n 0, 1) := by decide +kernel
theorem dX4_byteAt_13 : decode cX4_byteAt 13 = .ok (.getfield 15, 3) := by decide +kernel
theorem dX4_byteAt_16 : decode cX4_byteAt 16 = .ok (.iload_n 1, 1) := by decide +kernel
theorem dX4_byteAt_17 : decode cX4_byteAt 17 = .ok (.iaload, 1) := by decide +kernel
theorem dX4_byteAt_18 : decode cX4_byteAt 18 = .ok (.goto 4, 3) := by decide +kernel
theorem dX4_byteAt_21 : decode cX4_byteAt 21 = .ok (.iconst (-1), 1) := by decide +kernel
theorem dX4_byteAt_22 : decode cX4_byteAt 22 = .ok (.ireturn, 1) := by decide +kernel
theorem dX4_add_0 : decode cX4_add 0 = .ok (.aload_n 0, 1) := by decide +kernel
theorem dX4_add_1 : decode cX4_add 1 = .ok (.getfield 21, 3) := by decide +kernel
theorem dX4_add_4 : decode cX4_add 4 = .ok (.aload_n 0, 1) := by decide +kernel
theorem dX4_add_5 : decode cX4_add 5 = .ok (.getfield 15, 3) := by decide +kernel
theorem dX4_add_8 : decode cX4_add 8 = .ok (.arraylength, 1) := by decide +kernel
theorem dX4_add_9 : decode cX4_add 9 = .ok (.if_icmp .ge 23, 3) := by decide +kernel
theorem dX4_add_12 : decode cX4_add 12 = .ok (.aload_n 0, 1) := by decide +kernel
theorem dX4_add_13 : decode cX4_add 13 = .ok (.getfield 15, 3) := by decide +kernel
theorem dX4_add_16 : decode cX4_add 16 = .ok (.aload_n 0, 1) := by decide +kernel
theorem dX4_add_17 : decode cX4_add 17 = .ok (.getfield 21, 3) := by decide +kernel
theorem dX4_add_20 : decode cX4_add 20 = .ok (.iload_n 1, 1) := by decide +kernel
theorem dX4_add_21 : decode cX4_add 21 = .ok (.iastore, 1) := by decide +kernel
theorem dX4_add_22 : decode cX4_add 22 = .ok (.aload_n 0, 1) := by decide +kernel
theorem dX4_add_23 : decode cX4_add 23 = .ok (.dup, 1) := by decide +kernel
theorem dX4_add_24 : decode cX4_add 24 = .ok (.getfield 21, 3) := by decide +kernel
theorem dX4_add_27 : decode cX4_add 27 = .ok (.iconst 1, 1) := by decide +kernel
theorem dX4_add_28 : decode cX4_add 28 = .ok (.iadd, 1) := by decide +kernel
theorem dX4_add_29 : decode cX4_add 29 = .ok (.putfield 21, 3) := by decide +kernel
theorem dX4_add_32 : decode cX4_add 32 = .ok (.return_, 1) := by decide +kernel
theorem dX4_addDigits_0 : decode cX4_addDigits 0 = .ok (.iload_n 2, 1) := by decide +kernel
theorem dX4_addDigits_1 : decode cX4_addDigits 1 = .ok (.iconst 1, 1) := by decide +kernel
theorem dX4_addDigits_2 : decode cX4_addDigits 2 = .ok (.isub, 1) := by decide +kernel
theorem dX4_addDigits_3 : decode cX4_addDigits 3 = .ok (.istore_n 3, 1) := by decide +kernel
theorem dX4_addDigits_4 : decode cX4_addDigits 4 = .ok (.iload_n 3, 1) := by decide +kernel
theorem dX4_addDigits_5 : decode cX4_addDigits 5 = .ok (.ifCond .lt 22, 3) := by decide +kernel
theorem dX4_addDigits_8 : decode cX4_addDigits 8 = .ok (.aload_n 0, 1) := by decide +kernel
theorem dX4_addDigits_9 : decode cX4_addDigits 9 = .ok (.bipush 48, 2) := by decide +kernel
theorem dX4_addDigits_11 : decode cX4_addDigits 11 = .ok (.iload_n 1, 1) := by decide +kernel
theorem dX4_addDigits_12 : decode cX4_addDigits 12 = .ok (.i2l, 1) := by decide +kernel
theorem dX4_addDigits_13 : decode cX4_addDigits 13 = .ok (.iload_n 3, 1) := by decide +kernel
theorem dX4_addDigits_14 : decode cX4_addDigits 14 = .ok (.invokestatic 25, 3) := by decide +kernel
theorem dX4_addDigits_17 : decode cX4_addDigits 17 = .ok (.iadd, 1) := by decide +kernel
theorem dX4_addDigits_18 : decode cX4_addDigits 18 = .ok (.invokevirtual 31, 3) := by decide +kernel
theorem dX4_addDigits_21 : decode cX4_addDigits 21 = .ok (.iinc 3 (-1), 3) := by decide +kernel
theorem dX4_addDigits_24 : decode cX4_addDigits 24 = .ok (.goto (-20), 3) := by decide +kernel
theorem dX4_addDigits_27 : decode cX4_addDigits 27 = .ok (.return_, 1) := by decide +kernel
theorem dX4_shorten_0 : decode cX4_shorten 0 = .ok (.aload_n 0, 1) := by decide +kernel
theorem dX4_shorten_1 : decode cX4_shorten 1 = .ok (.aload_n 0, 1) := by decide +kernel
theorem dX4_shorten_2 : decode cX4_shorten 2 = .ok (.getfield 21, 3) := by decide +kernel
theorem dX4_shorten_5 : decode cX4_shorten 5 = .ok (.iload_n 1, 1) := by decide +kernel
theorem dX4_shorten_6 : decode cX4_shorten 6 = .ok (.iconst 0, 1) := by decide +kernel
theorem dX4_shorten_7 : decode cX4_shorten 7 = .ok (.invokestatic 9, 3) := by decide +kernel
theorem dX4_shorten_10 : decode cX4_shorten 10 = .ok (.isub, 1) := by decide +kernel
theorem dX4_shorten_11 : decode cX4_shorten 11 = .ok (.iconst 0, 1) := by decide +kernel
theorem dX4_shorten_12 : decode cX4_shorten 12 = .ok (.invokestatic 9, 3) := by decide +kernel
theorem dX4_shorten_15 : decode cX4_shorten 15 = .ok (.putfield 21, 3) := by decide +kernel
theorem dX4_shorten_18 : decode cX4_shorten 18 = .ok (.return_, 1) := by decide +kernel
theorem dX4_empty_0 : decode cX4_empty 0 = .ok (.aload_n 0, 1) := by decide +kernel
theorem dX4_empty_1 : decode cX4_empty 1 = .ok (.iconst 0, 1) := by decide +kernel
theorem dX4_empty_2 : decode cX4_empty 2 = .ok (.putfield 21, 3) := by decide +kernel
theorem dX4_empty_5 : decode cX4_empty 5 = .ok (.return_, 1) := by decide +kernel
theorem dX4_copyFrom_0 : decode cX4_copyFrom 0 = .ok (.aload_n 0, 1) := by decide +kernel
theorem dX4_copyFrom_1 : decode cX4_copyFrom 1 = .ok (.aload_n 1, 1) := by decide +kernel
theorem dX4_copyFrom_2 : decode cX4_copyFrom 2 = .ok (.getfield 21, 3) := by decide +kernel
theorem dX4_copyFrom_5 : decode cX4_copyFrom 5 = .ok (.aload_n 0, 1) := by decide +kernel
theorem dX4_copyFrom_6 : decode cX4_copyFrom 6 = .ok (.getfield 15, 3) := by decide +kernel
theorem dX4_copyFrom_9 : decode cX4_copyFrom 9 = .ok (.arraylength, 1) := by decide +kernel
theorem dX4_copyFrom_10 : decode cX4_copyFrom 10 = .ok (.invokestatic 35, 3) := by decide +kernel
theorem dX4_copyFrom_13 : decode cX4_copyFrom 13 = .ok (.putfield 21, 3) := by decide +kernel
theorem dX4_copyFrom_16 : decode cX4_copyFrom 16 = .ok (.aload_n 1, 1) := by decide +kernel
theorem dX4_copyFrom_17 : decode cX4_copyFrom 17 = .ok (.getfield 15, 3) := by decide +kernel
theorem dX4_copyFrom_20 : decode cX4_copyFrom 20 = .ok (.iconst 0, 1) := by decide +kernel
theorem dX4_copyFrom_21 : decode cX4_copyFrom 21 = .ok (.aload_n 0, 1) := by decide +kernel
theorem dX4_copyFrom_22 : decode cX4_copyFrom 22 = .ok (.getfield 15, 3) := by decide +kernel
theorem dX4_copyFrom_25 : decode cX4_copyFrom 25 = .ok (.iconst 0, 1) := by decide +kernel
theorem dX4_copyFrom_26 : decode cX4_copyFrom 26 = .ok (.aload_n 0, 1) := by decide +kernel
theorem dX4_copyFrom_27 : decode cX4_copyFrom 27 = .ok (.getfield 21, 3) := by decide +kernel
theorem dX4_copyFrom_30 : decode cX4_copyFrom 30 = .ok (.invokestatic 38, 3) := by decide +kernel
theorem dX4_copyFrom_33 : decode cX4_copyFrom 33 = .ok (.return_, 1) := by decide +kernel
theorem dX4_sameAs_0 : decode cX4_sameAs 0 = .ok (.aload_n 0, 1) := by decide +kernel
theorem dX4_sameAs_1 : decode cX4_sameAs 1 = .ok (.getfield 21, 3) := by decide +kernel
theorem dX4_sameAs_4 : decode cX4_sameAs 4 = .ok (.aload_n 1, 1) := by decide +kernel
theorem dX4_sameAs_5 : decode cX4_sameAs 5 = .ok (.getfield 21, 3) := by decide +kernel
theorem dX4_sameAs_8 : decode cX4_sameAs 8 = .ok (.if_icmp .eq 5, 3) := by decide +kernel
theorem dX4_sameAs_11 : decode cX4_sameAs 11 = .ok (.iconst 0, 1) := by decide +kernel
theorem dX4_sameAs_12 : decode cX4_sameAs 12 = .ok (.ireturn, 1) := by decide +kernel
theorem dX4_sameAs_13 : decode cX4_sameAs 13 = .ok (.iconst 0, 1) := by decide +kernel
theorem dX4_sameAs_14 : decode cX4_sameAs 14 = .ok (.istore_n 2, 1) := by decide +kernel
theorem dX4_sameAs_15 : decode cX4_sameAs 15 = .ok (.iload_n 2, 1) := by decide +kernel
theorem dX4_sameAs_16 : decode cX4_sameAs 16 = .ok (.aload_n 0, 1) := by decide +kernel
theorem dX4_sameAs_17 : decode cX4_sameAs 17 = .ok (.getfield 21, 3) := by decide +kernel
theorem dX4_sameAs_20 : decode cX4_sameAs 20 = .ok (.if_icmp .ge 25, 3) := by decide +kernel
theorem dX4_sameAs_23 : decode cX4_sameAs 23 = .ok (.aload_n 0, 1) := by decide +kernel
theorem dX4_sameAs_24 : decode cX4_sameAs 24 = .ok (.getfield 15, 3) := by decide +kernel
theorem dX4_sameAs_27 : decode cX4_sameAs 27 = .ok (.iload_n 2, 1) := by decide +kernel
theorem dX4_sameAs_28 : decode cX4_sameAs 28 = .ok (.iaload, 1) := by decide +kernel
theorem dX4_sameAs_29 : decode cX4_sameAs 29 = .ok (.aload_n 1, 1) := by decide +kernel
theorem dX4_sameAs_30 : decode cX4_sameAs 30 = .ok (.iload_n 2, 1) := by decide +kernel
theorem dX4_sameAs_31 : decode cX4_sameAs 31 = .ok (.invokevirtual 44, 3) := by decide +kernel
theorem dX4_sameAs_34 : decode cX4_sameAs 34 = .ok (.if_icmp .eq 5, 3) := by decide +kernel
theorem dX4_sameAs_37 : decode cX4_sameAs 37 = .ok (.iconst 0, 1) := by decide +kernel
theorem dX4_sameAs_38 : decode cX4_sameAs 38 = .ok (.ireturn, 1) := by decide +kernel
theorem dX4_sameAs_39 : decode cX4_sameAs 39 = .ok (.iinc 2 1, 3) := by decide +kernel
theorem dX4_sameAs_42 : decode cX4_sameAs 42 = .ok (.goto (-27), 3) := by decide +kernel
theorem dX4_sameAs_45 : decode cX4_sameAs 45 = .ok (.iconst 1, 1) := by decide +kernel
theorem dX4_sameAs_46 : decode cX4_sameAs 46 = .ok (.ireturn, 1) := by decide +kernel
theorem dX5_write_0 : decode cX5_write 0 = .ok (.aload_n 0, 1) := by decide +kernel
theorem dX5_write_1 : decode cX5_write 1 = .ok (.invokevirtual 9, 3) := by decide +kernel
theorem dX5_write_4 : decode cX5_write 4 = .ok (.iload_n 1, 1) := by decide +kernel
theorem dX5_write_5 : decode cX5_write 5 = .ok (.ifCond .ne 9, 3) := by decide +kernel
theorem dX5_write_8 : decode cX5_write 8 = .ok (.aload_n 0, 1) := by decide +kernel
theorem dX5_write_9 : decode cX5_write 9 = .ok (.iconst 0, 1) := by decide +kernel
theorem dX5_write_10 : decode cX5_write 10 = .ok (.invokestatic 14, 3) := by decide +kernel
theorem dX5_write_13 : decode cX5_write 13 = .ok (.return_, 1) := by decide +kernel
theorem dX5_write_14 : decode cX5_write 14 = .ok (.aload_n 0, 1) := by decide +kernel
theorem dX5_write_15 : decode cX5_write 15 = .ok (.iload_n 1, 1) := by decide +kernel
theorem dX5_write_16 : decode cX5_write 16 = .ok (.ldc 20, 2) := by decide +kernel
theorem dX5_write_18 : decode cX5_write 18 = .ok (.idiv, 1) := by decide +kernel
theorem dX5_write_19 : decode cX5_write 19 = .ok (.bipush 30, 2) := by decide +kernel
theorem dX5_write_21 : decode cX5_write 21 = .ok (.invokestatic 21, 3) := by decide +kernel
theorem dX5_write_24 : decode cX5_write 24 = .ok (.aload_n 0, 1) := by decide +kernel
theorem dX5_write_25 : decode cX5_write 25 = .ok (.iload_n 1, 1) := by decide +kernel
theorem dX5_write_26 : decode cX5_write 26 = .ok (.sipush 1000, 3) := by decide +kernel
theorem dX5_write_29 : decode cX5_write 29 = .ok (.idiv, 1) := by decide +kernel
theorem dX5_write_30 : decode cX5_write 30 = .ok (.sipush 1000, 3) := by decide +kernel
theorem dX5_write_33 : decode cX5_write 33 = .ok (.irem, 1) := by decide +kernel
theorem dX5_write_34 : decode cX5_write 34 = .ok (.bipush 29, 2) := by decide +kernel
theorem dX5_write_36 : decode cX5_write 36 = .ok (.invokestatic 21, 3) := by decide +kernel
theorem dX5_write_39 : decode cX5_write 39 = .ok (.aload_n 0, 1) := by decide +kernel
theorem dX5_write_40 : decode cX5_write 40 = .ok (.iload_n 1, 1) := by decide +kernel
theorem dX5_write_41 : decode cX5_write 41 = .ok (.sipush 1000, 3) := by decide +kernel
theorem dX5_write_44 : decode cX5_write 44 = .ok (.irem, 1) := by decide +kernel
theorem dX5_write_45 : decode cX5_write 45 = .ok (.iconst (-1), 1) := by decide +kernel
theorem dX5_write_46 : decode cX5_write 46 = .ok (.invokestatic 21, 3) := by decide +kernel
theorem dX5_write_49 : decode cX5_write 49 = .ok (.return_, 1) := by decide +kernel
theorem dX5_addPart_0 : decode cX5_addPart 0 = .ok (.iload_n 1, 1) := by decide +kernel
theorem dX5_addPart_1 : decode cX5_addPart 1 = .ok (.ifCond .ne 4, 3) := by decide +kernel
theorem dX5_addPart_4 : decode cX5_addPart 4 = .ok (.return_, 1) := by decide +kernel
theorem dX5_addPart_5 : decode cX5_addPart 5 = .ok (.iload_n 1, 1) := by decide +kernel
theorem dX5_addPart_6 : decode cX5_addPart 6 = .ok (.bipush 100, 2) := by decide +kernel
theorem dX5_addPart_8 : decode cX5_addPart 8 = .ok (.if_icmp .lt 17, 3) := by decide +kernel
theorem dX5_addPart_11 : decode cX5_addPart 11 = .ok (.aload_n 0, 1) := by decide +kernel
theorem dX5_addPart_12 : decode cX5_addPart 12 = .ok (.iload_n 1, 1) := by decide +kernel
theorem dX5_addPart_13 : decode cX5_addPart 13 = .ok (.bipush 100, 2) := by decide +kernel
theorem dX5_addPart_15 : decode cX5_addPart 15 = .ok (.idiv, 1) := by decide +kernel
theorem dX5_addPart_16 : decode cX5_addPart 16 = .ok (.invokestatic 14, 3) := by decide +kernel
theorem dX5_addPart_19 : decode cX5_addPart 19 = .ok (.aload_n 0, 1) := by decide +kernel
theorem dX5_addPart_20 : decode cX5_addPart 20 = .ok (.bipush 28, 2) := by decide +kernel
theorem dX5_addPart_22 : decode cX5_addPart 22 = .ok (.invokestatic 14, 3) := by decide +kernel
theorem dX5_addPart_25 : decode cX5_addPart 25 = .ok (.iload_n 1, 1) := by decide +kernel
theorem dX5_addPart_26 : decode cX5_addPart 26 = .ok (.bipush 100, 2) := by decide +kernel
theorem dX5_addPart_28 : decode cX5_addPart 28 = .ok (.irem, 1) := by decide +kernel
theorem dX5_addPart_29 : decode cX5_addPart 29 = .ok (.istore_n 3, 1) := by decide +kernel
theorem dX5_addPart_30 : decode cX5_addPart 30 = .ok (.iload_n 3, 1) := by decide +kernel
theorem dX5_addPart_31 : decode cX5_addPart 31 = .ok (.bipush 20, 2) := by decide +kernel
theorem dX5_addPart_33 : decode cX5_addPart 33 = .ok (.if_icmp .lt 21, 3) := by decide +kernel
theorem dX5_addPart_36 : decode cX5_addPart 36 = .ok (.aload_n 0, 1) := by decide +kernel
theorem dX5_addPart_37 : decode cX5_addPart 37 = .ok (.bipush 20, 2) := by decide +kernel
theorem dX5_addPart_39 : decode cX5_addPart 39 = .ok (.iload_n 3, 1) := by decide +kernel
theorem dX5_addPart_40 : decode cX5_addPart 40 = .ok (.bipush 10, 2) := by decide +kernel
theorem dX5_addPart_42 : decode cX5_addPart 42 = .ok (.idiv, 1) := by decide +kernel
theorem dX5_addPart_43 : decode cX5_addPart 43 = .ok (.iadd, 1) := by decide +kernel
theorem dX5_addPart_44 : decode cX5_addPart 44 = .ok (.iconst 2, 1) := by decide +kernel
theorem dX5_addPart_45 : decode cX5_addPart 45 = .ok (.isub, 1) := by decide +kernel
theorem dX5_addPart_46 : decode cX5_addPart 46 = .ok (.invokestatic 14, 3) := by decide +kernel
theorem dX5_addPart_49 : decode cX5_addPart 49 = .ok (.iload_n 3, 1) := by decide +kernel
theorem dX5_addPart_50 : decode cX5_addPart 50 = .ok (.bipush 10, 2) := by decide +kernel
theorem dX5_addPart_52 : decode cX5_addPart 52 = .ok (.irem, 1) := by decide +kernel
theorem dX5_addPart_53 : decode cX5_addPart 53 = .ok (.istore_n 3, 1) := by decide +kernel
theorem dX5_addPart_54 : decode cX5_addPart 54 = .ok (.iload_n 3, 1) := by decide +kernel
theorem dX5_addPart_55 : decode cX5_addPart 55 = .ok (.ifCond .le 8, 3) := by decide +kernel
theorem dX5_addPart_58 : decode cX5_addPart 58 = .ok (.aload_n 0, 1) := by decide +kernel
theorem dX5_addPart_59 : decode cX5_addPart 59 = .ok (.iload_n 3, 1) := by decide +kernel
theorem dX5_addPart_60 : decode cX5_addPart 60 = .ok (.invokestatic 14, 3) := by decide +kernel
theorem dX5_addPart_63 : decode cX5_addPart 63 = .ok (.iload_n 2, 1) := by decide +kernel
theorem dX5_addPart_64 : decode cX5_addPart 64 = .ok (.iconst (-1), 1) := by decide +kernel
theorem dX5_addPart_65 : decode cX5_addPart 65 = .ok (.if_icmp .eq 8, 3) := by decide +kernel
theorem dX5_addPart_68 : decode cX5_addPart 68 = .ok (.aload_n 0, 1) := by decide +kernel
theorem dX5_addPart_69 : decode cX5_addPart 69 = .ok (.iload_n 2, 1) := by decide +kernel
theorem dX5_addPart_70 : decode cX5_addPart 70 = .ok (.invokestatic 14, 3) := by decide +kernel
theorem dX5_addPart_73 : decode cX5_addPart 73 = .ok (.return_, 1) := by decide +kernel
theorem dX5_addName_0 : decode cX5_addName 0 = .ok (.aload_n 0, 1) := by decide +kernel
theorem dX5_addName_1 : decode cX5_addName 1 = .ok (.invokevirtual 25, 3) := by decide +kernel
theorem dX5_addName_4 : decode cX5_addName 4 = .ok (.ifCond .le 9, 3) := by decide +kernel
theorem dX5_addName_7 : decode cX5_addName 7 = .ok (.aload_n 0, 1) := by decide +kernel
theorem dX5_addName_8 : decode cX5_addName 8 = .ok (.bipush 32, 2) := by decide +kernel
theorem dX5_addName_10 : decode cX5_addName 10 = .ok (.invokevirtual 29, 3) := by decide +kernel
theorem dX5_addName_13 : decode cX5_addName 13 = .ok (.iload_n 1, 1) := by decide +kernel
theorem dX5_addName_14 : decode cX5_addName 14 = .ok (.invokestatic 33, 3) := by decide +kernel
theorem dX5_addName_17 : decode cX5_addName 17 = .ok (.astore_n 2, 1) := by decide +kernel
theorem dX5_addName_18 : decode cX5_addName 18 = .ok (.iconst 0, 1) := by decide +kernel
theorem dX5_addName_19 : decode cX5_addName 19 = .ok (.istore_n 3, 1) := by decide +kernel
theorem dX5_addName_20 : decode cX5_addName 20 = .ok (.iload_n 3, 1) := by decide +kernel
theorem dX5_addName_21 : decode cX5_addName 21 = .ok (.aload_n 2, 1) := by decide +kernel
theorem dX5_addName_22 : decode cX5_addName 22 = .ok (.invokevirtual 37, 3) := by decide +kernel
theorem dX5_addName_25 : decode cX5_addName 25 = .ok (.if_icmp .ge 18, 3) := by decide +kernel
theorem dX5_addName_28 : decode cX5_addName 28 = .ok (.aload_n 0, 1) := by decide +kernel
theorem dX5_addName_29 : decode cX5_addName 29 = .ok (.aload_n 2, 1) := by decide +kernel
theorem dX5_addName_30 : decode cX5_addName 30 = .ok (.iload_n 3, 1) := by decide +kernel
theorem dX5_addName_31 : decode cX5_addName 31 = .ok (.invokevirtual 40, 3) := by decide +kernel
theorem dX5_addName_34 : decode cX5_addName 34 = .ok (.invokevirtual 29, 3) := by decide +kernel
theorem dX5_addName_37 : decode cX5_addName 37 = .ok (.iinc 3 1, 3) := by decide +kernel
theorem dX5_addName_40 : decode cX5_addName 40 = .ok (.goto (-20), 3) := by decide +kernel
theorem dX5_addName_43 : decode cX5_addName 43 = .ok (.return_, 1) := by decide +kernel
theorem dX5_meaning_0 : decode cX5_meaning 0 = .ok (.iconst 0, 1) := by decide +kernel
theorem dX5_meaning_1 : decode cX5_meaning 1 = .ok (.istore_n 1, 1) := by decide +kernel
theorem dX5_meaning_2 : decode cX5_meaning 2 = .ok (.iconst 0, 1) := by decide +kernel
theorem dX5_meaning_3 : decode cX5_meaning 3 = .ok (.istore_n 2, 1) := by decide +kernel
theorem dX5_meaning_4 : decode cX5_meaning 4 = .ok (.iconst 0, 1) := by decide +kernel
theorem dX5_meaning_5 : decode cX5_meaning 5 = .ok (.istore_n 3, 1) := by decide +kernel
theorem dX5_meaning_6 : decode cX5_meaning 6 = .ok (.iconst 0, 1) := by decide +kernel
theorem dX5_meaning_7 : decode cX5_meaning 7 = .ok (.istore 4, 2) := by decide +kernel
theorem dX5_meaning_9 : decode cX5_meaning 9 = .ok (.iload 4, 2) := by decide +kernel
theorem dX5_meaning_11 : decode cX5_meaning 11 = .ok (.aload_n 0, 1) := by decide +kernel
theorem dX5_meaning_12 : decode cX5_meaning 12 = .ok (.invokevirtual 25, 3) := by decide +kernel
theorem dX5_meaning_15 : decode cX5_meaning 15 = .ok (.if_icmp .gt 133, 3) := by decide +kernel
theorem dX5_meaning_18 : decode cX5_meaning 18 = .ok (.iload 4, 2) := by decide +kernel
theorem dX5_meaning_20 : decode cX5_meaning 20 = .ok (.aload_n 0, 1) := by decide +kernel
theorem dX5_meaning_21 : decode cX5_meaning 21 = .ok (.invokevirtual 25, 3) := by decide +kernel
theorem dX5_meaning_24 : decode cX5_meaning 24 = .ok (.if_icmp .ge 17, 3) := by decide +kernel
theorem dX5_meaning_27 : decode cX5_meaning 27 = .ok (.aload_n 0, 1) := by decide +kernel
theorem dX5_meaning_28 : decode cX5_meaning 28 = .ok (.iload 4, 2) := by decide +kernel
theorem dX5_meaning_30 : decode cX5_meaning 30 = .ok (.invokevirtual 44, 3) := by decide +kernel
theorem dX5_meaning_33 : decode cX5_meaning 33 = .ok (.bipush 32, 2) := by decide +kernel
theorem dX5_meaning_35 : decode cX5_meaning 35 = .ok (.if_icmp .eq 6, 3) := by decide +kernel
theorem dX5_meaning_38 : decode cX5_meaning 38 = .ok (.goto 104, 3) := by decide +kernel
theorem dX5_meaning_41 : decode cX5_meaning 41 = .ok (.aload_n 0, 1) := by decide +kernel
theorem dX5_meaning_42 : decode cX5_meaning 42 = .ok (.iload_n 3, 1) := by decide +kernel
theorem dX5_meaning_43 : decode cX5_meaning 43 = .ok (.iload 4, 2) := by decide +kernel
theorem dX5_meaning_45 : decode cX5_meaning 45 = .ok (.invokestatic 48, 3) := by decide +kernel
theorem dX5_meaning_48 : decode cX5_meaning 48 = .ok (.istore 5, 2) := by decide +kernel
theorem dX5_meaning_50 : decode cX5_meaning 50 = .ok (.iload 5, 2) := by decide +kernel
theorem dX5_meaning_52 : decode cX5_meaning 52 = .ok (.iconst (-1), 1) := by decide +kernel
theorem dX5_meaning_53 : decode cX5_meaning 53 = .ok (.if_icmp .ne 5, 3) := by decide +kernel
theorem dX5_meaning_56 : decode cX5_meaning 56 = .ok (.iconst (-1), 1) := by decide +kernel
theorem dX5_meaning_57 : decode cX5_meaning 57 = .ok (.ireturn, 1) := by decide +kernel
theorem dX5_meaning_58 : decode cX5_meaning 58 = .ok (.iload 5, 2) := by decide +kernel
theorem dX5_meaning_60 : decode cX5_meaning 60 = .ok (.bipush 29, 2) := by decide +kernel
theorem dX5_meaning_62 : decode cX5_meaning 62 = .ok (.if_icmp .eq 10, 3) := by decide +kernel
theorem dX5_meaning_65 : decode cX5_meaning 65 = .ok (.iload 5, 2) := by decide +kernel
theorem dX5_meaning_67 : decode cX5_meaning 67 = .ok (.bipush 30, 2) := by decide +kernel
theorem dX5_meaning_69 : decode cX5_meaning 69 = .ok (.if_icmp .ne 28, 3) := by decide +kernel
theorem dX5_meaning_72 : decode cX5_meaning 72 = .ok (.iload_n 1, 1) := by decide +kernel
theorem dX5_meaning_73 : decode cX5_meaning 73 = .ok (.iload_n 2, 1) := by decide +kernel
theorem dX5_meaning_74 : decode cX5_meaning 74 = .ok (.iload 5, 2) := by decide +kernel
theorem dX5_meaning_76 : decode cX5_meaning 76 = .ok (.bipush 30, 2) := by decide +kernel
theorem dX5_meaning_78 : decode cX5_meaning 78 = .ok (.if_icmp .ne 8, 3) := by decide +kernel
theorem dX5_meaning_81 : decode cX5_meaning 81 = .ok (.ldc 20, 2) := by decide +kernel
theorem dX5_meaning_83 : decode cX5_meaning 83 = .ok (.goto 6, 3) := by decide +kernel
theorem dX5_meaning_86 : decode cX5_meaning 86 = .ok (.sipush 1000, 3) := by decide +kernel
theorem dX5_meaning_89 : decode cX5_meaning 89 = .ok (.imul, 1) := by decide +kernel
theorem dX5_meaning_90 : decode cX5_meaning 90 = .ok (.iadd, 1) := by decide +kernel
theorem dX5_meaning_91 : decode cX5_meaning 91 = .ok (.istore_n 1, 1) := by decide +kernel
theorem dX5_meaning_92 : decode cX5_meaning 92 = .ok (.iconst 0, 1) := by decide +kernel
theorem dX5_meaning_93 : decode cX5_meaning 93 = .ok (.istore_n 2, 1) := by decide +kernel
theorem dX5_meaning_94 : decode cX5_meaning 94 = .ok (.goto 43, 3) := by decide +kernel
theorem dX5_meaning_97 : decode cX5_meaning 97 = .ok (.iload 5, 2) := by decide +kernel
theorem dX5_meaning_99 : decode cX5_meaning 99 = .ok (.bipush 28, 2) := by decide +kernel
theorem dX5_meaning_101 : decode cX5_meaning 101 = .ok (.if_icmp .ne 11, 3) := by decide +kernel
theorem dX5_meaning_104 : decode cX5_meaning 104 = .ok (.iload_n 2, 1) := by decide +kernel
theorem dX5_meaning_105 : decode cX5_meaning 105 = .ok (.bipush 100, 2) := by decide +kernel
theorem dX5_meaning_107 : decode cX5_meaning 107 = .ok (.imul, 1) := by decide +kernel
theorem dX5_meaning_108 : decode cX5_meaning 108 = .ok (.istore_n 2, 1) := by decide +kernel
theorem dX5_meaning_109 : decode cX5_meaning 109 = .ok (.goto 28, 3) := by decide +kernel
theorem dX5_meaning_112 : decode cX5_meaning 112 = .ok (.iload_n 2, 1) := by decide +kernel
theorem dX5_meaning_113 : decode cX5_meaning 113 = .ok (.iload 5, 2) := by decide +kernel
theorem dX5_meaning_115 : decode cX5_meaning 115 = .ok (.bipush 20, 2) := by decide +kernel
theorem dX5_meaning_117 : decode cX5_meaning 117 = .ok (.if_icmp .ge 8, 3) := by decide +kernel
theorem dX5_meaning_120 : decode cX5_meaning 120 = .ok (.iload 5, 2) := by decide +kernel
theorem dX5_meaning_122 : decode cX5_meaning 122 = .ok (.goto 13, 3) := by decide +kernel
theorem dX5_meaning_125 : decode cX5_meaning 125 = .ok (.iload 5, 2) := by decide +kernel
theorem dX5_meaning_127 : decode cX5_meaning 127 = .ok (.bipush 20, 2) := by decide +kernel
theorem dX5_meaning_129 : decode cX5_meaning 129 = .ok (.isub, 1) := by decide +kernel
theorem dX5_meaning_130 : decode cX5_meaning 130 = .ok (.iconst 2, 1) := by decide +kernel
theorem dX5_meaning_131 : decode cX5_meaning 131 = .ok (.iadd, 1) := by decide +kernel
theorem dX5_meaning_132 : decode cX5_meaning 132 = .ok (.bipush 10, 2) := by decide +kernel
theorem dX5_meaning_134 : decode cX5_meaning 134 = .ok (.imul, 1) := by decide +kernel
theorem dX5_meaning_135 : decode cX5_meaning 135 = .ok (.iadd, 1) := by decide +kernel
theorem dX5_meaning_136 : decode cX5_meaning 136 = .ok (.istore_n 2, 1) := by decide +kernel
theorem dX5_meaning_137 : decode cX5_meaning 137 = .ok (.iload 4, 2) := by decide +kernel
theorem dX5_meaning_139 : decode cX5_meaning 139 = .ok (.iconst 1, 1) := by decide +kernel
theorem dX5_meaning_140 : decode cX5_meaning 140 = .ok (.iadd, 1) := by decide +kernel
theorem dX5_meaning_141 : decode cX5_meaning 141 = .ok (.istore_n 3, 1) := by decide +kernel
theorem dX5_meaning_142 : decode cX5_meaning 142 = .ok (.iinc 4 1, 3) := by decide +kernel
theorem dX5_meaning_145 : decode cX5_meaning 145 = .ok (.goto (-136), 3) := by decide +kernel
theorem dX5_meaning_148 : decode cX5_meaning 148 = .ok (.iload_n 1, 1) := by decide +kernel
theorem dX5_meaning_149 : decode cX5_meaning 149 = .ok (.iload_n 2, 1) := by decide +kernel
theorem dX5_meaning_150 : decode cX5_meaning 150 = .ok (.iadd, 1) := by decide +kernel
theorem dX5_meaning_151 : decode cX5_meaning 151 = .ok (.ireturn, 1) := by decide +kernel
theorem dX5_nameIn_0 : decode cX5_nameIn 0 = .ok (.iconst 0, 1) := by decide +kernel
theorem dX5_nameIn_1 : decode cX5_nameIn 1 = .ok (.istore_n 3, 1) := by decide +kernel
theorem dX5_nameIn_2 : decode cX5_nameIn 2 = .ok (.iload_n 3, 1) := by decide +kernel
theorem dX5_nameIn_3 : decode cX5_nameIn 3 = .ok (.bipush 31, 2) := by decide +kernel
theorem dX5_nameIn_5 : decode cX5_nameIn 5 = .ok (.if_icmp .ge 24, 3) := by decide +kernel
theorem dX5_nameIn_8 : decode cX5_nameIn 8 = .ok (.aload_n 0, 1) := by decide +kernel
theorem dX5_nameIn_9 : decode cX5_nameIn 9 = .ok (.iload_n 1, 1) := by decide +kernel
theorem dX5_nameIn_10 : decode cX5_nameIn 10 = .ok (.iload_n 2, 1) := by decide +kernel
theorem dX5_nameIn_11 : decode cX5_nameIn 11 = .ok (.iload_n 3, 1) := by decide +kernel
theorem dX5_nameIn_12 : decode cX5_nameIn 12 = .ok (.invokestatic 33, 3) := by decide +kernel
theorem dX5_nameIn_15 : decode cX5_nameIn 15 = .ok (.invokestatic 52, 3) := by decide +kernel
theorem dX5_nameIn_18 : decode cX5_nameIn 18 = .ok (.ifCond .eq 5, 3) := by decide +kernel
theorem dX5_nameIn_21 : decode cX5_nameIn 21 = .ok (.iload_n 3, 1) := by decide +kernel
theorem dX5_nameIn_22 : decode cX5_nameIn 22 = .ok (.ireturn, 1) := by decide +kernel
theorem dX5_nameIn_23 : decode cX5_nameIn 23 = .ok (.iinc 3 1, 3) := by decide +kernel
theorem dX5_nameIn_26 : decode cX5_nameIn 26 = .ok (.goto (-24), 3) := by decide +kernel
theorem dX5_nameIn_29 : decode cX5_nameIn 29 = .ok (.iconst (-1), 1) := by decide +kernel
theorem dX5_nameIn_30 : decode cX5_nameIn 30 = .ok (.ireturn, 1) := by decide +kernel
theorem dX5_stands_0 : decode cX5_stands 0 = .ok (.aload_n 3, 1) := by decide +kernel
theorem dX5_stands_1 : decode cX5_stands 1 = .ok (.invokevirtual 37, 3) := by decide +kernel
theorem dX5_stands_4 : decode cX5_stands 4 = .ok (.iload_n 2, 1) := by decide +kernel
theorem dX5_stands_5 : decode cX5_stands 5 = .ok (.iload_n 1, 1) := by decide +kernel
theorem dX5_stands_6 : decode cX5_stands 6 = .ok (.isub, 1) := by decide +kernel
theorem dX5_stands_7 : decode cX5_stands 7 = .ok (.if_icmp .eq 5, 3) := by decide +kernel
theorem dX5_stands_10 : decode cX5_stands 10 = .ok (.iconst 0, 1) := by decide +kernel
theorem dX5_stands_11 : decode cX5_stands 11 = .ok (.ireturn, 1) := by decide +kernel
theorem dX5_stands_12 : decode cX5_stands 12 = .ok (.iconst 0, 1) := by decide +kernel
theorem dX5_stands_13 : decode cX5_stands 13 = .ok (.istore 4, 2) := by decide +kernel
theorem dX5_stands_15 : decode cX5_stands 15 = .ok (.iload 4, 2) := by decide +kernel
theorem dX5_stands_17 : decode cX5_stands 17 = .ok (.aload_n 3, 1) := by decide +kernel
theorem dX5_stands_18 : decode cX5_stands 18 = .ok (.invokevirtual 37, 3) := by decide +kernel
theorem dX5_stands_21 : decode cX5_stands 21 = .ok (.if_icmp .ge 28, 3) := by decide +kernel
theorem dX5_stands_24 : decode cX5_stands 24 = .ok (.aload_n 0, 1) := by decide +kernel
theorem dX5_stands_25 : decode cX5_stands 25 = .ok (.iload_n 1, 1) := by decide +kernel
theorem dX5_stands_26 : decode cX5_stands 26 = .ok (.iload 4, 2) := by decide +kernel
theorem dX5_stands_28 : decode cX5_stands 28 = .ok (.iadd, 1) := by decide +kernel
theorem dX5_stands_29 : decode cX5_stands 29 = .ok (.invokevirtual 44, 3) := by decide +kernel
theorem dX5_stands_32 : decode cX5_stands 32 = .ok (.aload_n 3, 1) := by decide +kernel
theorem dX5_stands_33 : decode cX5_stands 33 = .ok (.iload 4, 2) := by decide +kernel
theorem dX5_stands_35 : decode cX5_stands 35 = .ok (.invokevirtual 40, 3) := by decide +kernel
theorem dX5_stands_38 : decode cX5_stands 38 = .ok (.if_icmp .eq 5, 3) := by decide +kernel
theorem dX5_stands_41 : decode cX5_stands 41 = .ok (.iconst 0, 1) := by decide +kernel
theorem dX5_stands_42 : decode cX5_stands 42 = .ok (.ireturn, 1) := by decide +kernel
theorem dX5_stands_43 : decode cX5_stands 43 = .ok (.iinc 4 1, 3) := by decide +kernel
theorem dX5_stands_46 : decode cX5_stands 46 = .ok (.goto (-31), 3) := by decide +kernel
theorem dX5_stands_49 : decode cX5_stands 49 = .ok (.iconst 1, 1) := by decide +kernel
theorem dX5_stands_50 : decode cX5_stands 50 = .ok (.ireturn, 1) := by decide +kernel
theorem dX5_nameOf_0 : decode cX5_nameOf 0 = .ok (.iload_n 0, 1) := by decide +kernel
theorem dX5_nameOf_1 : decode cX5_nameOf 1 = .ok (.tableswitch 232 0 30 #[139, 142, 145, 148, 151, 154, 157, 160, 163, 166, 169, 172, 175, 178, 181, 184, 187, 190, 193, 196, 199, 202, 205, 208, 211, 214, 217, 220, 223, 226, 229], 139) := by decide +kernel
theorem dX5_nameOf_140 : decode cX5_nameOf 140 = .ok (.ldc 56, 2) := by decide +kernel
theorem dX5_nameOf_142 : decode cX5_nameOf 142 = .ok (.areturn, 1) := by decide +kernel
theorem dX5_nameOf_143 : decode cX5_nameOf 143 = .ok (.ldc 58, 2) := by decide +kernel
theorem dX5_nameOf_145 : decode cX5_nameOf 145 = .ok (.areturn, 1) := by decide +kernel
theorem dX5_nameOf_146 : decode cX5_nameOf 146 = .ok (.ldc 60, 2) := by decide +kernel
theorem dX5_nameOf_148 : decode cX5_nameOf 148 = .ok (.areturn, 1) := by decide +kernel
theorem dX5_nameOf_149 : decode cX5_nameOf 149 = .ok (.ldc 62, 2) := by decide +kernel
theorem dX5_nameOf_151 : decode cX5_nameOf 151 = .ok (.areturn, 1) := by decide +kernel
theorem dX5_nameOf_152 : decode cX5_nameOf 152 = .ok (.ldc 64, 2) := by decide +kernel
theorem dX5_nameOf_154 : decode cX5_nameOf 154 = .ok (.areturn, 1) := by decide +kernel
theorem dX5_nameOf_155 : decode cX5_nameOf 155 = .ok (.ldc 66, 2) := by decide +kernel
theorem dX5_nameOf_157 : decode cX5_nameOf 157 = .ok (.areturn, 1) := by decide +kernel
theorem dX5_nameOf_158 : decode cX5_nameOf 158 = .ok (.ldc 68, 2) := by decide +kernel
theorem dX5_nameOf_160 : decode cX5_nameOf 160 = .ok (.areturn, 1) := by decide +kernel
theorem dX5_nameOf_161 : decode cX5_nameOf 161 = .ok (.ldc 70, 2) := by decide +kernel
theorem dX5_nameOf_163 : decode cX5_nameOf 163 = .ok (.areturn, 1) := by decide +kernel
theorem dX5_nameOf_164 : decode cX5_nameOf 164 = .ok (.ldc 72, 2) := by decide +kernel
theorem dX5_nameOf_166 : decode cX5_nameOf 166 = .ok (.areturn, 1) := by decide +kernel
theorem dX5_nameOf_167 : decode cX5_nameOf 167 = .ok (.ldc 74, 2) := by decide +kernel
theorem dX5_nameOf_169 : decode cX5_nameOf 169 = .ok (.areturn, 1) := by decide +kernel
theorem dX5_nameOf_170 : decode cX5_nameOf 170 = .ok (.ldc 76, 2) := by decide +kernel
theorem dX5_nameOf_172 : decode cX5_nameOf 172 = .ok (.areturn, 1) := by decide +kernel
theorem dX5_nameOf_173 : decode cX5_nameOf 173 = .ok (.ldc 78, 2) := by decide +kernel
theorem dX5_nameOf_175 : decode cX5_nameOf 175 = .ok (.areturn, 1) := by decide +kernel
theorem dX5_nameOf_176 : decode cX5_nameOf 176 = .ok (.ldc 80, 2) := by decide +kernel
theorem dX5_nameOf_178 : decode cX5_nameOf 178 = .ok (.areturn, 1) := by decide +kernel
theorem dX5_nameOf_179 : decode cX5_nameOf 179 = .ok (.ldc 82, 2) := by decide +kernel
theorem dX5_nameOf_181 : decode cX5_nameOf 181 = .ok (.areturn, 1) := by decide +kernel
theorem dX5_nameOf_182 : decode cX5_nameOf 182 = .ok (.ldc 84, 2) := by decide +kernel
theorem dX5_nameOf_184 : decode cX5_nameOf 184 = .ok (.areturn, 1) := by decide +kernel
theorem dX5_nameOf_185 : decode cX5_nameOf 185 = .ok (.ldc 86, 2) := by decide +kernel
theorem dX5_nameOf_187 : decode cX5_nameOf 187 = .ok (.areturn, 1) := by decide +kernel
theorem dX5_nameOf_188 : decode cX5_nameOf 188 = .ok (.ldc 88, 2) := by decide +kernel
theorem dX5_nameOf_190 : decode cX5_nameOf 190 = .ok (.areturn, 1) := by decide +kernel
theorem dX5_nameOf_191 : decode cX5_nameOf 191 = .ok (.ldc 90, 2) := by decide +kernel
theorem dX5_nameOf_193 : decode cX5_nameOf 193 = .ok (.areturn, 1) := by decide +kernel
theorem dX5_nameOf_194 : decode cX5_nameOf 194 = .ok (.ldc 92, 2) := by decide +kernel
theorem dX5_nameOf_196 : decode cX5_nameOf 196 = .ok (.areturn, 1) := by decide +kernel
theorem dX5_nameOf_197 : decode cX5_nameOf 197 = .ok (.ldc 94, 2) := by decide +kernel
theorem dX5_nameOf_199 : decode cX5_nameOf 199 = .ok (.areturn, 1) := by decide +kernel
theorem dX5_nameOf_200 : decode cX5_nameOf 200 = .ok (.ldc 96, 2) := by decide +kernel
theorem dX5_nameOf_202 : decode cX5_nameOf 202 = .ok (.areturn, 1) := by decide +kernel
theorem dX5_nameOf_203 : decode cX5_nameOf 203 = .ok (.ldc 98, 2) := by decide +kernel
theorem dX5_nameOf_205 : decode cX5_nameOf 205 = .ok (.areturn, 1) := by decide +kernel
theorem dX5_nameOf_206 : decode cX5_nameOf 206 = .ok (.ldc 100, 2) := by decide +kernel
theorem dX5_nameOf_208 : decode cX5_nameOf 208 = .ok (.areturn, 1) := by decide +kernel
theorem dX5_nameOf_209 : decode cX5_nameOf 209 = .ok (.ldc 102, 2) := by decide +kernel
theorem dX5_nameOf_211 : decode cX5_nameOf 211 = .ok (.areturn, 1) := by decide +kernel
theorem dX5_nameOf_212 : decode cX5_nameOf 212 = .ok (.ldc 104, 2) := by decide +kernel
theorem dX5_nameOf_214 : decode cX5_nameOf 214 = .ok (.areturn, 1) := by decide +kernel
theorem dX5_nameOf_215 : decode cX5_nameOf 215 = .ok (.ldc 106, 2) := by decide +kernel
theorem dX5_nameOf_217 : decode cX5_nameOf 217 = .ok (.areturn, 1) := by decide +kernel
theorem dX5_nameOf_218 : decode cX5_nameOf 218 = .ok (.ldc 108, 2) := by decide +kernel
theorem dX5_nameOf_220 : decode cX5_nameOf 220 = .ok (.areturn, 1) := by decide +kernel
theorem dX5_nameOf_221 : decode cX5_nameOf 221 = .ok (.ldc 110, 2) := by decide +kernel
theorem dX5_nameOf_223 : decode cX5_nameOf 223 = .ok (.areturn, 1) := by decide +kernel
theorem dX5_nameOf_224 : decode cX5_nameOf 224 = .ok (.ldc 112, 2) := by decide +kernel
theorem dX5_nameOf_226 : decode cX5_nameOf 226 = .ok (.areturn, 1) := by decide +kernel
theorem dX5_nameOf_227 : decode cX5_nameOf 227 = .ok (.ldc 114, 2) := by decide +kernel
theorem dX5_nameOf_229 : decode cX5_nameOf 229 = .ok (.areturn, 1) := by decide +kernel
theorem dX5_nameOf_230 : decode cX5_nameOf 230 = .ok (.ldc 116, 2) := by decide +kernel
theorem dX5_nameOf_232 : decode cX5_nameOf 232 = .ok (.areturn, 1) := by decide +kernel
theorem dX5_nameOf_233 : decode cX5_nameOf 233 = .ok (.ldc 118, 2) := by decide +kernel
theorem dX5_nameOf_235 : decode cX5_nameOf 235 = .ok (.areturn, 1) := by decide +kernel
theorem dX6_rounded_0 : decode cX6_rounded 0 = .ok (.lload_n 0, 1) := by decide +kernel
theorem dX6_rounded_1 : decode cX6_rounded 1 = .ok (.invokestatic 9, 3) := by decide +kernel
theorem dX6_rounded_4 : decode cX6_rounded 4 = .ok (.lstore_n 3, 1) := by decide +kernel
theorem dX6_rounded_5 : decode cX6_rounded 5 = .ok (.lconst 0, 1) := by decide +kernel
theorem dX6_rounded_6 : decode cX6_rounded 6 = .ok (.lstore 5, 2) := by decide +kernel
theorem dX6_rounded_8 : decode cX6_rounded 8 = .ok (.iload_n 2, 1) := by decide +kernel
theorem dX6_rounded_9 : decode cX6_rounded 9 = .ok (.istore 7, 2) := by decide +kernel
theorem dX6_rounded_11 : decode cX6_rounded 11 = .ok (.iload 7, 2) := by decide +kernel
theorem dX6_rounded_13 : decode cX6_rounded 13 = .ok (.bipush 6, 2) := by decide +kernel
theorem dX6_rounded_15 : decode cX6_rounded 15 = .ok (.if_icmp .ge 22, 3) := by decide +kernel
theorem dX6_rounded_18 : decode cX6_rounded 18 = .ok (.lload_n 3, 1) := by decide +kernel
theorem dX6_rounded_19 : decode cX6_rounded 19 = .ok (.ldc2_w 15, 3) := by decide +kernel
theorem dX6_rounded_22 : decode cX6_rounded 22 = .ok (.lrem, 1) := by decide +kernel
theorem dX6_rounded_23 : decode cX6_rounded 23 = .ok (.lstore 5, 2) := by decide +kernel
theorem dX6_rounded_25 : decode cX6_rounded 25 = .ok (.lload_n 3, 1) := by decide +kernel
theorem dX6_rounded_26 : decode cX6_rounded 26 = .ok (.ldc2_w 15, 3) := by decide +kernel
theorem dX6_rounded_29 : decode cX6_rounded 29 = .ok (.ldiv, 1) := by decide +kernel
theorem dX6_rounded_30 : decode cX6_rounded 30 = .ok (.lstore_n 3, 1) := by decide +kernel
theorem dX6_rounded_31 : decode cX6_rounded 31 = .ok (.iinc 7 1, 3) := by decide +kernel
theorem dX6_rounded_34 : decode cX6_rounded 34 = .ok (.goto (-23), 3) := by decide +kernel
theorem dX6_rounded_37 : decode cX6_rounded 37 = .ok (.lload 5, 2) := by decide +kernel
theorem dX6_rounded_39 : decode cX6_rounded 39 = .ok (.ldc2_w 17, 3) := by decide +kernel
theorem dX6_rounded_42 : decode cX6_rounded 42 = .ok (.lcmp, 1) := by decide +kernel
theorem dX6_rounded_43 : decode cX6_rounded 43 = .ok (.ifCond .lt 7, 3) := by decide +kernel
theorem dX6_rounded_46 : decode cX6_rounded 46 = .ok (.lload_n 3, 1) := by decide +kernel
theorem dX6_rounded_47 : decode cX6_rounded 47 = .ok (.lconst 1, 1) := by decide +kernel
theorem dX6_rounded_48 : decode cX6_rounded 48 = .ok (.ladd, 1) := by decide +kernel
theorem dX6_rounded_49 : decode cX6_rounded 49 = .ok (.lstore_n 3, 1) := by decide +kernel
theorem dX6_rounded_50 : decode cX6_rounded 50 = .ok (.iload_n 2, 1) := by decide +kernel
theorem dX6_rounded_51 : decode cX6_rounded 51 = .ok (.istore 7, 2) := by decide +kernel
theorem dX6_rounded_53 : decode cX6_rounded 53 = .ok (.iload 7, 2) := by decide +kernel
theorem dX6_rounded_55 : decode cX6_rounded 55 = .ok (.bipush 6, 2) := by decide +kernel
theorem dX6_rounded_57 : decode cX6_rounded 57 = .ok (.if_icmp .ge 15, 3) := by decide +kernel
theorem dX6_rounded_60 : decode cX6_rounded 60 = .ok (.lload_n 3, 1) := by decide +kernel
theorem dX6_rounded_61 : decode cX6_rounded 61 = .ok (.ldc2_w 15, 3) := by decide +kernel
theorem dX6_rounded_64 : decode cX6_rounded 64 = .ok (.lmul, 1) := by decide +kernel
theorem dX6_rounded_65 : decode cX6_rounded 65 = .ok (.lstore_n 3, 1) := by decide +kernel
theorem dX6_rounded_66 : decode cX6_rounded 66 = .ok (.iinc 7 1, 3) := by decide +kernel
theorem dX6_rounded_69 : decode cX6_rounded 69 = .ok (.goto (-16), 3) := by decide +kernel
theorem dX6_rounded_72 : decode cX6_rounded 72 = .ok (.lload_n 0, 1) := by decide +kernel
theorem dX6_rounded_73 : decode cX6_rounded 73 = .ok (.lconst 0, 1) := by decide +kernel
theorem dX6_rounded_74 : decode cX6_rounded 74 = .ok (.lcmp, 1) := by decide +kernel
theorem dX6_rounded_75 : decode cX6_rounded 75 = .ok (.ifCond .ge 8, 3) := by decide +kernel
theorem dX6_rounded_78 : decode cX6_rounded 78 = .ok (.lload_n 3, 1) := by decide +kernel
theorem dX6_rounded_79 : decode cX6_rounded 79 = .ok (.lneg, 1) := by decide +kernel
theorem dX6_rounded_80 : decode cX6_rounded 80 = .ok (.goto 4, 3) := by decide +kernel
theorem dX6_rounded_83 : decode cX6_rounded 83 = .ok (.lload_n 3, 1) := by decide +kernel
theorem dX6_rounded_84 : decode cX6_rounded 84 = .ok (.lreturn, 1) := by decide +kernel
theorem dX6_digitOf_0 : decode cX6_digitOf 0 = .ok (.lload_n 0, 1) := by decide +kernel
theorem dX6_digitOf_1 : decode cX6_digitOf 1 = .ok (.lstore_n 3, 1) := by decide +kernel
theorem dX6_digitOf_2 : decode cX6_digitOf 2 = .ok (.iconst 0, 1) := by decide +kernel
theorem dX6_digitOf_3 : decode cX6_digitOf 3 = .ok (.istore 5, 2) := by decide +kernel
theorem dX6_digitOf_5 : decode cX6_digitOf 5 = .ok (.iload 5, 2) := by decide +kernel
theorem dX6_digitOf_7 : decode cX6_digitOf 7 = .ok (.iload_n 2, 1) := by decide +kernel
theorem dX6_digitOf_8 : decode cX6_digitOf 8 = .ok (.if_icmp .ge 15, 3) := by decide +kernel
theorem dX6_digitOf_11 : decode cX6_digitOf 11 = .ok (.lload_n 3, 1) := by decide +kernel
theorem dX6_digitOf_12 : decode cX6_digitOf 12 = .ok (.ldc2_w 15, 3) := by decide +kernel
theorem dX6_digitOf_15 : decode cX6_digitOf 15 = .ok (.ldiv, 1) := by decide +kernel
theorem dX6_digitOf_16 : decode cX6_digitOf 16 = .ok (.lstore_n 3, 1) := by decide +kernel
theorem dX6_digitOf_17 : decode cX6_digitOf 17 = .ok (.iinc 5 1, 3) := by decide +kernel
theorem dX6_digitOf_20 : decode cX6_digitOf 20 = .ok (.goto (-15), 3) := by decide +kernel
theorem dX6_digitOf_23 : decode cX6_digitOf 23 = .ok (.lload_n 3, 1) := by decide +kernel
theorem dX6_digitOf_24 : decode cX6_digitOf 24 = .ok (.ldc2_w 15, 3) := by decide +kernel
theorem dX6_digitOf_27 : decode cX6_digitOf 27 = .ok (.lrem, 1) := by decide +kernel
theorem dX6_digitOf_28 : decode cX6_digitOf 28 = .ok (.l2i, 1) := by decide +kernel
theorem dX6_digitOf_29 : decode cX6_digitOf 29 = .ok (.ireturn, 1) := by decide +kernel
end
section
theorem dX6_writeAmount_0 : decode cX6_writeAmount 0 = .ok (.lload_n 3, 1) := by decide +kernel
theorem dX6_writeAmount_1 : decode cX6_writeAmount 1 = .ok (.lconst 0, 1) := by decide +kernel
theorem dX6_writeAmount_2 : decode cX6_writeAmount 2 = .ok (.lcmp, 1) := by decide +kernel
theorem dX6_writeAmount_3 : decode cX6_writeAmount 3 = .ok (.ifCond .ge 7, 3) := by decide +kernel
theorem dX6_writeAmount_6 : decode cX6_writeAmount 6 = .ok (.iconst 1, 1) := by decide +kernel
theorem dX6_writeAmount_7 : decode cX6_writeAmount 7 = .ok (.goto 4, 3) := by decide +kernel
theorem dX6_writeAmount_10 : decode cX6_writeAmount 10 = .ok (.iconst 0, 1) := by decide +kernel
theorem dX6_writeAmount_11 : decode cX6_writeAmount 11 = .ok (.istore 6, 2) := by decide +kernel
theorem dX6_writeAmount_13 : decode cX6_writeAmount 13 = .ok (.aload_n 0, 1) := by decide +kernel
theorem dX6_writeAmount_14 : decode cX6_writeAmount 14 = .ok (.invokevirtual 19, 3) := by decide +kernel
theorem dX6_writeAmount_17 : decode cX6_writeAmount 17 = .ok (.iload 6, 2) := by decide +kernel
theorem dX6_writeAmount_19 : decode cX6_writeAmount 19 = .ok (.ifCond .eq 19, 3) := by decide +kernel
theorem dX6_writeAmount_22 : decode cX6_writeAmount 22 = .ok (.aload_n 1, 1) := by decide +kernel
theorem dX6_writeAmount_23 : decode cX6_writeAmount 23 = .ok (.invokevirtual 24, 3) := by decide +kernel
theorem dX6_writeAmount_26 : decode cX6_writeAmount 26 = .ok (.iconst (-1), 1) := by decide +kernel
theorem dX6_writeAmount_27 : decode cX6_writeAmount 27 = .ok (.if_icmp .eq 11, 3) := by decide +kernel
theorem dX6_writeAmount_30 : decode cX6_writeAmount 30 = .ok (.aload_n 0, 1) := by decide +kernel
theorem dX6_writeAmount_31 : decode cX6_writeAmount 31 = .ok (.aload_n 1, 1) := by decide +kernel
theorem dX6_writeAmount_32 : decode cX6_writeAmount 32 = .ok (.invokevirtual 24, 3) := by decide +kernel
theorem dX6_writeAmount_35 : decode cX6_writeAmount 35 = .ok (.invokevirtual 30, 3) := by decide +kernel
theorem dX6_writeAmount_38 : decode cX6_writeAmount 38 = .ok (.iload_n 2, 1) := by decide +kernel
theorem dX6_writeAmount_39 : decode cX6_writeAmount 39 = .ok (.ifCond .eq 15, 3) := by decide +kernel
theorem dX6_writeAmount_42 : decode cX6_writeAmount 42 = .ok (.aload_n 1, 1) := by decide +kernel
theorem dX6_writeAmount_43 : decode cX6_writeAmount 43 = .ok (.getfield 34, 3) := by decide +kernel
theorem dX6_writeAmount_46 : decode cX6_writeAmount 46 = .ok (.ifCond .ne 8, 3) := by decide +kernel
theorem dX6_writeAmount_49 : decode cX6_writeAmount 49 = .ok (.aload_n 0, 1) := by decide +kernel
theorem dX6_writeAmount_50 : decode cX6_writeAmount 50 = .ok (.aload_n 1, 1) := by decide +kernel
theorem dX6_writeAmount_51 : decode cX6_writeAmount 51 = .ok (.invokestatic 38, 3) := by decide +kernel
theorem dX6_writeAmount_54 : decode cX6_writeAmount 54 = .ok (.aload_n 0, 1) := by decide +kernel
theorem dX6_writeAmount_55 : decode cX6_writeAmount 55 = .ok (.aload_n 1, 1) := by decide +kernel
theorem dX6_writeAmount_56 : decode cX6_writeAmount 56 = .ok (.lload_n 3, 1) := by decide +kernel
theorem dX6_writeAmount_57 : decode cX6_writeAmount 57 = .ok (.invokestatic 9, 3) := by decide +kernel
theorem dX6_writeAmount_60 : decode cX6_writeAmount 60 = .ok (.iload 5, 2) := by decide +kernel
theorem dX6_writeAmount_62 : decode cX6_writeAmount 62 = .ok (.invokestatic 44, 3) := by decide +kernel
theorem dX6_writeAmount_65 : decode cX6_writeAmount 65 = .ok (.iload_n 2, 1) := by decide +kernel
theorem dX6_writeAmount_66 : decode cX6_writeAmount 66 = .ok (.ifCond .eq 21, 3) := by decide +kernel
theorem dX6_writeAmount_69 : decode cX6_writeAmount 69 = .ok (.aload_n 1, 1) := by decide +kernel
theorem dX6_writeAmount_70 : decode cX6_writeAmount 70 = .ok (.getfield 34, 3) := by decide +kernel
theorem dX6_writeAmount_73 : decode cX6_writeAmount 73 = .ok (.ifCond .eq 14, 3) := by decide +kernel
theorem dX6_writeAmount_76 : decode cX6_writeAmount 76 = .ok (.aload_n 0, 1) := by decide +kernel
theorem dX6_writeAmount_77 : decode cX6_writeAmount 77 = .ok (.bipush 32, 2) := by decide +kernel
theorem dX6_writeAmount_79 : decode cX6_writeAmount 79 = .ok (.invokevirtual 30, 3) := by decide +kernel
theorem dX6_writeAmount_82 : decode cX6_writeAmount 82 = .ok (.aload_n 0, 1) := by decide +kernel
theorem dX6_writeAmount_83 : decode cX6_writeAmount 83 = .ok (.aload_n 1, 1) := by decide +kernel
theorem dX6_writeAmount_84 : decode cX6_writeAmount 84 = .ok (.invokestatic 38, 3) := by decide +kernel
theorem dX6_writeAmount_87 : decode cX6_writeAmount 87 = .ok (.iload 6, 2) := by decide +kernel
theorem dX6_writeAmount_89 : decode cX6_writeAmount 89 = .ok (.ifCond .eq 19, 3) := by decide +kernel
theorem dX6_writeAmount_92 : decode cX6_writeAmount 92 = .ok (.aload_n 1, 1) := by decide +kernel
theorem dX6_writeAmount_93 : decode cX6_writeAmount 93 = .ok (.invokevirtual 48, 3) := by decide +kernel
theorem dX6_writeAmount_96 : decode cX6_writeAmount 96 = .ok (.iconst (-1), 1) := by decide +kernel
theorem dX6_writeAmount_97 : decode cX6_writeAmount 97 = .ok (.if_icmp .eq 11, 3) := by decide +kernel
theorem dX6_writeAmount_100 : decode cX6_writeAmount 100 = .ok (.aload_n 0, 1) := by decide +kernel
theorem dX6_writeAmount_101 : decode cX6_writeAmount 101 = .ok (.aload_n 1, 1) := by decide +kernel
theorem dX6_writeAmount_102 : decode cX6_writeAmount 102 = .ok (.invokevirtual 48, 3) := by decide +kernel
theorem dX6_writeAmount_105 : decode cX6_writeAmount 105 = .ok (.invokevirtual 30, 3) := by decide +kernel
theorem dX6_writeAmount_108 : decode cX6_writeAmount 108 = .ok (.return_, 1) := by decide +kernel
theorem dX6_addMark_0 : decode cX6_addMark 0 = .ok (.iconst 0, 1) := by decide +kernel
theorem dX6_addMark_1 : decode cX6_addMark 1 = .ok (.istore_n 2, 1) := by decide +kernel
theorem dX6_addMark_2 : decode cX6_addMark 2 = .ok (.iload_n 2, 1) := by decide +kernel
theorem dX6_addMark_3 : decode cX6_addMark 3 = .ok (.iconst 3, 1) := by decide +kernel
theorem dX6_addMark_4 : decode cX6_addMark 4 = .ok (.if_icmp .ge 18, 3) := by decide +kernel
theorem dX6_addMark_7 : decode cX6_addMark 7 = .ok (.aload_n 0, 1) := by decide +kernel
theorem dX6_addMark_8 : decode cX6_addMark 8 = .ok (.aload_n 1, 1) := by decide +kernel
theorem dX6_addMark_9 : decode cX6_addMark 9 = .ok (.iload_n 2, 1) := by decide +kernel
theorem dX6_addMark_10 : decode cX6_addMark 10 = .ok (.invokevirtual 51, 3) := by decide +kernel
theorem dX6_addMark_13 : decode cX6_addMark 13 = .ok (.invokevirtual 30, 3) := by decide +kernel
theorem dX6_addMark_16 : decode cX6_addMark 16 = .ok (.iinc 2 1, 3) := by decide +kernel
theorem dX6_addMark_19 : decode cX6_addMark 19 = .ok (.goto (-17), 3) := by decide +kernel
theorem dX6_addMark_22 : decode cX6_addMark 22 = .ok (.return_, 1) := by decide +kernel
theorem dX6_addNumber_0 : decode cX6_addNumber 0 = .ok (.bipush 14, 2) := by decide +kernel
theorem dX6_addNumber_2 : decode cX6_addNumber 2 = .ok (.istore 5, 2) := by decide +kernel
theorem dX6_addNumber_4 : decode cX6_addNumber 4 = .ok (.iload 5, 2) := by decide +kernel
theorem dX6_addNumber_6 : decode cX6_addNumber 6 = .ok (.bipush 6, 2) := by decide +kernel
theorem dX6_addNumber_8 : decode cX6_addNumber 8 = .ok (.if_icmp .le 18, 3) := by decide +kernel
theorem dX6_addNumber_11 : decode cX6_addNumber 11 = .ok (.lload_n 2, 1) := by decide +kernel
theorem dX6_addNumber_12 : decode cX6_addNumber 12 = .ok (.iload 5, 2) := by decide +kernel
theorem dX6_addNumber_14 : decode cX6_addNumber 14 = .ok (.invokestatic 55, 3) := by decide +kernel
theorem dX6_addNumber_17 : decode cX6_addNumber 17 = .ok (.ifCond .ne 9, 3) := by decide +kernel
theorem dX6_addNumber_20 : decode cX6_addNumber 20 = .ok (.iinc 5 (-1), 3) := by decide +kernel
theorem dX6_addNumber_23 : decode cX6_addNumber 23 = .ok (.goto (-19), 3) := by decide +kernel
theorem dX6_addNumber_26 : decode cX6_addNumber 26 = .ok (.iload 5, 2) := by decide +kernel
theorem dX6_addNumber_28 : decode cX6_addNumber 28 = .ok (.istore 6, 2) := by decide +kernel
theorem dX6_addNumber_30 : decode cX6_addNumber 30 = .ok (.iload 6, 2) := by decide +kernel
theorem dX6_addNumber_32 : decode cX6_addNumber 32 = .ok (.bipush 6, 2) := by decide +kernel
theorem dX6_addNumber_34 : decode cX6_addNumber 34 = .ok (.if_icmp .lt 42, 3) := by decide +kernel
theorem dX6_addNumber_37 : decode cX6_addNumber 37 = .ok (.aload_n 0, 1) := by decide +kernel
theorem dX6_addNumber_38 : decode cX6_addNumber 38 = .ok (.bipush 48, 2) := by decide +kernel
theorem dX6_addNumber_40 : decode cX6_addNumber 40 = .ok (.lload_n 2, 1) := by decide +kernel
theorem dX6_addNumber_41 : decode cX6_addNumber 41 = .ok (.iload 6, 2) := by decide +kernel
theorem dX6_addNumber_43 : decode cX6_addNumber 43 = .ok (.invokestatic 55, 3) := by decide +kernel
theorem dX6_addNumber_46 : decode cX6_addNumber 46 = .ok (.iadd, 1) := by decide +kernel
theorem dX6_addNumber_47 : decode cX6_addNumber 47 = .ok (.invokevirtual 30, 3) := by decide +kernel
theorem dX6_addNumber_50 : decode cX6_addNumber 50 = .ok (.aload_n 1, 1) := by decide +kernel
theorem dX6_addNumber_51 : decode cX6_addNumber 51 = .ok (.iload 6, 2) := by decide +kernel
theorem dX6_addNumber_53 : decode cX6_addNumber 53 = .ok (.bipush 6, 2) := by decide +kernel
theorem dX6_addNumber_55 : decode cX6_addNumber 55 = .ok (.isub, 1) := by decide +kernel
theorem dX6_addNumber_56 : decode cX6_addNumber 56 = .ok (.invokevirtual 59, 3) := by decide +kernel
theorem dX6_addNumber_59 : decode cX6_addNumber 59 = .ok (.ifCond .eq 11, 3) := by decide +kernel
theorem dX6_addNumber_62 : decode cX6_addNumber 62 = .ok (.aload_n 0, 1) := by decide +kernel
theorem dX6_addNumber_63 : decode cX6_addNumber 63 = .ok (.aload_n 1, 1) := by decide +kernel
theorem dX6_addNumber_64 : decode cX6_addNumber 64 = .ok (.getfield 63, 3) := by decide +kernel
theorem dX6_addNumber_67 : decode cX6_addNumber 67 = .ok (.invokevirtual 30, 3) := by decide +kernel
theorem dX6_addNumber_70 : decode cX6_addNumber 70 = .ok (.iinc 6 (-1), 3) := by decide +kernel
theorem dX6_addNumber_73 : decode cX6_addNumber 73 = .ok (.goto (-43), 3) := by decide +kernel
theorem dX6_addNumber_76 : decode cX6_addNumber 76 = .ok (.iload 4, 2) := by decide +kernel
theorem dX6_addNumber_78 : decode cX6_addNumber 78 = .ok (.ifCond .le 11, 3) := by decide +kernel
theorem dX6_addNumber_81 : decode cX6_addNumber 81 = .ok (.aload_n 0, 1) := by decide +kernel
theorem dX6_addNumber_82 : decode cX6_addNumber 82 = .ok (.aload_n 1, 1) := by decide +kernel
theorem dX6_addNumber_83 : decode cX6_addNumber 83 = .ok (.getfield 67, 3) := by decide +kernel
theorem dX6_addNumber_86 : decode cX6_addNumber 86 = .ok (.invokevirtual 30, 3) := by decide +kernel
theorem dX6_addNumber_89 : decode cX6_addNumber 89 = .ok (.iconst 5, 1) := by decide +kernel
theorem dX6_addNumber_90 : decode cX6_addNumber 90 = .ok (.istore 6, 2) := by decide +kernel
theorem dX6_addNumber_92 : decode cX6_addNumber 92 = .ok (.iload 6, 2) := by decide +kernel
theorem dX6_addNumber_94 : decode cX6_addNumber 94 = .ok (.bipush 6, 2) := by decide +kernel
theorem dX6_addNumber_96 : decode cX6_addNumber 96 = .ok (.iload 4, 2) := by decide +kernel
theorem dX6_addNumber_98 : decode cX6_addNumber 98 = .ok (.isub, 1) := by decide +kernel
theorem dX6_addNumber_99 : decode cX6_addNumber 99 = .ok (.if_icmp .lt 22, 3) := by decide +kernel
theorem dX6_addNumber_102 : decode cX6_addNumber 102 = .ok (.aload_n 0, 1) := by decide +kernel
theorem dX6_addNumber_103 : decode cX6_addNumber 103 = .ok (.bipush 48, 2) := by decide +kernel
theorem dX6_addNumber_105 : decode cX6_addNumber 105 = .ok (.lload_n 2, 1) := by decide +kernel
theorem dX6_addNumber_106 : decode cX6_addNumber 106 = .ok (.iload 6, 2) := by decide +kernel
theorem dX6_addNumber_108 : decode cX6_addNumber 108 = .ok (.invokestatic 55, 3) := by decide +kernel
theorem dX6_addNumber_111 : decode cX6_addNumber 111 = .ok (.iadd, 1) := by decide +kernel
theorem dX6_addNumber_112 : decode cX6_addNumber 112 = .ok (.invokevirtual 30, 3) := by decide +kernel
theorem dX6_addNumber_115 : decode cX6_addNumber 115 = .ok (.iinc 6 (-1), 3) := by decide +kernel
theorem dX6_addNumber_118 : decode cX6_addNumber 118 = .ok (.goto (-26), 3) := by decide +kernel
theorem dX6_addNumber_121 : decode cX6_addNumber 121 = .ok (.return_, 1) := by decide +kernel
theorem dX6_writeDay_0 : decode cX6_writeDay 0 = .ok (.iload_n 2, 1) := by decide +kernel
theorem dX6_writeDay_1 : decode cX6_writeDay 1 = .ok (.invokestatic 70, 3) := by decide +kernel
theorem dX6_writeDay_4 : decode cX6_writeDay 4 = .ok (.istore_n 3, 1) := by decide +kernel
theorem dX6_writeDay_5 : decode cX6_writeDay 5 = .ok (.iload_n 3, 1) := by decide +kernel
theorem dX6_writeDay_6 : decode cX6_writeDay 6 = .ok (.invokestatic 75, 3) := by decide +kernel
theorem dX6_writeDay_9 : decode cX6_writeDay 9 = .ok (.istore 4, 2) := by decide +kernel
theorem dX6_writeDay_11 : decode cX6_writeDay 11 = .ok (.iload_n 2, 1) := by decide +kernel
theorem dX6_writeDay_12 : decode cX6_writeDay 12 = .ok (.iload_n 3, 1) := by decide +kernel
theorem dX6_writeDay_13 : decode cX6_writeDay 13 = .ok (.invokestatic 78, 3) := by decide +kernel
theorem dX6_writeDay_16 : decode cX6_writeDay 16 = .ok (.isub, 1) := by decide +kernel
theorem dX6_writeDay_17 : decode cX6_writeDay 17 = .ok (.istore 5, 2) := by decide +kernel
theorem dX6_writeDay_19 : decode cX6_writeDay 19 = .ok (.iconst 1, 1) := by decide +kernel
theorem dX6_writeDay_20 : decode cX6_writeDay 20 = .ok (.istore 6, 2) := by decide +kernel
theorem dX6_writeDay_22 : decode cX6_writeDay 22 = .ok (.iload 6, 2) := by decide +kernel
theorem dX6_writeDay_24 : decode cX6_writeDay 24 = .ok (.bipush 12, 2) := by decide +kernel
theorem dX6_writeDay_26 : decode cX6_writeDay 26 = .ok (.if_icmp .ge 33, 3) := by decide +kernel
theorem dX6_writeDay_29 : decode cX6_writeDay 29 = .ok (.iload 5, 2) := by decide +kernel
theorem dX6_writeDay_31 : decode cX6_writeDay 31 = .ok (.iload 6, 2) := by decide +kernel
theorem dX6_writeDay_33 : decode cX6_writeDay 33 = .ok (.iload 4, 2) := by decide +kernel
theorem dX6_writeDay_35 : decode cX6_writeDay 35 = .ok (.invokestatic 81, 3) := by decide +kernel
theorem dX6_writeDay_38 : decode cX6_writeDay 38 = .ok (.if_icmp .lt 21, 3) := by decide +kernel
theorem dX6_writeDay_41 : decode cX6_writeDay 41 = .ok (.iload 5, 2) := by decide +kernel
theorem dX6_writeDay_43 : decode cX6_writeDay 43 = .ok (.iload 6, 2) := by decide +kernel
theorem dX6_writeDay_45 : decode cX6_writeDay 45 = .ok (.iload 4, 2) := by decide +kernel
theorem dX6_writeDay_47 : decode cX6_writeDay 47 = .ok (.invokestatic 81, 3) := by decide +kernel
theorem dX6_writeDay_50 : decode cX6_writeDay 50 = .ok (.isub, 1) := by decide +kernel
theorem dX6_writeDay_51 : decode cX6_writeDay 51 = .ok (.istore 5, 2) := by decide +kernel
theorem dX6_writeDay_53 : decode cX6_writeDay 53 = .ok (.iinc 6 1, 3) := by decide +kernel
theorem dX6_writeDay_56 : decode cX6_writeDay 56 = .ok (.goto (-34), 3) := by decide +kernel
theorem dX6_writeDay_59 : decode cX6_writeDay 59 = .ok (.aload_n 0, 1) := by decide +kernel
theorem dX6_writeDay_60 : decode cX6_writeDay 60 = .ok (.invokevirtual 19, 3) := by decide +kernel
theorem dX6_writeDay_63 : decode cX6_writeDay 63 = .ok (.iconst 0, 1) := by decide +kernel
theorem dX6_writeDay_64 : decode cX6_writeDay 64 = .ok (.istore 7, 2) := by decide +kernel
theorem dX6_writeDay_66 : decode cX6_writeDay 66 = .ok (.iload 7, 2) := by decide +kernel
theorem dX6_writeDay_68 : decode cX6_writeDay 68 = .ok (.iconst 3, 1) := by decide +kernel
theorem dX6_writeDay_69 : decode cX6_writeDay 69 = .ok (.if_icmp .ge 65, 3) := by decide +kernel
theorem dX6_writeDay_72 : decode cX6_writeDay 72 = .ok (.iload 7, 2) := by decide +kernel
theorem dX6_writeDay_74 : decode cX6_writeDay 74 = .ok (.ifCond .le 11, 3) := by decide +kernel
theorem dX6_writeDay_77 : decode cX6_writeDay 77 = .ok (.aload_n 0, 1) := by decide +kernel
theorem dX6_writeDay_78 : decode cX6_writeDay 78 = .ok (.aload_n 1, 1) := by decide +kernel
theorem dX6_writeDay_79 : decode cX6_writeDay 79 = .ok (.invokevirtual 85, 3) := by decide +kernel
theorem dX6_writeDay_82 : decode cX6_writeDay 82 = .ok (.invokevirtual 30, 3) := by decide +kernel
theorem dX6_writeDay_85 : decode cX6_writeDay 85 = .ok (.aload_n 1, 1) := by decide +kernel
theorem dX6_writeDay_86 : decode cX6_writeDay 86 = .ok (.iload 7, 2) := by decide +kernel
theorem dX6_writeDay_88 : decode cX6_writeDay 88 = .ok (.invokevirtual 88, 3) := by decide +kernel
theorem dX6_writeDay_91 : decode cX6_writeDay 91 = .ok (.istore 8, 2) := by decide +kernel
theorem dX6_writeDay_93 : decode cX6_writeDay 93 = .ok (.iload 8, 2) := by decide +kernel
theorem dX6_writeDay_95 : decode cX6_writeDay 95 = .ok (.iconst 2, 1) := by decide +kernel
theorem dX6_writeDay_96 : decode cX6_writeDay 96 = .ok (.if_icmp .ne 12, 3) := by decide +kernel
theorem dX6_writeDay_99 : decode cX6_writeDay 99 = .ok (.aload_n 0, 1) := by decide +kernel
theorem dX6_writeDay_100 : decode cX6_writeDay 100 = .ok (.iload_n 3, 1) := by decide +kernel
theorem dX6_writeDay_101 : decode cX6_writeDay 101 = .ok (.iconst 4, 1) := by decide +kernel
theorem dX6_writeDay_102 : decode cX6_writeDay 102 = .ok (.invokevirtual 91, 3) := by decide +kernel
theorem dX6_writeDay_105 : decode cX6_writeDay 105 = .ok (.goto 23, 3) := by decide +kernel
theorem dX6_writeDay_108 : decode cX6_writeDay 108 = .ok (.aload_n 0, 1) := by decide +kernel
theorem dX6_writeDay_109 : decode cX6_writeDay 109 = .ok (.iload 8, 2) := by decide +kernel
theorem dX6_writeDay_111 : decode cX6_writeDay 111 = .ok (.iconst 1, 1) := by decide +kernel
theorem dX6_writeDay_112 : decode cX6_writeDay 112 = .ok (.if_icmp .ne 8, 3) := by decide +kernel
theorem dX6_writeDay_115 : decode cX6_writeDay 115 = .ok (.iload 6, 2) := by decide +kernel
theorem dX6_writeDay_117 : decode cX6_writeDay 117 = .ok (.goto 7, 3) := by decide +kernel
theorem dX6_writeDay_120 : decode cX6_writeDay 120 = .ok (.iload 5, 2) := by decide +kernel
theorem dX6_writeDay_122 : decode cX6_writeDay 122 = .ok (.iconst 1, 1) := by decide +kernel
theorem dX6_writeDay_123 : decode cX6_writeDay 123 = .ok (.iadd, 1) := by decide +kernel
theorem dX6_writeDay_124 : decode cX6_writeDay 124 = .ok (.iconst 2, 1) := by decide +kernel
theorem dX6_writeDay_125 : decode cX6_writeDay 125 = .ok (.invokevirtual 91, 3) := by decide +kernel
theorem dX6_writeDay_128 : decode cX6_writeDay 128 = .ok (.iinc 7 1, 3) := by decide +kernel
theorem dX6_writeDay_131 : decode cX6_writeDay 131 = .ok (.goto (-65), 3) := by decide +kernel
theorem dX6_writeDay_134 : decode cX6_writeDay 134 = .ok (.return_, 1) := by decide +kernel
theorem dX7_init_0 : decode cX7_init 0 = .ok (.aload_n 0, 1) := by decide +kernel
theorem dX7_init_1 : decode cX7_init 1 = .ok (.invokespecial 1, 3) := by decide +kernel
theorem dX7_init_4 : decode cX7_init 4 = .ok (.aload_n 0, 1) := by decide +kernel
theorem dX7_init_5 : decode cX7_init 5 = .ok (.new 7, 3) := by decide +kernel
theorem dX7_init_8 : decode cX7_init 8 = .ok (.dup, 1) := by decide +kernel
theorem dX7_init_9 : decode cX7_init 9 = .ok (.invokespecial 9, 3) := by decide +kernel
theorem dX7_init_12 : decode cX7_init 12 = .ok (.putfield 10, 3) := by decide +kernel
theorem dX7_init_15 : decode cX7_init 15 = .ok (.aload_n 0, 1) := by decide +kernel
theorem dX7_init_16 : decode cX7_init 16 = .ok (.iconst 3, 1) := by decide +kernel
theorem dX7_init_17 : decode cX7_init 17 = .ok (.anewarray 7, 3) := by decide +kernel
theorem dX7_init_20 : decode cX7_init 20 = .ok (.putfield 16, 3) := by decide +kernel
theorem dX7_init_23 : decode cX7_init 23 = .ok (.aload_n 0, 1) := by decide +kernel
theorem dX7_init_24 : decode cX7_init 24 = .ok (.new 20, 3) := by decide +kernel
theorem dX7_init_27 : decode cX7_init 27 = .ok (.dup, 1) := by decide +kernel
theorem dX7_init_28 : decode cX7_init 28 = .ok (.invokespecial 22, 3) := by decide +kernel
theorem dX7_init_31 : decode cX7_init 31 = .ok (.putfield 23, 3) := by decide +kernel
theorem dX7_init_34 : decode cX7_init 34 = .ok (.aload_n 0, 1) := by decide +kernel
theorem dX7_init_35 : decode cX7_init 35 = .ok (.new 27, 3) := by decide +kernel
theorem dX7_init_38 : decode cX7_init 38 = .ok (.dup, 1) := by decide +kernel
theorem dX7_init_39 : decode cX7_init 39 = .ok (.bipush 100, 2) := by decide +kernel
theorem dX7_init_41 : decode cX7_init 41 = .ok (.invokespecial 29, 3) := by decide +kernel
theorem dX7_init_44 : decode cX7_init 44 = .ok (.putfield 32, 3) := by decide +kernel
theorem dX7_init_47 : decode cX7_init 47 = .ok (.return_, 1) := by decide +kernel
theorem dX7_land_0 : decode cX7_land 0 = .ok (.aload_n 0, 1) := by decide +kernel
theorem dX7_land_1 : decode cX7_land 1 = .ok (.getfield 10, 3) := by decide +kernel
theorem dX7_land_4 : decode cX7_land 4 = .ok (.getfield 36, 3) := by decide +kernel
theorem dX7_land_7 : decode cX7_land 7 = .ok (.bipush 6, 2) := by decide +kernel
theorem dX7_land_9 : decode cX7_land 9 = .ok (.if_icmp .ge 32, 3) := by decide +kernel
theorem dX7_land_12 : decode cX7_land 12 = .ok (.iload_n 1, 1) := by decide +kernel
theorem dX7_land_13 : decode cX7_land 13 = .ok (.iload_n 2, 1) := by decide +kernel
theorem dX7_land_14 : decode cX7_land 14 = .ok (.iload_n 3, 1) := by decide +kernel
theorem dX7_land_15 : decode cX7_land 15 = .ok (.iload 4, 2) := by decide +kernel
theorem dX7_land_17 : decode cX7_land 17 = .ok (.invokestatic 40, 3) := by decide +kernel
theorem dX7_land_20 : decode cX7_land 20 = .ok (.ifCond .eq 21, 3) := by decide +kernel
theorem dX7_land_23 : decode cX7_land 23 = .ok (.iload 5, 2) := by decide +kernel
theorem dX7_land_25 : decode cX7_land 25 = .ok (.invokestatic 46, 3) := by decide +kernel
theorem dX7_land_28 : decode cX7_land 28 = .ok (.ifCond .eq 13, 3) := by decide +kernel
theorem dX7_land_31 : decode cX7_land 31 = .ok (.iload 7, 2) := by decide +kernel
theorem dX7_land_33 : decode cX7_land 33 = .ok (.iload 8, 2) := by decide +kernel
theorem dX7_land_35 : decode cX7_land 35 = .ok (.invokestatic 50, 3) := by decide +kernel
theorem dX7_land_38 : decode cX7_land 38 = .ok (.ifCond .ne 5, 3) := by decide +kernel
theorem dX7_land_41 : decode cX7_land 41 = .ok (.iconst (-1), 1) := by decide +kernel
theorem dX7_land_42 : decode cX7_land 42 = .ok (.ireturn, 1) := by decide +kernel
theorem dX7_land_43 : decode cX7_land 43 = .ok (.new 41, 3) := by decide +kernel
theorem dX7_land_46 : decode cX7_land 46 = .ok (.dup, 1) := by decide +kernel
theorem dX7_land_47 : decode cX7_land 47 = .ok (.iload_n 1, 1) := by decide +kernel
theorem dX7_land_48 : decode cX7_land 48 = .ok (.iload_n 2, 1) := by decide +kernel
theorem dX7_land_49 : decode cX7_land 49 = .ok (.iload_n 3, 1) := by decide +kernel
theorem dX7_land_50 : decode cX7_land 50 = .ok (.iload 4, 2) := by decide +kernel
theorem dX7_land_52 : decode cX7_land 52 = .ok (.iload 5, 2) := by decide +kernel
theorem dX7_land_54 : decode cX7_land 54 = .ok (.iload 6, 2) := by decide +kernel
theorem dX7_land_56 : decode cX7_land 56 = .ok (.invokespecial 54, 3) := by decide +kernel
theorem dX7_land_59 : decode cX7_land 59 = .ok (.astore 9, 2) := by decide +kernel
theorem dX7_land_61 : decode cX7_land 61 = .ok (.aload 9, 2) := by decide +kernel
theorem dX7_land_63 : decode cX7_land 63 = .ok (.iload 7, 2) := by decide +kernel
theorem dX7_land_65 : decode cX7_land 65 = .ok (.iload 8, 2) := by decide +kernel
theorem dX7_land_67 : decode cX7_land 67 = .ok (.invokevirtual 57, 3) := by decide +kernel
theorem dX7_land_70 : decode cX7_land 70 = .ok (.aload_n 0, 1) := by decide +kernel
theorem dX7_land_71 : decode cX7_land 71 = .ok (.getfield 10, 3) := by decide +kernel
theorem dX7_land_74 : decode cX7_land 74 = .ok (.aload 9, 2) := by decide +kernel
theorem dX7_land_76 : decode cX7_land 76 = .ok (.invokevirtual 61, 3) := by decide +kernel
theorem dX7_land_79 : decode cX7_land 79 = .ok (.ireturn, 1) := by decide +kernel
theorem dX7_key_0 : decode cX7_key 0 = .ok (.iload_n 1, 1) := by decide +kernel
theorem dX7_key_1 : decode cX7_key 1 = .ok (.ifCond .lt 25, 3) := by decide +kernel
theorem dX7_key_4 : decode cX7_key 4 = .ok (.iload_n 1, 1) := by decide +kernel
theorem dX7_key_5 : decode cX7_key 5 = .ok (.sipush 255, 3) := by decide +kernel
theorem dX7_key_8 : decode cX7_key 8 = .ok (.if_icmp .gt 18, 3) := by decide +kernel
theorem dX7_key_11 : decode cX7_key 11 = .ok (.aload_n 0, 1) := by decide +kernel
theorem dX7_key_12 : decode cX7_key 12 = .ok (.getfield 10, 3) := by decide +kernel
theorem dX7_key_15 : decode cX7_key 15 = .ok (.getfield 65, 3) := by decide +kernel
theorem dX7_key_18 : decode cX7_key 18 = .ok (.invokevirtual 68, 3) := by decide +kernel
theorem dX7_key_21 : decode cX7_key 21 = .ok (.bipush 60, 2) := by decide +kernel
theorem dX7_key_23 : decode cX7_key 23 = .ok (.if_icmp .lt 5, 3) := by decide +kernel
theorem dX7_key_26 : decode cX7_key 26 = .ok (.iconst (-1), 1) := by decide +kernel
theorem dX7_key_27 : decode cX7_key 27 = .ok (.ireturn, 1) := by decide +kernel
theorem dX7_key_28 : decode cX7_key 28 = .ok (.aload_n 0, 1) := by decide +kernel
theorem dX7_key_29 : decode cX7_key 29 = .ok (.getfield 10, 3) := by decide +kernel
theorem dX7_key_32 : decode cX7_key 32 = .ok (.getfield 65, 3) := by decide +kernel
theorem dX7_key_35 : decode cX7_key 35 = .ok (.iload_n 1, 1) := by decide +kernel
theorem dX7_key_36 : decode cX7_key 36 = .ok (.invokevirtual 72, 3) := by decide +kernel
theorem dX7_key_39 : decode cX7_key 39 = .ok (.aload_n 0, 1) := by decide +kernel
theorem dX7_key_40 : decode cX7_key 40 = .ok (.getfield 10, 3) := by decide +kernel
theorem dX7_key_43 : decode cX7_key 43 = .ok (.getfield 65, 3) := by decide +kernel
theorem dX7_key_46 : decode cX7_key 46 = .ok (.invokevirtual 68, 3) := by decide +kernel
theorem dX7_key_49 : decode cX7_key 49 = .ok (.ireturn, 1) := by decide +kernel
theorem dX7_keys_0 : decode cX7_keys 0 = .ok (.iconst 0, 1) := by decide +kernel
theorem dX7_keys_1 : decode cX7_keys 1 = .ok (.istore_n 2, 1) := by decide +kernel
theorem dX7_keys_2 : decode cX7_keys 2 = .ok (.iload_n 2, 1) := by decide +kernel
theorem dX7_keys_3 : decode cX7_keys 3 = .ok (.iconst 4, 1) := by decide +kernel
theorem dX7_keys_4 : decode cX7_keys 4 = .ok (.if_icmp .ge 17, 3) := by decide +kernel
theorem dX7_keys_7 : decode cX7_keys 7 = .ok (.iload_n 1, 1) := by decide +kernel
theorem dX7_keys_8 : decode cX7_keys 8 = .ok (.iload_n 2, 1) := by decide +kernel
theorem dX7_keys_9 : decode cX7_keys 9 = .ok (.invokestatic 75, 3) := by decide +kernel
theorem dX7_keys_12 : decode cX7_keys 12 = .ok (.ifCond .eq 9, 3) := by decide +kernel
theorem dX7_keys_15 : decode cX7_keys 15 = .ok (.iinc 2 1, 3) := by decide +kernel
theorem dX7_keys_18 : decode cX7_keys 18 = .ok (.goto (-16), 3) := by decide +kernel
theorem dX7_keys_21 : decode cX7_keys 21 = .ok (.aload_n 0, 1) := by decide +kernel
theorem dX7_keys_22 : decode cX7_keys 22 = .ok (.getfield 10, 3) := by decide +kernel
theorem dX7_keys_25 : decode cX7_keys 25 = .ok (.getfield 65, 3) := by decide +kernel
theorem dX7_keys_28 : decode cX7_keys 28 = .ok (.invokevirtual 68, 3) := by decide +kernel
theorem dX7_keys_31 : decode cX7_keys 31 = .ok (.iload_n 2, 1) := by decide +kernel
theorem dX7_keys_32 : decode cX7_keys 32 = .ok (.iadd, 1) := by decide +kernel
theorem dX7_keys_33 : decode cX7_keys 33 = .ok (.bipush 60, 2) := by decide +kernel
theorem dX7_keys_35 : decode cX7_keys 35 = .ok (.if_icmp .le 5, 3) := by decide +kernel
theorem dX7_keys_38 : decode cX7_keys 38 = .ok (.iconst (-1), 1) := by decide +kernel
theorem dX7_keys_39 : decode cX7_keys 39 = .ok (.ireturn, 1) := by decide +kernel
theorem dX7_keys_40 : decode cX7_keys 40 = .ok (.iconst 0, 1) := by decide +kernel
theorem dX7_keys_41 : decode cX7_keys 41 = .ok (.istore_n 3, 1) := by decide +kernel
theorem dX7_keys_42 : decode cX7_keys 42 = .ok (.iload_n 3, 1) := by decide +kernel
theorem dX7_keys_43 : decode cX7_keys 43 = .ok (.iload_n 2, 1) := by decide +kernel
theorem dX7_keys_44 : decode cX7_keys 44 = .ok (.if_icmp .ge 24, 3) := by decide +kernel
theorem dX7_keys_47 : decode cX7_keys 47 = .ok (.aload_n 0, 1) := by decide +kernel
theorem dX7_keys_48 : decode cX7_keys 48 = .ok (.getfield 10, 3) := by decide +kernel
theorem dX7_keys_51 : decode cX7_keys 51 = .ok (.getfield 65, 3) := by decide +kernel
theorem dX7_keys_54 : decode cX7_keys 54 = .ok (.iload_n 1, 1) := by decide +kernel
theorem dX7_keys_55 : decode cX7_keys 55 = .ok (.iload_n 3, 1) := by decide +kernel
theorem dX7_keys_56 : decode cX7_keys 56 = .ok (.invokestatic 75, 3) := by decide +kernel
theorem dX7_keys_59 : decode cX7_keys 59 = .ok (.invokevirtual 72, 3) := by decide +kernel
theorem dX7_keys_62 : decode cX7_keys 62 = .ok (.iinc 3 1, 3) := by decide +kernel
theorem dX7_keys_65 : decode cX7_keys 65 = .ok (.goto (-23), 3) := by decide +kernel
theorem dX7_keys_68 : decode cX7_keys 68 = .ok (.aload_n 0, 1) := by decide +kernel
theorem dX7_keys_69 : decode cX7_keys 69 = .ok (.getfield 10, 3) := by decide +kernel
theorem dX7_keys_72 : decode cX7_keys 72 = .ok (.getfield 65, 3) := by decide +kernel
theorem dX7_keys_75 : decode cX7_keys 75 = .ok (.invokevirtual 68, 3) := by decide +kernel
theorem dX7_keys_78 : decode cX7_keys 78 = .ok (.ireturn, 1) := by decide +kernel
theorem dX7_undo_0 : decode cX7_undo 0 = .ok (.iload_n 1, 1) := by decide +kernel
theorem dX7_undo_1 : decode cX7_undo 1 = .ok (.ifCond .lt 17, 3) := by decide +kernel
theorem dX7_undo_4 : decode cX7_undo 4 = .ok (.iload_n 1, 1) := by decide +kernel
theorem dX7_undo_5 : decode cX7_undo 5 = .ok (.aload_n 0, 1) := by decide +kernel
theorem dX7_undo_6 : decode cX7_undo 6 = .ok (.getfield 10, 3) := by decide +kernel
theorem dX7_undo_9 : decode cX7_undo 9 = .ok (.getfield 65, 3) := by decide +kernel
theorem dX7_undo_12 : decode cX7_undo 12 = .ok (.invokevirtual 68, 3) := by decide +kernel
theorem dX7_undo_15 : decode cX7_undo 15 = .ok (.if_icmp .le 5, 3) := by decide +kernel
theorem dX7_undo_18 : decode cX7_undo 18 = .ok (.iconst (-1), 1) := by decide +kernel
theorem dX7_undo_19 : decode cX7_undo 19 = .ok (.ireturn, 1) := by decide +kernel
theorem dX7_undo_20 : decode cX7_undo 20 = .ok (.aload_n 0, 1) := by decide +kernel
theorem dX7_undo_21 : decode cX7_undo 21 = .ok (.getfield 10, 3) := by decide +kernel
theorem dX7_undo_24 : decode cX7_undo 24 = .ok (.getfield 65, 3) := by decide +kernel
theorem dX7_undo_27 : decode cX7_undo 27 = .ok (.iload_n 1, 1) := by decide +kernel
theorem dX7_undo_28 : decode cX7_undo 28 = .ok (.invokevirtual 79, 3) := by decide +kernel
theorem dX7_undo_31 : decode cX7_undo 31 = .ok (.aload_n 0, 1) := by decide +kernel
theorem dX7_undo_32 : decode cX7_undo 32 = .ok (.getfield 10, 3) := by decide +kernel
theorem dX7_undo_35 : decode cX7_undo 35 = .ok (.getfield 65, 3) := by decide +kernel
theorem dX7_undo_38 : decode cX7_undo 38 = .ok (.invokevirtual 68, 3) := by decide +kernel
theorem dX7_undo_41 : decode cX7_undo 41 = .ok (.ireturn, 1) := by decide +kernel
theorem dX7_bounds_0 : decode cX7_bounds 0 = .ok (.iload_n 1, 1) := by decide +kernel
theorem dX7_bounds_1 : decode cX7_bounds 1 = .ok (.invokestatic 82, 3) := by decide +kernel
theorem dX7_bounds_4 : decode cX7_bounds 4 = .ok (.ifCond .eq 10, 3) := by decide +kernel
theorem dX7_bounds_7 : decode cX7_bounds 7 = .ok (.lload_n 2, 1) := by decide +kernel
theorem dX7_bounds_8 : decode cX7_bounds 8 = .ok (.lload 4, 2) := by decide +kernel
theorem dX7_bounds_10 : decode cX7_bounds 10 = .ok (.lcmp, 1) := by decide +kernel
theorem dX7_bounds_11 : decode cX7_bounds 11 = .ok (.ifCond .le 5, 3) := by decide +kernel
theorem dX7_bounds_14 : decode cX7_bounds 14 = .ok (.iconst 0, 1) := by decide +kernel
theorem dX7_bounds_15 : decode cX7_bounds 15 = .ok (.ireturn, 1) := by decide +kernel
theorem dX7_bounds_16 : decode cX7_bounds 16 = .ok (.aload_n 0, 1) := by decide +kernel
theorem dX7_bounds_17 : decode cX7_bounds 17 = .ok (.getfield 10, 3) := by decide +kernel
theorem dX7_bounds_20 : decode cX7_bounds 20 = .ok (.iload_n 1, 1) := by decide +kernel
theorem dX7_bounds_21 : decode cX7_bounds 21 = .ok (.lload_n 2, 1) := by decide +kernel
theorem dX7_bounds_22 : decode cX7_bounds 22 = .ok (.lload 4, 2) := by decide +kernel
theorem dX7_bounds_24 : decode cX7_bounds 24 = .ok (.invokevirtual 85, 3) := by decide +kernel
theorem dX7_bounds_27 : decode cX7_bounds 27 = .ok (.iconst 1, 1) := by decide +kernel
theorem dX7_bounds_28 : decode cX7_bounds 28 = .ok (.ireturn, 1) := by decide +kernel
theorem dX7_value_0 : decode cX7_value 0 = .ok (.aload_n 0, 1) := by decide +kernel
theorem dX7_value_1 : decode cX7_value 1 = .ok (.getfield 10, 3) := by decide +kernel
theorem dX7_value_4 : decode cX7_value 4 = .ok (.iload_n 1, 1) := by decide +kernel
theorem dX7_value_5 : decode cX7_value 5 = .ok (.invokevirtual 89, 3) := by decide +kernel
theorem dX7_value_8 : decode cX7_value 8 = .ok (.astore_n 3, 1) := by decide +kernel
theorem dX7_value_9 : decode cX7_value 9 = .ok (.aload_n 3, 1) := by decide +kernel
theorem dX7_value_10 : decode cX7_value 10 = .ok (.ifnull 10, 3) := by decide +kernel
theorem dX7_value_13 : decode cX7_value 13 = .ok (.iload_n 2, 1) := by decide +kernel
theorem dX7_value_14 : decode cX7_value 14 = .ok (.invokestatic 82, 3) := by decide +kernel
theorem dX7_value_17 : decode cX7_value 17 = .ok (.ifCond .ne 7, 3) := by decide +kernel
theorem dX7_value_20 : decode cX7_value 20 = .ok (.ldc2_w 93, 3) := by decide +kernel
theorem dX7_value_23 : decode cX7_value 23 = .ok (.lreturn, 1) := by decide +kernel
theorem dX7_value_24 : decode cX7_value 24 = .ok (.aload_n 0, 1) := by decide +kernel
theorem dX7_value_25 : decode cX7_value 25 = .ok (.aload_n 0, 1) := by decide +kernel
theorem dX7_value_26 : decode cX7_value 26 = .ok (.getfield 10, 3) := by decide +kernel
theorem dX7_value_29 : decode cX7_value 29 = .ok (.getfield 65, 3) := by decide +kernel
theorem dX7_value_32 : decode cX7_value 32 = .ok (.invokevirtual 68, 3) := by decide +kernel
theorem dX7_value_35 : decode cX7_value 35 = .ok (.aload_n 3, 1) := by decide +kernel
theorem dX7_value_36 : decode cX7_value 36 = .ok (.iload_n 2, 1) := by decide +kernel
theorem dX7_value_37 : decode cX7_value 37 = .ok (.invokevirtual 95, 3) := by decide +kernel
theorem dX7_value_40 : decode cX7_value 40 = .ok (.istore 4, 2) := by decide +kernel
theorem dX7_value_42 : decode cX7_value 42 = .ok (.aload_n 0, 1) := by decide +kernel
theorem dX7_value_43 : decode cX7_value 43 = .ok (.iload 4, 2) := by decide +kernel
theorem dX7_value_45 : decode cX7_value 45 = .ok (.iload_n 2, 1) := by decide +kernel
theorem dX7_value_46 : decode cX7_value 46 = .ok (.invokevirtual 99, 3) := by decide +kernel
theorem dX7_value_49 : decode cX7_value 49 = .ok (.lreturn, 1) := by decide +kernel
theorem dX7_open_0 : decode cX7_open 0 = .ok (.aload_n 0, 1) := by decide +kernel
theorem dX7_open_1 : decode cX7_open 1 = .ok (.getfield 10, 3) := by decide +kernel
theorem dX7_open_4 : decode cX7_open 4 = .ok (.iload_n 1, 1) := by decide +kernel
theorem dX7_open_5 : decode cX7_open 5 = .ok (.invokevirtual 89, 3) := by decide +kernel
theorem dX7_open_8 : decode cX7_open 8 = .ok (.astore_n 3, 1) := by decide +kernel
theorem dX7_open_9 : decode cX7_open 9 = .ok (.aload_n 3, 1) := by decide +kernel
theorem dX7_open_10 : decode cX7_open 10 = .ok (.ifnull 34, 3) := by decide +kernel
theorem dX7_open_13 : decode cX7_open 13 = .ok (.iload_n 2, 1) := by decide +kernel
theorem dX7_open_14 : decode cX7_open 14 = .ok (.invokestatic 82, 3) := by decide +kernel
theorem dX7_open_17 : decode cX7_open 17 = .ok (.ifCond .eq 27, 3) := by decide +kernel
theorem dX7_open_20 : decode cX7_open 20 = .ok (.aload_n 0, 1) := by decide +kernel
theorem dX7_open_21 : decode cX7_open 21 = .ok (.aload_n 0, 1) := by decide +kernel
theorem dX7_open_22 : decode cX7_open 22 = .ok (.getfield 10, 3) := by decide +kernel
theorem dX7_open_25 : decode cX7_open 25 = .ok (.getfield 65, 3) := by decide +kernel
theorem dX7_open_28 : decode cX7_open 28 = .ok (.invokevirtual 68, 3) := by decide +kernel
theorem dX7_open_31 : decode cX7_open 31 = .ok (.aload_n 3, 1) := by decide +kernel
theorem dX7_open_32 : decode cX7_open 32 = .ok (.iload_n 2, 1) := by decide +kernel
theorem dX7_open_33 : decode cX7_open 33 = .ok (.invokevirtual 95, 3) := by decide +kernel
theorem dX7_open_36 : decode cX7_open 36 = .ok (.iconst 1, 1) := by decide +kernel
theorem dX7_open_37 : decode cX7_open 37 = .ok (.if_icmp .ne 7, 3) := by decide +kernel
theorem dX7_open_40 : decode cX7_open 40 = .ok (.iconst 1, 1) := by decide +kernel
theorem dX7_open_41 : decode cX7_open 41 = .ok (.goto 4, 3) := by decide +kernel
theorem dX7_open_44 : decode cX7_open 44 = .ok (.iconst 0, 1) := by decide +kernel
theorem dX7_open_45 : decode cX7_open 45 = .ok (.ireturn, 1) := by decide +kernel
theorem dX7_good_0 : decode cX7_good 0 = .ok (.aload_n 0, 1) := by decide +kernel
theorem dX7_good_1 : decode cX7_good 1 = .ok (.getfield 10, 3) := by decide +kernel
theorem dX7_good_4 : decode cX7_good 4 = .ok (.iload_n 1, 1) := by decide +kernel
theorem dX7_good_5 : decode cX7_good 5 = .ok (.invokevirtual 89, 3) := by decide +kernel
theorem dX7_good_8 : decode cX7_good 8 = .ok (.astore_n 3, 1) := by decide +kernel
theorem dX7_good_9 : decode cX7_good 9 = .ok (.aload_n 3, 1) := by decide +kernel
theorem dX7_good_10 : decode cX7_good 10 = .ok (.ifnull 10, 3) := by decide +kernel
theorem dX7_good_13 : decode cX7_good 13 = .ok (.iload_n 2, 1) := by decide +kernel
theorem dX7_good_14 : decode cX7_good 14 = .ok (.invokestatic 82, 3) := by decide +kernel
theorem dX7_good_17 : decode cX7_good 17 = .ok (.ifCond .ne 5, 3) := by decide +kernel
theorem dX7_good_20 : decode cX7_good 20 = .ok (.iconst (-1), 1) := by decide +kernel
theorem dX7_good_21 : decode cX7_good 21 = .ok (.ireturn, 1) := by decide +kernel
theorem dX7_good_22 : decode cX7_good 22 = .ok (.iconst 0, 1) := by decide +kernel
theorem dX7_good_23 : decode cX7_good 23 = .ok (.istore 4, 2) := by decide +kernel
theorem dX7_good_25 : decode cX7_good 25 = .ok (.iload 4, 2) := by decide +kernel
theorem dX7_good_27 : decode cX7_good 27 = .ok (.aload_n 0, 1) := by decide +kernel
theorem dX7_good_28 : decode cX7_good 28 = .ok (.getfield 10, 3) := by decide +kernel
theorem dX7_good_31 : decode cX7_good 31 = .ok (.getfield 65, 3) := by decide +kernel
theorem dX7_good_34 : decode cX7_good 34 = .ok (.invokevirtual 68, 3) := by decide +kernel
theorem dX7_good_37 : decode cX7_good 37 = .ok (.if_icmp .ge 23, 3) := by decide +kernel
theorem dX7_good_40 : decode cX7_good 40 = .ok (.aload_n 0, 1) := by decide +kernel
theorem dX7_good_41 : decode cX7_good 41 = .ok (.iload 4, 2) := by decide +kernel
theorem dX7_good_43 : decode cX7_good 43 = .ok (.iconst 1, 1) := by decide +kernel
theorem dX7_good_44 : decode cX7_good 44 = .ok (.iadd, 1) := by decide +kernel
theorem dX7_good_45 : decode cX7_good 45 = .ok (.aload_n 3, 1) := by decide +kernel
theorem dX7_good_46 : decode cX7_good 46 = .ok (.iload_n 2, 1) := by decide +kernel
theorem dX7_good_47 : decode cX7_good 47 = .ok (.invokevirtual 95, 3) := by decide +kernel
theorem dX7_good_50 : decode cX7_good 50 = .ok (.iconst 2, 1) := by decide +kernel
theorem dX7_good_51 : decode cX7_good 51 = .ok (.if_icmp .eq 9, 3) := by decide +kernel
theorem dX7_good_54 : decode cX7_good 54 = .ok (.iinc 4 1, 3) := by decide +kernel
theorem dX7_good_57 : decode cX7_good 57 = .ok (.goto (-32), 3) := by decide +kernel
theorem dX7_good_60 : decode cX7_good 60 = .ok (.iload 4, 2) := by decide +kernel
theorem dX7_good_62 : decode cX7_good 62 = .ok (.ireturn, 1) := by decide +kernel
theorem dX7_state_0 : decode cX7_state 0 = .ok (.iload_n 2, 1) := by decide +kernel
theorem dX7_state_1 : decode cX7_state 1 = .ok (.invokestatic 82, 3) := by decide +kernel
theorem dX7_state_4 : decode cX7_state 4 = .ok (.ifCond .ne 5, 3) := by decide +kernel
theorem dX7_state_7 : decode cX7_state 7 = .ok (.iconst (-1), 1) := by decide +kernel
theorem dX7_state_8 : decode cX7_state 8 = .ok (.ireturn, 1) := by decide +kernel
theorem dX7_state_9 : decode cX7_state 9 = .ok (.iconst 0, 1) := by decide +kernel
theorem dX7_state_10 : decode cX7_state 10 = .ok (.istore_n 3, 1) := by decide +kernel
theorem dX7_state_11 : decode cX7_state 11 = .ok (.iconst 1, 1) := by decide +kernel
theorem dX7_state_12 : decode cX7_state 12 = .ok (.istore 4, 2) := by decide +kernel
theorem dX7_state_14 : decode cX7_state 14 = .ok (.iconst 0, 1) := by decide +kernel
theorem dX7_state_15 : decode cX7_state 15 = .ok (.istore 5, 2) := by decide +kernel
theorem dX7_state_17 : decode cX7_state 17 = .ok (.lconst 0, 1) := by decide +kernel
theorem dX7_state_18 : decode cX7_state 18 = .ok (.lstore 6, 2) := by decide +kernel
theorem dX7_state_20 : decode cX7_state 20 = .ok (.iconst 0, 1) := by decide +kernel
theorem dX7_state_21 : decode cX7_state 21 = .ok (.istore 8, 2) := by decide +kernel
theorem dX7_state_23 : decode cX7_state 23 = .ok (.iload 8, 2) := by decide +kernel
theorem dX7_state_25 : decode cX7_state 25 = .ok (.bipush 6, 2) := by decide +kernel
theorem dX7_state_27 : decode cX7_state 27 = .ok (.if_icmp .ge 134, 3) := by decide +kernel
theorem dX7_state_30 : decode cX7_state 30 = .ok (.iload_n 1, 1) := by decide +kernel
theorem dX7_state_31 : decode cX7_state 31 = .ok (.iload 8, 2) := by decide +kernel
theorem dX7_state_33 : decode cX7_state 33 = .ok (.ishr, 1) := by decide +kernel
theorem dX7_state_34 : decode cX7_state 34 = .ok (.iconst 1, 1) := by decide +kernel
theorem dX7_state_35 : decode cX7_state 35 = .ok (.iand, 1) := by decide +kernel
theorem dX7_state_36 : decode cX7_state 36 = .ok (.iconst 1, 1) := by decide +kernel
theorem dX7_state_37 : decode cX7_state 37 = .ok (.if_icmp .ne 15, 3) := by decide +kernel
theorem dX7_state_40 : decode cX7_state 40 = .ok (.aload_n 0, 1) := by decide +kernel
theorem dX7_state_41 : decode cX7_state 41 = .ok (.getfield 10, 3) := by decide +kernel
theorem dX7_state_44 : decode cX7_state 44 = .ok (.iload 8, 2) := by decide +kernel
theorem dX7_state_46 : decode cX7_state 46 = .ok (.invokevirtual 89, 3) := by decide +kernel
theorem dX7_state_49 : decode cX7_state 49 = .ok (.goto 4, 3) := by decide +kernel
theorem dX7_state_52 : decode cX7_state 52 = .ok (.aconst_null, 1) := by decide +kernel
theorem dX7_state_53 : decode cX7_state 53 = .ok (.astore 9, 2) := by decide +kernel
theorem dX7_state_55 : decode cX7_state 55 = .ok (.aload 9, 2) := by decide +kernel
theorem dX7_state_57 : decode cX7_state 57 = .ok (.ifnonnull 7, 3) := by decide +kernel
theorem dX7_state_60 : decode cX7_state 60 = .ok (.iconst 2, 1) := by decide +kernel
theorem dX7_state_61 : decode cX7_state 61 = .ok (.goto 20, 3) := by decide +kernel
theorem dX7_state_64 : decode cX7_state 64 = .ok (.aload_n 0, 1) := by decide +kernel
theorem dX7_state_65 : decode cX7_state 65 = .ok (.aload_n 0, 1) := by decide +kernel
theorem dX7_state_66 : decode cX7_state 66 = .ok (.getfield 10, 3) := by decide +kernel
theorem dX7_state_69 : decode cX7_state 69 = .ok (.getfield 65, 3) := by decide +kernel
theorem dX7_state_72 : decode cX7_state 72 = .ok (.invokevirtual 68, 3) := by decide +kernel
theorem dX7_state_75 : decode cX7_state 75 = .ok (.aload 9, 2) := by decide +kernel
theorem dX7_state_77 : decode cX7_state 77 = .ok (.iload_n 2, 1) := by decide +kernel
theorem dX7_state_78 : decode cX7_state 78 = .ok (.invokevirtual 95, 3) := by decide +kernel
theorem dX7_state_81 : decode cX7_state 81 = .ok (.istore 10, 2) := by decide +kernel
theorem dX7_state_83 : decode cX7_state 83 = .ok (.aload_n 0, 1) := by decide +kernel
theorem dX7_state_84 : decode cX7_state 84 = .ok (.iload 10, 2) := by decide +kernel
theorem dX7_state_86 : decode cX7_state 86 = .ok (.iload_n 2, 1) := by decide +kernel
theorem dX7_state_87 : decode cX7_state 87 = .ok (.invokevirtual 99, 3) := by decide +kernel
theorem dX7_state_90 : decode cX7_state 90 = .ok (.lstore 11, 2) := by decide +kernel
theorem dX7_state_92 : decode cX7_state 92 = .ok (.lload 11, 2) := by decide +kernel
theorem dX7_state_94 : decode cX7_state 94 = .ok (.ldc2_w 93, 3) := by decide +kernel
theorem dX7_state_97 : decode cX7_state 97 = .ok (.lcmp, 1) := by decide +kernel
theorem dX7_state_98 : decode cX7_state 98 = .ok (.ifCond .ne 24, 3) := by decide +kernel
theorem dX7_state_101 : decode cX7_state 101 = .ok (.iload 5, 2) := by decide +kernel
theorem dX7_state_103 : decode cX7_state 103 = .ok (.ifCond .ne 9, 3) := by decide +kernel
theorem dX7_state_106 : decode cX7_state 106 = .ok (.iload 10, 2) := by decide +kernel
theorem dX7_state_108 : decode cX7_state 108 = .ok (.iconst 2, 1) := by decide +kernel
theorem dX7_state_109 : decode cX7_state 109 = .ok (.if_icmp .eq 7, 3) := by decide +kernel
theorem dX7_state_112 : decode cX7_state 112 = .ok (.iconst 1, 1) := by decide +kernel
theorem dX7_state_113 : decode cX7_state 113 = .ok (.goto 4, 3) := by decide +kernel
theorem dX7_state_116 : decode cX7_state 116 = .ok (.iconst 0, 1) := by decide +kernel
theorem dX7_state_117 : decode cX7_state 117 = .ok (.istore 5, 2) := by decide +kernel
theorem dX7_state_119 : decode cX7_state 119 = .ok (.goto 36, 3) := by decide +kernel
theorem dX7_state_122 : decode cX7_state 122 = .ok (.iload_n 3, 1) := by decide +kernel
theorem dX7_state_123 : decode cX7_state 123 = .ok (.ifCond .eq 26, 3) := by decide +kernel
theorem dX7_state_126 : decode cX7_state 126 = .ok (.iload 4, 2) := by decide +kernel
theorem dX7_state_128 : decode cX7_state 128 = .ok (.ifCond .eq 15, 3) := by decide +kernel
theorem dX7_state_131 : decode cX7_state 131 = .ok (.lload 11, 2) := by decide +kernel
theorem dX7_state_133 : decode cX7_state 133 = .ok (.lload 6, 2) := by decide +kernel
theorem dX7_state_135 : decode cX7_state 135 = .ok (.lcmp, 1) := by decide +kernel
theorem dX7_state_136 : decode cX7_state 136 = .ok (.ifCond .ne 7, 3) := by decide +kernel
theorem dX7_state_139 : decode cX7_state 139 = .ok (.iconst 1, 1) := by decide +kernel
theorem dX7_state_140 : decode cX7_state 140 = .ok (.goto 4, 3) := by decide +kernel
theorem dX7_state_143 : decode cX7_state 143 = .ok (.iconst 0, 1) := by decide +kernel
theorem dX7_state_144 : decode cX7_state 144 = .ok (.istore 4, 2) := by decide +kernel
theorem dX7_state_146 : decode cX7_state 146 = .ok (.goto 9, 3) := by decide +kernel
theorem dX7_state_149 : decode cX7_state 149 = .ok (.iconst 1, 1) := by decide +kernel
theorem dX7_state_150 : decode cX7_state 150 = .ok (.istore_n 3, 1) := by decide +kernel
theorem dX7_state_151 : decode cX7_state 151 = .ok (.lload 11, 2) := by decide +kernel
theorem dX7_state_153 : decode cX7_state 153 = .ok (.lstore 6, 2) := by decide +kernel
theorem dX7_state_155 : decode cX7_state 155 = .ok (.iinc 8 1, 3) := by decide +kernel
theorem dX7_state_158 : decode cX7_state 158 = .ok (.goto (-135), 3) := by decide +kernel
theorem dX7_state_161 : decode cX7_state 161 = .ok (.iload_n 3, 1) := by decide +kernel
theorem dX7_state_162 : decode cX7_state 162 = .ok (.ifCond .eq 14, 3) := by decide +kernel
theorem dX7_state_165 : decode cX7_state 165 = .ok (.iload 4, 2) := by decide +kernel
theorem dX7_state_167 : decode cX7_state 167 = .ok (.ifCond .eq 7, 3) := by decide +kernel
theorem dX7_state_170 : decode cX7_state 170 = .ok (.iconst 0, 1) := by decide +kernel
theorem dX7_state_171 : decode cX7_state 171 = .ok (.goto 4, 3) := by decide +kernel
theorem dX7_state_174 : decode cX7_state 174 = .ok (.iconst 2, 1) := by decide +kernel
theorem dX7_state_175 : decode cX7_state 175 = .ok (.ireturn, 1) := by decide +kernel
theorem dX7_state_176 : decode cX7_state 176 = .ok (.iload 5, 2) := by decide +kernel
theorem dX7_state_178 : decode cX7_state 178 = .ok (.ifCond .eq 7, 3) := by decide +kernel
theorem dX7_state_181 : decode cX7_state 181 = .ok (.iconst 1, 1) := by decide +kernel
theorem dX7_state_182 : decode cX7_state 182 = .ok (.goto 4, 3) := by decide +kernel
theorem dX7_state_185 : decode cX7_state 185 = .ok (.iconst 3, 1) := by decide +kernel
theorem dX7_state_186 : decode cX7_state 186 = .ok (.ireturn, 1) := by decide +kernel
theorem dX7_show_0 : decode cX7_show 0 = .ok (.aload_n 0, 1) := by decide +kernel
theorem dX7_show_1 : decode cX7_show 1 = .ok (.getfield 10, 3) := by decide +kernel
theorem dX7_show_4 : decode cX7_show 4 = .ok (.getfield 103, 3) := by decide +kernel
theorem dX7_show_7 : decode cX7_show 7 = .ok (.aload_n 0, 1) := by decide +kernel
theorem dX7_show_8 : decode cX7_show 8 = .ok (.getfield 10, 3) := by decide +kernel
theorem dX7_show_11 : decode cX7_show 11 = .ok (.iload_n 1, 1) := by decide +kernel
theorem dX7_show_12 : decode cX7_show 12 = .ok (.invokevirtual 89, 3) := by decide +kernel
theorem dX7_show_15 : decode cX7_show 15 = .ok (.iload_n 2, 1) := by decide +kernel
theorem dX7_show_16 : decode cX7_show 16 = .ok (.lload_n 3, 1) := by decide +kernel
theorem dX7_show_17 : decode cX7_show 17 = .ok (.iload 5, 2) := by decide +kernel
theorem dX7_show_19 : decode cX7_show 19 = .ok (.invokestatic 106, 3) := by decide +kernel
theorem dX7_show_22 : decode cX7_show 22 = .ok (.ireturn, 1) := by decide +kernel
theorem dX7_words_0 : decode cX7_words 0 = .ok (.iload_n 1, 1) := by decide +kernel
theorem dX7_words_1 : decode cX7_words 1 = .ok (.ifCond .lt 9, 3) := by decide +kernel
theorem dX7_words_4 : decode cX7_words 4 = .ok (.iload_n 1, 1) := by decide +kernel
theorem dX7_words_5 : decode cX7_words 5 = .ok (.ldc 110, 2) := by decide +kernel
theorem dX7_words_7 : decode cX7_words 7 = .ok (.if_icmp .le 5, 3) := by decide +kernel
theorem dX7_words_10 : decode cX7_words 10 = .ok (.iconst (-1), 1) := by decide +kernel
theorem dX7_words_11 : decode cX7_words 11 = .ok (.ireturn, 1) := by decide +kernel
theorem dX7_words_12 : decode cX7_words 12 = .ok (.aload_n 0, 1) := by decide +kernel
theorem dX7_words_13 : decode cX7_words 13 = .ok (.getfield 10, 3) := by decide +kernel
theorem dX7_words_16 : decode cX7_words 16 = .ok (.getfield 103, 3) := by decide +kernel
theorem dX7_words_19 : decode cX7_words 19 = .ok (.iload_n 1, 1) := by decide +kernel
theorem dX7_words_20 : decode cX7_words 20 = .ok (.invokestatic 111, 3) := by decide +kernel
theorem dX7_words_23 : decode cX7_words 23 = .ok (.aload_n 0, 1) := by decide +kernel
theorem dX7_words_24 : decode cX7_words 24 = .ok (.getfield 10, 3) := by decide +kernel
theorem dX7_words_27 : decode cX7_words 27 = .ok (.getfield 103, 3) := by decide +kernel
theorem dX7_words_30 : decode cX7_words 30 = .ok (.invokevirtual 68, 3) := by decide +kernel
theorem dX7_words_33 : decode cX7_words 33 = .ok (.ireturn, 1) := by decide +kernel
theorem dX7_shown_0 : decode cX7_shown 0 = .ok (.aload_n 0, 1) := by decide +kernel
theorem dX7_shown_1 : decode cX7_shown 1 = .ok (.getfield 10, 3) := by decide +kernel
theorem dX7_shown_4 : decode cX7_shown 4 = .ok (.getfield 103, 3) := by decide +kernel
theorem dX7_shown_7 : decode cX7_shown 7 = .ok (.iload_n 1, 1) := by decide +kernel
theorem dX7_shown_8 : decode cX7_shown 8 = .ok (.invokevirtual 117, 3) := by decide +kernel
theorem dX7_shown_11 : decode cX7_shown 11 = .ok (.ireturn, 1) := by decide +kernel
theorem dX7_take_0 : decode cX7_take 0 = .ok (.aload_n 0, 1) := by decide +kernel
theorem dX7_take_1 : decode cX7_take 1 = .ok (.getfield 10, 3) := by decide +kernel
theorem dX7_take_4 : decode cX7_take 4 = .ok (.getfield 103, 3) := by decide +kernel
theorem dX7_take_7 : decode cX7_take 7 = .ok (.invokevirtual 68, 3) := by decide +kernel
theorem dX7_take_10 : decode cX7_take 10 = .ok (.istore_n 1, 1) := by decide +kernel
theorem dX7_take_11 : decode cX7_take 11 = .ok (.iload_n 1, 1) := by decide +kernel
theorem dX7_take_12 : decode cX7_take 12 = .ok (.ifCond .eq 9, 3) := by decide +kernel
theorem dX7_take_15 : decode cX7_take 15 = .ok (.iload_n 1, 1) := by decide +kernel
theorem dX7_take_16 : decode cX7_take 16 = .ok (.bipush 60, 2) := by decide +kernel
theorem dX7_take_18 : decode cX7_take 18 = .ok (.if_icmp .le 5, 3) := by decide +kernel
theorem dX7_take_21 : decode cX7_take 21 = .ok (.iconst (-1), 1) := by decide +kernel
theorem dX7_take_22 : decode cX7_take 22 = .ok (.ireturn, 1) := by decide +kernel
theorem dX7_take_23 : decode cX7_take 23 = .ok (.aload_n 0, 1) := by decide +kernel
theorem dX7_take_24 : decode cX7_take 24 = .ok (.getfield 10, 3) := by decide +kernel
theorem dX7_take_27 : decode cX7_take 27 = .ok (.getfield 65, 3) := by decide +kernel
theorem dX7_take_30 : decode cX7_take 30 = .ok (.aload_n 0, 1) := by decide +kernel
theorem dX7_take_31 : decode cX7_take 31 = .ok (.getfield 10, 3) := by decide +kernel
theorem dX7_take_34 : decode cX7_take 34 = .ok (.getfield 103, 3) := by decide +kernel
theorem dX7_take_37 : decode cX7_take 37 = .ok (.invokevirtual 121, 3) := by decide +kernel
theorem dX7_take_40 : decode cX7_take 40 = .ok (.iload_n 1, 1) := by decide +kernel
theorem dX7_take_41 : decode cX7_take 41 = .ok (.ireturn, 1) := by decide +kernel
theorem dX7_spoken_0 : decode cX7_spoken 0 = .ok (.aload_n 0, 1) := by decide +kernel
theorem dX7_spoken_1 : decode cX7_spoken 1 = .ok (.getfield 10, 3) := by decide +kernel
theorem dX7_spoken_4 : decode cX7_spoken 4 = .ok (.getfield 65, 3) := by decide +kernel
theorem dX7_spoken_7 : decode cX7_spoken 7 = .ok (.invokestatic 125, 3) := by decide +kernel
theorem dX7_spoken_10 : decode cX7_spoken 10 = .ok (.istore_n 1, 1) := by decide +kernel
theorem dX7_spoken_11 : decode cX7_spoken 11 = .ok (.iload_n 1, 1) := by decide +kernel
theorem dX7_spoken_12 : decode cX7_spoken 12 = .ok (.ifCond .lt 9, 3) := by decide +kernel
theorem dX7_spoken_15 : decode cX7_spoken 15 = .ok (.iload_n 1, 1) := by decide +kernel
theorem dX7_spoken_16 : decode cX7_spoken 16 = .ok (.ldc 110, 2) := by decide +kernel
theorem dX7_spoken_18 : decode cX7_spoken 18 = .ok (.if_icmp .le 5, 3) := by decide +kernel
theorem dX7_spoken_21 : decode cX7_spoken 21 = .ok (.iconst (-1), 1) := by decide +kernel
theorem dX7_spoken_22 : decode cX7_spoken 22 = .ok (.ireturn, 1) := by decide +kernel
theorem dX7_spoken_23 : decode cX7_spoken 23 = .ok (.aload_n 0, 1) := by decide +kernel
theorem dX7_spoken_24 : decode cX7_spoken 24 = .ok (.getfield 32, 3) := by decide +kernel
theorem dX7_spoken_27 : decode cX7_spoken 27 = .ok (.iload_n 1, 1) := by decide +kernel
theorem dX7_spoken_28 : decode cX7_spoken 28 = .ok (.invokestatic 111, 3) := by decide +kernel
theorem dX7_spoken_31 : decode cX7_spoken 31 = .ok (.aload_n 0, 1) := by decide +kernel
theorem dX7_spoken_32 : decode cX7_spoken 32 = .ok (.getfield 32, 3) := by decide +kernel
theorem dX7_spoken_35 : decode cX7_spoken 35 = .ok (.aload_n 0, 1) := by decide +kernel
theorem dX7_spoken_36 : decode cX7_spoken 36 = .ok (.getfield 10, 3) := by decide +kernel
theorem dX7_spoken_39 : decode cX7_spoken 39 = .ok (.getfield 65, 3) := by decide +kernel
theorem dX7_spoken_42 : decode cX7_spoken 42 = .ok (.invokevirtual 129, 3) := by decide +kernel
theorem dX7_spoken_45 : decode cX7_spoken 45 = .ok (.ifCond .eq 7, 3) := by decide +kernel
theorem dX7_spoken_48 : decode cX7_spoken 48 = .ok (.iload_n 1, 1) := by decide +kernel
theorem dX7_spoken_49 : decode cX7_spoken 49 = .ok (.goto 4, 3) := by decide +kernel
theorem dX7_spoken_52 : decode cX7_spoken 52 = .ok (.iconst (-1), 1) := by decide +kernel
theorem dX7_spoken_53 : decode cX7_spoken 53 = .ok (.ireturn, 1) := by decide +kernel
theorem dX7_other_0 : decode cX7_other 0 = .ok (.aload_n 0, 1) := by decide +kernel
theorem dX7_other_1 : decode cX7_other 1 = .ok (.getfield 10, 3) := by decide +kernel
theorem dX7_other_4 : decode cX7_other 4 = .ok (.iload_n 2, 1) := by decide +kernel
theorem dX7_other_5 : decode cX7_other 5 = .ok (.invokevirtual 89, 3) := by decide +kernel
theorem dX7_other_8 : decode cX7_other 8 = .ok (.astore 7, 2) := by decide +kernel
theorem dX7_other_10 : decode cX7_other 10 = .ok (.aload_n 0, 1) := by decide +kernel
theorem dX7_other_11 : decode cX7_other 11 = .ok (.getfield 32, 3) := by decide +kernel
theorem dX7_other_14 : decode cX7_other 14 = .ok (.aload_n 0, 1) := by decide +kernel
theorem dX7_other_15 : decode cX7_other 15 = .ok (.getfield 10, 3) := by decide +kernel
theorem dX7_other_18 : decode cX7_other 18 = .ok (.iload_n 1, 1) := by decide +kernel
theorem dX7_other_19 : decode cX7_other 19 = .ok (.invokevirtual 89, 3) := by decide +kernel
theorem dX7_other_22 : decode cX7_other 22 = .ok (.iload_n 3, 1) := by decide +kernel
theorem dX7_other_23 : decode cX7_other 23 = .ok (.lload 4, 2) := by decide +kernel
theorem dX7_other_25 : decode cX7_other 25 = .ok (.iload 6, 2) := by decide +kernel
theorem dX7_other_27 : decode cX7_other 27 = .ok (.invokestatic 106, 3) := by decide +kernel
theorem dX7_other_30 : decode cX7_other 30 = .ok (.istore 8, 2) := by decide +kernel
theorem dX7_other_32 : decode cX7_other 32 = .ok (.aload 7, 2) := by decide +kernel
theorem dX7_other_34 : decode cX7_other 34 = .ok (.ifnull 9, 3) := by decide +kernel
theorem dX7_other_37 : decode cX7_other 37 = .ok (.iload 8, 2) := by decide +kernel
theorem dX7_other_39 : decode cX7_other 39 = .ok (.iconst (-1), 1) := by decide +kernel
theorem dX7_other_40 : decode cX7_other 40 = .ok (.if_icmp .ne 7, 3) := by decide +kernel
theorem dX7_other_43 : decode cX7_other 43 = .ok (.ldc2_w 93, 3) := by decide +kernel
theorem dX7_other_46 : decode cX7_other 46 = .ok (.lreturn, 1) := by decide +kernel
theorem dX7_other_47 : decode cX7_other 47 = .ok (.aload_n 0, 1) := by decide +kernel
theorem dX7_other_48 : decode cX7_other 48 = .ok (.getfield 23, 3) := by decide +kernel
theorem dX7_other_51 : decode cX7_other 51 = .ok (.aload_n 0, 1) := by decide +kernel
theorem dX7_other_52 : decode cX7_other 52 = .ok (.getfield 32, 3) := by decide +kernel
theorem dX7_other_55 : decode cX7_other 55 = .ok (.getfield 133, 3) := by decide +kernel
theorem dX7_other_58 : decode cX7_other 58 = .ok (.iconst 0, 1) := by decide +kernel
theorem dX7_other_59 : decode cX7_other 59 = .ok (.iload 8, 2) := by decide +kernel
theorem dX7_other_61 : decode cX7_other 61 = .ok (.aload 7, 2) := by decide +kernel
theorem dX7_other_63 : decode cX7_other 63 = .ok (.iload_n 3, 1) := by decide +kernel
theorem dX7_other_64 : decode cX7_other 64 = .ok (.invokevirtual 137, 3) := by decide +kernel
theorem dX7_other_67 : decode cX7_other 67 = .ok (.istore 9, 2) := by decide +kernel
theorem dX7_other_69 : decode cX7_other 69 = .ok (.iload 9, 2) := by decide +kernel
theorem dX7_other_71 : decode cX7_other 71 = .ok (.ifCond .ne 13, 3) := by decide +kernel
theorem dX7_other_74 : decode cX7_other 74 = .ok (.aload_n 0, 1) := by decide +kernel
theorem dX7_other_75 : decode cX7_other 75 = .ok (.getfield 23, 3) := by decide +kernel
theorem dX7_other_78 : decode cX7_other 78 = .ok (.getfield 141, 3) := by decide +kernel
theorem dX7_other_81 : decode cX7_other 81 = .ok (.goto 6, 3) := by decide +kernel
theorem dX7_other_84 : decode cX7_other 84 = .ok (.ldc2_w 93, 3) := by decide +kernel
theorem dX7_other_87 : decode cX7_other 87 = .ok (.lreturn, 1) := by decide +kernel
theorem dX7_row_0 : decode cX7_row 0 = .ok (.aload_n 0, 1) := by decide +kernel
theorem dX7_row_1 : decode cX7_row 1 = .ok (.getfield 10, 3) := by decide +kernel
theorem dX7_row_4 : decode cX7_row 4 = .ok (.invokevirtual 145, 3) := by decide +kernel
theorem dX7_row_7 : decode cX7_row 7 = .ok (.ireturn, 1) := by decide +kernel
theorem dX7_clear_0 : decode cX7_clear 0 = .ok (.aload_n 0, 1) := by decide +kernel
theorem dX7_clear_1 : decode cX7_clear 1 = .ok (.getfield 10, 3) := by decide +kernel
theorem dX7_clear_4 : decode cX7_clear 4 = .ok (.iconst 0, 1) := by decide +kernel
theorem dX7_clear_5 : decode cX7_clear 5 = .ok (.putfield 148, 3) := by decide +kernel
theorem dX7_clear_8 : decode cX7_clear 8 = .ok (.return_, 1) := by decide +kernel
theorem dX7_fit_0 : decode cX7_fit 0 = .ok (.iload_n 1, 1) := by decide +kernel
theorem dX7_fit_1 : decode cX7_fit 1 = .ok (.invokestatic 82, 3) := by decide +kernel
theorem dX7_fit_4 : decode cX7_fit 4 = .ok (.ifCond .ne 5, 3) := by decide +kernel
theorem dX7_fit_7 : decode cX7_fit 7 = .ok (.iconst (-1), 1) := by decide +kernel
theorem dX7_fit_8 : decode cX7_fit 8 = .ok (.ireturn, 1) := by decide +kernel
theorem dX7_fit_9 : decode cX7_fit 9 = .ok (.iconst 1, 1) := by decide +kernel
theorem dX7_fit_10 : decode cX7_fit 10 = .ok (.aload_n 0, 1) := by decide +kernel
theorem dX7_fit_11 : decode cX7_fit 11 = .ok (.getfield 10, 3) := by decide +kernel
theorem dX7_fit_14 : decode cX7_fit 14 = .ok (.getfield 36, 3) := by decide +kernel
theorem dX7_fit_17 : decode cX7_fit 17 = .ok (.ishl, 1) := by decide +kernel
theorem dX7_fit_18 : decode cX7_fit 18 = .ok (.iconst 1, 1) := by decide +kernel
theorem dX7_fit_19 : decode cX7_fit 19 = .ok (.isub, 1) := by decide +kernel
theorem dX7_fit_20 : decode cX7_fit 20 = .ok (.istore_n 2, 1) := by decide +kernel
theorem dX7_fit_21 : decode cX7_fit 21 = .ok (.iconst 0, 1) := by decide +kernel
theorem dX7_fit_22 : decode cX7_fit 22 = .ok (.istore_n 3, 1) := by decide +kernel
theorem dX7_fit_23 : decode cX7_fit 23 = .ok (.iload_n 3, 1) := by decide +kernel
theorem dX7_fit_24 : decode cX7_fit 24 = .ok (.aload_n 0, 1) := by decide +kernel
theorem dX7_fit_25 : decode cX7_fit 25 = .ok (.getfield 10, 3) := by decide +kernel
theorem dX7_fit_28 : decode cX7_fit 28 = .ok (.getfield 36, 3) := by decide +kernel
theorem dX7_fit_31 : decode cX7_fit 31 = .ok (.if_icmp .ge 78, 3) := by decide +kernel
theorem dX7_fit_34 : decode cX7_fit 34 = .ok (.aload_n 0, 1) := by decide +kernel
theorem dX7_fit_35 : decode cX7_fit 35 = .ok (.getfield 10, 3) := by decide +kernel
theorem dX7_fit_38 : decode cX7_fit 38 = .ok (.iload_n 3, 1) := by decide +kernel
theorem dX7_fit_39 : decode cX7_fit 39 = .ok (.invokevirtual 89, 3) := by decide +kernel
theorem dX7_fit_42 : decode cX7_fit 42 = .ok (.astore 4, 2) := by decide +kernel
theorem dX7_fit_44 : decode cX7_fit 44 = .ok (.iconst 1, 1) := by decide +kernel
theorem dX7_fit_45 : decode cX7_fit 45 = .ok (.iload_n 3, 1) := by decide +kernel
theorem dX7_fit_46 : decode cX7_fit 46 = .ok (.ishl, 1) := by decide +kernel
theorem dX7_fit_47 : decode cX7_fit 47 = .ok (.istore 5, 2) := by decide +kernel
theorem dX7_fit_49 : decode cX7_fit 49 = .ok (.iconst 0, 1) := by decide +kernel
theorem dX7_fit_50 : decode cX7_fit 50 = .ok (.istore 6, 2) := by decide +kernel
theorem dX7_fit_52 : decode cX7_fit 52 = .ok (.iload 6, 2) := by decide +kernel
theorem dX7_fit_54 : decode cX7_fit 54 = .ok (.aload_n 0, 1) := by decide +kernel
theorem dX7_fit_55 : decode cX7_fit 55 = .ok (.getfield 10, 3) := by decide +kernel
theorem dX7_fit_58 : decode cX7_fit 58 = .ok (.getfield 148, 3) := by decide +kernel
theorem dX7_fit_61 : decode cX7_fit 61 = .ok (.if_icmp .ge 42, 3) := by decide +kernel
theorem dX7_fit_64 : decode cX7_fit 64 = .ok (.aload 4, 2) := by decide +kernel
theorem dX7_fit_66 : decode cX7_fit 66 = .ok (.ifnull 37, 3) := by decide +kernel
theorem dX7_fit_69 : decode cX7_fit 69 = .ok (.iload_n 2, 1) := by decide +kernel
theorem dX7_fit_70 : decode cX7_fit 70 = .ok (.iload 5, 2) := by decide +kernel
theorem dX7_fit_72 : decode cX7_fit 72 = .ok (.iand, 1) := by decide +kernel
theorem dX7_fit_73 : decode cX7_fit 73 = .ok (.ifCond .eq 30, 3) := by decide +kernel
theorem dX7_fit_76 : decode cX7_fit 76 = .ok (.aload_n 0, 1) := by decide +kernel
theorem dX7_fit_77 : decode cX7_fit 77 = .ok (.iload 6, 2) := by decide +kernel
theorem dX7_fit_79 : decode cX7_fit 79 = .ok (.aload 4, 2) := by decide +kernel
theorem dX7_fit_81 : decode cX7_fit 81 = .ok (.iload_n 1, 1) := by decide +kernel
theorem dX7_fit_82 : decode cX7_fit 82 = .ok (.invokevirtual 151, 3) := by decide +kernel
theorem dX7_fit_85 : decode cX7_fit 85 = .ok (.ldc2_w 93, 3) := by decide +kernel
theorem dX7_fit_88 : decode cX7_fit 88 = .ok (.lcmp, 1) := by decide +kernel
theorem dX7_fit_89 : decode cX7_fit 89 = .ok (.ifCond .ne 8, 3) := by decide +kernel
theorem dX7_fit_92 : decode cX7_fit 92 = .ok (.iload_n 2, 1) := by decide +kernel
theorem dX7_fit_93 : decode cX7_fit 93 = .ok (.iload 5, 2) := by decide +kernel
theorem dX7_fit_95 : decode cX7_fit 95 = .ok (.isub, 1) := by decide +kernel
theorem dX7_fit_96 : decode cX7_fit 96 = .ok (.istore_n 2, 1) := by decide +kernel
theorem dX7_fit_97 : decode cX7_fit 97 = .ok (.iinc 6 1, 3) := by decide +kernel
theorem dX7_fit_100 : decode cX7_fit 100 = .ok (.goto (-48), 3) := by decide +kernel
theorem dX7_fit_103 : decode cX7_fit 103 = .ok (.iinc 3 1, 3) := by decide +kernel
theorem dX7_fit_106 : decode cX7_fit 106 = .ok (.goto (-83), 3) := by decide +kernel
theorem dX7_fit_109 : decode cX7_fit 109 = .ok (.iload_n 2, 1) := by decide +kernel
theorem dX7_fit_110 : decode cX7_fit 110 = .ok (.ireturn, 1) := by decide +kernel
theorem dX7_misfit_0 : decode cX7_misfit 0 = .ok (.aload_n 0, 1) := by decide +kernel
theorem dX7_misfit_1 : decode cX7_misfit 1 = .ok (.getfield 10, 3) := by decide +kernel
theorem dX7_misfit_4 : decode cX7_misfit 4 = .ok (.iload_n 1, 1) := by decide +kernel
theorem dX7_misfit_5 : decode cX7_misfit 5 = .ok (.invokevirtual 89, 3) := by decide +kernel
theorem dX7_misfit_8 : decode cX7_misfit 8 = .ok (.astore_n 3, 1) := by decide +kernel
theorem dX7_misfit_9 : decode cX7_misfit 9 = .ok (.aload_n 3, 1) := by decide +kernel
theorem dX7_misfit_10 : decode cX7_misfit 10 = .ok (.ifnull 10, 3) := by decide +kernel
theorem dX7_misfit_13 : decode cX7_misfit 13 = .ok (.iload_n 2, 1) := by decide +kernel
theorem dX7_misfit_14 : decode cX7_misfit 14 = .ok (.invokestatic 82, 3) := by decide +kernel
theorem dX7_misfit_17 : decode cX7_misfit 17 = .ok (.ifCond .ne 5, 3) := by decide +kernel
theorem dX7_misfit_20 : decode cX7_misfit 20 = .ok (.iconst (-1), 1) := by decide +kernel
theorem dX7_misfit_21 : decode cX7_misfit 21 = .ok (.ireturn, 1) := by decide +kernel
theorem dX7_misfit_22 : decode cX7_misfit 22 = .ok (.iconst 0, 1) := by decide +kernel
theorem dX7_misfit_23 : decode cX7_misfit 23 = .ok (.istore 4, 2) := by decide +kernel
theorem dX7_misfit_25 : decode cX7_misfit 25 = .ok (.iload 4, 2) := by decide +kernel
theorem dX7_misfit_27 : decode cX7_misfit 27 = .ok (.aload_n 0, 1) := by decide +kernel
theorem dX7_misfit_28 : decode cX7_misfit 28 = .ok (.getfield 10, 3) := by decide +kernel
theorem dX7_misfit_31 : decode cX7_misfit 31 = .ok (.getfield 148, 3) := by decide +kernel
theorem dX7_misfit_34 : decode cX7_misfit 34 = .ok (.if_icmp .ge 27, 3) := by decide +kernel
theorem dX7_misfit_37 : decode cX7_misfit 37 = .ok (.aload_n 0, 1) := by decide +kernel
theorem dX7_misfit_38 : decode cX7_misfit 38 = .ok (.iload 4, 2) := by decide +kernel
theorem dX7_misfit_40 : decode cX7_misfit 40 = .ok (.aload_n 3, 1) := by decide +kernel
theorem dX7_misfit_41 : decode cX7_misfit 41 = .ok (.iload_n 2, 1) := by decide +kernel
theorem dX7_misfit_42 : decode cX7_misfit 42 = .ok (.invokevirtual 151, 3) := by decide +kernel
theorem dX7_misfit_45 : decode cX7_misfit 45 = .ok (.ldc2_w 93, 3) := by decide +kernel
theorem dX7_misfit_48 : decode cX7_misfit 48 = .ok (.lcmp, 1) := by decide +kernel
theorem dX7_misfit_49 : decode cX7_misfit 49 = .ok (.ifCond .ne 6, 3) := by decide +kernel
theorem dX7_misfit_52 : decode cX7_misfit 52 = .ok (.iload 4, 2) := by decide +kernel
theorem dX7_misfit_54 : decode cX7_misfit 54 = .ok (.ireturn, 1) := by decide +kernel
theorem dX7_misfit_55 : decode cX7_misfit 55 = .ok (.iinc 4 1, 3) := by decide +kernel
theorem dX7_misfit_58 : decode cX7_misfit 58 = .ok (.goto (-33), 3) := by decide +kernel
theorem dX7_misfit_61 : decode cX7_misfit 61 = .ok (.iconst (-1), 1) := by decide +kernel
theorem dX7_misfit_62 : decode cX7_misfit 62 = .ok (.ireturn, 1) := by decide +kernel
theorem dX7_sum_0 : decode cX7_sum 0 = .ok (.aload_n 0, 1) := by decide +kernel
theorem dX7_sum_1 : decode cX7_sum 1 = .ok (.getfield 10, 3) := by decide +kernel
theorem dX7_sum_4 : decode cX7_sum 4 = .ok (.iload_n 1, 1) := by decide +kernel
theorem dX7_sum_5 : decode cX7_sum 5 = .ok (.invokevirtual 89, 3) := by decide +kernel
theorem dX7_sum_8 : decode cX7_sum 8 = .ok (.astore_n 3, 1) := by decide +kernel
theorem dX7_sum_9 : decode cX7_sum 9 = .ok (.aload_n 3, 1) := by decide +kernel
theorem dX7_sum_10 : decode cX7_sum 10 = .ok (.ifnull 12, 3) := by decide +kernel
theorem dX7_sum_13 : decode cX7_sum 13 = .ok (.iload_n 2, 1) := by decide +kernel
theorem dX7_sum_14 : decode cX7_sum 14 = .ok (.ifCond .eq 12, 3) := by decide +kernel
theorem dX7_sum_17 : decode cX7_sum 17 = .ok (.iload_n 2, 1) := by decide +kernel
theorem dX7_sum_18 : decode cX7_sum 18 = .ok (.iconst 1, 1) := by decide +kernel
theorem dX7_sum_19 : decode cX7_sum 19 = .ok (.if_icmp .eq 7, 3) := by decide +kernel
theorem dX7_sum_22 : decode cX7_sum 22 = .ok (.ldc2_w 93, 3) := by decide +kernel
theorem dX7_sum_25 : decode cX7_sum 25 = .ok (.lreturn, 1) := by decide +kernel
theorem dX7_sum_26 : decode cX7_sum 26 = .ok (.lconst 0, 1) := by decide +kernel
theorem dX7_sum_27 : decode cX7_sum 27 = .ok (.lstore 4, 2) := by decide +kernel
theorem dX7_sum_29 : decode cX7_sum 29 = .ok (.iconst 0, 1) := by decide +kernel
theorem dX7_sum_30 : decode cX7_sum 30 = .ok (.istore 6, 2) := by decide +kernel
theorem dX7_sum_32 : decode cX7_sum 32 = .ok (.iload 6, 2) := by decide +kernel
theorem dX7_sum_34 : decode cX7_sum 34 = .ok (.aload_n 0, 1) := by decide +kernel
theorem dX7_sum_35 : decode cX7_sum 35 = .ok (.getfield 10, 3) := by decide +kernel
theorem dX7_sum_38 : decode cX7_sum 38 = .ok (.getfield 148, 3) := by decide +kernel
theorem dX7_sum_41 : decode cX7_sum 41 = .ok (.if_icmp .ge 39, 3) := by decide +kernel
theorem dX7_sum_44 : decode cX7_sum 44 = .ok (.aload_n 0, 1) := by decide +kernel
theorem dX7_sum_45 : decode cX7_sum 45 = .ok (.iload 6, 2) := by decide +kernel
theorem dX7_sum_47 : decode cX7_sum 47 = .ok (.aload_n 3, 1) := by decide +kernel
theorem dX7_sum_48 : decode cX7_sum 48 = .ok (.iload_n 2, 1) := by decide +kernel
theorem dX7_sum_49 : decode cX7_sum 49 = .ok (.invokevirtual 151, 3) := by decide +kernel
theorem dX7_sum_52 : decode cX7_sum 52 = .ok (.lstore 7, 2) := by decide +kernel
theorem dX7_sum_54 : decode cX7_sum 54 = .ok (.lload 7, 2) := by decide +kernel
theorem dX7_sum_56 : decode cX7_sum 56 = .ok (.ldc2_w 93, 3) := by decide +kernel
theorem dX7_sum_59 : decode cX7_sum 59 = .ok (.lcmp, 1) := by decide +kernel
theorem dX7_sum_60 : decode cX7_sum 60 = .ok (.ifCond .ne 7, 3) := by decide +kernel
theorem dX7_sum_63 : decode cX7_sum 63 = .ok (.ldc2_w 93, 3) := by decide +kernel
theorem dX7_sum_66 : decode cX7_sum 66 = .ok (.lreturn, 1) := by decide +kernel
theorem dX7_sum_67 : decode cX7_sum 67 = .ok (.lload 4, 2) := by decide +kernel
theorem dX7_sum_69 : decode cX7_sum 69 = .ok (.lload 7, 2) := by decide +kernel
theorem dX7_sum_71 : decode cX7_sum 71 = .ok (.ladd, 1) := by decide +kernel
theorem dX7_sum_72 : decode cX7_sum 72 = .ok (.lstore 4, 2) := by decide +kernel
theorem dX7_sum_74 : decode cX7_sum 74 = .ok (.iinc 6 1, 3) := by decide +kernel
theorem dX7_sum_77 : decode cX7_sum 77 = .ok (.goto (-45), 3) := by decide +kernel
theorem dX7_sum_80 : decode cX7_sum 80 = .ok (.lload 4, 2) := by decide +kernel
theorem dX7_sum_82 : decode cX7_sum 82 = .ok (.lreturn, 1) := by decide +kernel
theorem dX7_count_0 : decode cX7_count 0 = .ok (.iload_n 1, 1) := by decide +kernel
theorem dX7_count_1 : decode cX7_count 1 = .ok (.tableswitch 69 0 3 #[31, 39, 50, 58], 31) := by decide +kernel
theorem dX7_count_32 : decode cX7_count 32 = .ok (.aload_n 0, 1) := by decide +kernel
theorem dX7_count_33 : decode cX7_count 33 = .ok (.getfield 10, 3) := by decide +kernel
theorem dX7_count_36 : decode cX7_count 36 = .ok (.getfield 36, 3) := by decide +kernel
theorem dX7_count_39 : decode cX7_count 39 = .ok (.ireturn, 1) := by decide +kernel
theorem dX7_count_40 : decode cX7_count 40 = .ok (.aload_n 0, 1) := by decide +kernel
theorem dX7_count_41 : decode cX7_count 41 = .ok (.getfield 10, 3) := by decide +kernel
theorem dX7_count_44 : decode cX7_count 44 = .ok (.getfield 65, 3) := by decide +kernel
theorem dX7_count_47 : decode cX7_count 47 = .ok (.invokevirtual 68, 3) := by decide +kernel
theorem dX7_count_50 : decode cX7_count 50 = .ok (.ireturn, 1) := by decide +kernel
theorem dX7_count_51 : decode cX7_count 51 = .ok (.aload_n 0, 1) := by decide +kernel
theorem dX7_count_52 : decode cX7_count 52 = .ok (.getfield 10, 3) := by decide +kernel
theorem dX7_count_55 : decode cX7_count 55 = .ok (.getfield 148, 3) := by decide +kernel
theorem dX7_count_58 : decode cX7_count 58 = .ok (.ireturn, 1) := by decide +kernel
theorem dX7_count_59 : decode cX7_count 59 = .ok (.aload_n 0, 1) := by decide +kernel
theorem dX7_count_60 : decode cX7_count 60 = .ok (.getfield 10, 3) := by decide +kernel
theorem dX7_count_63 : decode cX7_count 63 = .ok (.getfield 103, 3) := by decide +kernel
theorem dX7_count_66 : decode cX7_count 66 = .ok (.invokevirtual 68, 3) := by decide +kernel
theorem dX7_count_69 : decode cX7_count 69 = .ok (.ireturn, 1) := by decide +kernel
theorem dX7_count_70 : decode cX7_count 70 = .ok (.iconst (-1), 1) := by decide +kernel
theorem dX7_count_71 : decode cX7_count 71 = .ok (.ireturn, 1) := by decide +kernel
theorem dX7_image_0 : decode cX7_image 0 = .ok (.iload_n 1, 1) := by decide +kernel
theorem dX7_image_1 : decode cX7_image 1 = .ok (.ifCond .lt 8, 3) := by decide +kernel
theorem dX7_image_4 : decode cX7_image 4 = .ok (.iload_n 1, 1) := by decide +kernel
theorem dX7_image_5 : decode cX7_image 5 = .ok (.iconst 3, 1) := by decide +kernel
theorem dX7_image_6 : decode cX7_image 6 = .ok (.if_icmp .lt 5, 3) := by decide +kernel
theorem dX7_image_9 : decode cX7_image 9 = .ok (.iconst 0, 1) := by decide +kernel
theorem dX7_image_10 : decode cX7_image 10 = .ok (.ireturn, 1) := by decide +kernel
theorem dX7_image_11 : decode cX7_image 11 = .ok (.aload_n 0, 1) := by decide +kernel
theorem dX7_image_12 : decode cX7_image 12 = .ok (.getfield 16, 3) := by decide +kernel
theorem dX7_image_15 : decode cX7_image 15 = .ok (.iload_n 1, 1) := by decide +kernel
theorem dX7_image_16 : decode cX7_image 16 = .ok (.aaload, 1) := by decide +kernel
theorem dX7_image_17 : decode cX7_image 17 = .ok (.ifnonnull 16, 3) := by decide +kernel
theorem dX7_image_20 : decode cX7_image 20 = .ok (.aload_n 0, 1) := by decide +kernel
theorem dX7_image_21 : decode cX7_image 21 = .ok (.getfield 16, 3) := by decide +kernel
theorem dX7_image_24 : decode cX7_image 24 = .ok (.iload_n 1, 1) := by decide +kernel
theorem dX7_image_25 : decode cX7_image 25 = .ok (.new 7, 3) := by decide +kernel
theorem dX7_image_28 : decode cX7_image 28 = .ok (.dup, 1) := by decide +kernel
theorem dX7_image_29 : decode cX7_image 29 = .ok (.invokespecial 9, 3) := by decide +kernel
theorem dX7_image_32 : decode cX7_image 32 = .ok (.aastore, 1) := by decide +kernel
theorem dX7_image_33 : decode cX7_image 33 = .ok (.aload_n 0, 1) := by decide +kernel
theorem dX7_image_34 : decode cX7_image 34 = .ok (.getfield 16, 3) := by decide +kernel
theorem dX7_image_37 : decode cX7_image 37 = .ok (.iload_n 1, 1) := by decide +kernel
theorem dX7_image_38 : decode cX7_image 38 = .ok (.aaload, 1) := by decide +kernel
theorem dX7_image_39 : decode cX7_image 39 = .ok (.aload_n 0, 1) := by decide +kernel
theorem dX7_image_40 : decode cX7_image 40 = .ok (.getfield 10, 3) := by decide +kernel
theorem dX7_image_43 : decode cX7_image 43 = .ok (.invokevirtual 155, 3) := by decide +kernel
theorem dX7_image_46 : decode cX7_image 46 = .ok (.iconst 1, 1) := by decide +kernel
theorem dX7_image_47 : decode cX7_image 47 = .ok (.ireturn, 1) := by decide +kernel
theorem dX7_again_0 : decode cX7_again 0 = .ok (.iload_n 1, 1) := by decide +kernel
theorem dX7_again_1 : decode cX7_again 1 = .ok (.ifCond .lt 17, 3) := by decide +kernel
theorem dX7_again_4 : decode cX7_again 4 = .ok (.iload_n 1, 1) := by decide +kernel
theorem dX7_again_5 : decode cX7_again 5 = .ok (.iconst 3, 1) := by decide +kernel
theorem dX7_again_6 : decode cX7_again 6 = .ok (.if_icmp .ge 12, 3) := by decide +kernel
theorem dX7_again_9 : decode cX7_again 9 = .ok (.aload_n 0, 1) := by decide +kernel
theorem dX7_again_10 : decode cX7_again 10 = .ok (.getfield 16, 3) := by decide +kernel
theorem dX7_again_13 : decode cX7_again 13 = .ok (.iload_n 1, 1) := by decide +kernel
theorem dX7_again_14 : decode cX7_again 14 = .ok (.aaload, 1) := by decide +kernel
theorem dX7_again_15 : decode cX7_again 15 = .ok (.ifnonnull 5, 3) := by decide +kernel
theorem dX7_again_18 : decode cX7_again 18 = .ok (.iconst 0, 1) := by decide +kernel
theorem dX7_again_19 : decode cX7_again 19 = .ok (.ireturn, 1) := by decide +kernel
theorem dX7_again_20 : decode cX7_again 20 = .ok (.aload_n 0, 1) := by decide +kernel
theorem dX7_again_21 : decode cX7_again 21 = .ok (.getfield 10, 3) := by decide +kernel
theorem dX7_again_24 : decode cX7_again 24 = .ok (.aload_n 0, 1) := by decide +kernel
theorem dX7_again_25 : decode cX7_again 25 = .ok (.getfield 16, 3) := by decide +kernel
theorem dX7_again_28 : decode cX7_again 28 = .ok (.iload_n 1, 1) := by decide +kernel
theorem dX7_again_29 : decode cX7_again 29 = .ok (.aaload, 1) := by decide +kernel
theorem dX7_again_30 : decode cX7_again 30 = .ok (.invokevirtual 155, 3) := by decide +kernel
theorem dX7_again_33 : decode cX7_again 33 = .ok (.iconst 1, 1) := by decide +kernel
theorem dX7_again_34 : decode cX7_again 34 = .ok (.ireturn, 1) := by decide +kernel
theorem dX7_isKind_0 : decode cX7_isKind 0 = .ok (.iload_n 0, 1) := by decide +kernel
theorem dX7_isKind_1 : decode cX7_isKind 1 = .ok (.ifCond .lt 12, 3) := by decide +kernel
theorem dX7_isKind_4 : decode cX7_isKind 4 = .ok (.iload_n 0, 1) := by decide +kernel
theorem dX7_isKind_5 : decode cX7_isKind 5 = .ok (.iconst 3, 1) := by decide +kernel
theorem dX7_isKind_6 : decode cX7_isKind 6 = .ok (.if_icmp .ge 7, 3) := by decide +kernel
theorem dX7_isKind_9 : decode cX7_isKind 9 = .ok (.iconst 1, 1) := by decide +kernel
theorem dX7_isKind_10 : decode cX7_isKind 10 = .ok (.goto 4, 3) := by decide +kernel
theorem dX7_isKind_13 : decode cX7_isKind 13 = .ok (.iconst 0, 1) := by decide +kernel
theorem dX7_isKind_14 : decode cX7_isKind 14 = .ok (.ireturn, 1) := by decide +kernel
theorem dX7_isDigit_0 : decode cX7_isDigit 0 = .ok (.iload_n 0, 1) := by decide +kernel
theorem dX7_isDigit_1 : decode cX7_isDigit 1 = .ok (.bipush 48, 2) := by decide +kernel
theorem dX7_isDigit_3 : decode cX7_isDigit 3 = .ok (.if_icmp .lt 13, 3) := by decide +kernel
theorem dX7_isDigit_6 : decode cX7_isDigit 6 = .ok (.iload_n 0, 1) := by decide +kernel
theorem dX7_isDigit_7 : decode cX7_isDigit 7 = .ok (.bipush 57, 2) := by decide +kernel
theorem dX7_isDigit_9 : decode cX7_isDigit 9 = .ok (.if_icmp .gt 7, 3) := by decide +kernel
theorem dX7_isDigit_12 : decode cX7_isDigit 12 = .ok (.iconst 1, 1) := by decide +kernel
theorem dX7_isDigit_13 : decode cX7_isDigit 13 = .ok (.goto 4, 3) := by decide +kernel
theorem dX7_isDigit_16 : decode cX7_isDigit 16 = .ok (.iconst 0, 1) := by decide +kernel
theorem dX7_isDigit_17 : decode cX7_isDigit 17 = .ok (.ireturn, 1) := by decide +kernel
end
section
theorem dX7_byteOf_0 : decode cX7_byteOf 0 = .ok (.iload_n 0, 1) := by decide +kernel
theorem dX7_byteOf_1 : decode cX7_byteOf 1 = .ok (.bipush 24, 2) := by decide +kernel
theorem dX7_byteOf_3 : decode cX7_byteOf 3 = .ok (.bipush 8, 2) := by decide +kernel
theorem dX7_byteOf_5 : decode cX7_byteOf 5 = .ok (.iload_n 1, 1) := by decide +kernel
theorem dX7_byteOf_6 : decode cX7_byteOf 6 = .ok (.imul, 1) := by decide +kernel
theorem dX7_byteOf_7 : decode cX7_byteOf 7 = .ok (.isub, 1) := by decide +kernel
theorem dX7_byteOf_8 : decode cX7_byteOf 8 = .ok (.iushr, 1) := by decide +kernel
theorem dX7_byteOf_9 : decode cX7_byteOf 9 = .ok (.sipush 255, 3) := by decide +kernel
theorem dX7_byteOf_12 : decode cX7_byteOf 12 = .ok (.iand, 1) := by decide +kernel
theorem dX7_byteOf_13 : decode cX7_byteOf 13 = .ok (.ireturn, 1) := by decide +kernel
theorem dX7_readLine_0 : decode cX7_readLine 0 = .ok (.aload_n 0, 1) := by decide +kernel
theorem dX7_readLine_1 : decode cX7_readLine 1 = .ok (.getfield 23, 3) := by decide +kernel
theorem dX7_readLine_4 : decode cX7_readLine 4 = .ok (.aload_n 0, 1) := by decide +kernel
theorem dX7_readLine_5 : decode cX7_readLine 5 = .ok (.getfield 10, 3) := by decide +kernel
theorem dX7_readLine_8 : decode cX7_readLine 8 = .ok (.getfield 65, 3) := by decide +kernel
theorem dX7_readLine_11 : decode cX7_readLine 11 = .ok (.getfield 133, 3) := by decide +kernel
theorem dX7_readLine_14 : decode cX7_readLine 14 = .ok (.iconst 0, 1) := by decide +kernel
theorem dX7_readLine_15 : decode cX7_readLine 15 = .ok (.iload_n 1, 1) := by decide +kernel
theorem dX7_readLine_16 : decode cX7_readLine 16 = .ok (.aload_n 2, 1) := by decide +kernel
theorem dX7_readLine_17 : decode cX7_readLine 17 = .ok (.iload_n 3, 1) := by decide +kernel
theorem dX7_readLine_18 : decode cX7_readLine 18 = .ok (.invokevirtual 137, 3) := by decide +kernel
theorem dX7_readLine_21 : decode cX7_readLine 21 = .ok (.ireturn, 1) := by decide +kernel
theorem dX7_countedValue_0 : decode cX7_countedValue 0 = .ok (.iload_n 1, 1) := by decide +kernel
theorem dX7_countedValue_1 : decode cX7_countedValue 1 = .ok (.ifCond .ne 31, 3) := by decide +kernel
theorem dX7_countedValue_4 : decode cX7_countedValue 4 = .ok (.aload_n 0, 1) := by decide +kernel
theorem dX7_countedValue_5 : decode cX7_countedValue 5 = .ok (.getfield 10, 3) := by decide +kernel
theorem dX7_countedValue_8 : decode cX7_countedValue 8 = .ok (.iload_n 2, 1) := by decide +kernel
theorem dX7_countedValue_9 : decode cX7_countedValue 9 = .ok (.aload_n 0, 1) := by decide +kernel
theorem dX7_countedValue_10 : decode cX7_countedValue 10 = .ok (.getfield 23, 3) := by decide +kernel
theorem dX7_countedValue_13 : decode cX7_countedValue 13 = .ok (.getfield 141, 3) := by decide +kernel
theorem dX7_countedValue_16 : decode cX7_countedValue 16 = .ok (.invokevirtual 158, 3) := by decide +kernel
theorem dX7_countedValue_19 : decode cX7_countedValue 19 = .ok (.ifCond .eq 13, 3) := by decide +kernel
theorem dX7_countedValue_22 : decode cX7_countedValue 22 = .ok (.aload_n 0, 1) := by decide +kernel
theorem dX7_countedValue_23 : decode cX7_countedValue 23 = .ok (.getfield 23, 3) := by decide +kernel
theorem dX7_countedValue_26 : decode cX7_countedValue 26 = .ok (.getfield 141, 3) := by decide +kernel
theorem dX7_countedValue_29 : decode cX7_countedValue 29 = .ok (.goto 6, 3) := by decide +kernel
theorem dX7_countedValue_32 : decode cX7_countedValue 32 = .ok (.ldc2_w 93, 3) := by decide +kernel
theorem dX7_countedValue_35 : decode cX7_countedValue 35 = .ok (.lreturn, 1) := by decide +kernel
theorem dX7_rowValue_0 : decode cX7_rowValue 0 = .ok (.aload_n 0, 1) := by decide +kernel
theorem dX7_rowValue_1 : decode cX7_rowValue 1 = .ok (.getfield 10, 3) := by decide +kernel
theorem dX7_rowValue_4 : decode cX7_rowValue 4 = .ok (.iload_n 1, 1) := by decide +kernel
theorem dX7_rowValue_5 : decode cX7_rowValue 5 = .ok (.invokevirtual 162, 3) := by decide +kernel
theorem dX7_rowValue_8 : decode cX7_rowValue 8 = .ok (.istore 4, 2) := by decide +kernel
theorem dX7_rowValue_10 : decode cX7_rowValue 10 = .ok (.aload_n 0, 1) := by decide +kernel
theorem dX7_rowValue_11 : decode cX7_rowValue 11 = .ok (.getfield 23, 3) := by decide +kernel
theorem dX7_rowValue_14 : decode cX7_rowValue 14 = .ok (.aload_n 0, 1) := by decide +kernel
theorem dX7_rowValue_15 : decode cX7_rowValue 15 = .ok (.getfield 10, 3) := by decide +kernel
theorem dX7_rowValue_18 : decode cX7_rowValue 18 = .ok (.getfield 165, 3) := by decide +kernel
theorem dX7_rowValue_21 : decode cX7_rowValue 21 = .ok (.iload 4, 2) := by decide +kernel
theorem dX7_rowValue_23 : decode cX7_rowValue 23 = .ok (.iload 4, 2) := by decide +kernel
theorem dX7_rowValue_25 : decode cX7_rowValue 25 = .ok (.aload_n 0, 1) := by decide +kernel
theorem dX7_rowValue_26 : decode cX7_rowValue 26 = .ok (.getfield 10, 3) := by decide +kernel
theorem dX7_rowValue_29 : decode cX7_rowValue 29 = .ok (.iload_n 1, 1) := by decide +kernel
theorem dX7_rowValue_30 : decode cX7_rowValue 30 = .ok (.invokevirtual 168, 3) := by decide +kernel
theorem dX7_rowValue_33 : decode cX7_rowValue 33 = .ok (.iadd, 1) := by decide +kernel
theorem dX7_rowValue_34 : decode cX7_rowValue 34 = .ok (.aload_n 2, 1) := by decide +kernel
theorem dX7_rowValue_35 : decode cX7_rowValue 35 = .ok (.iload_n 3, 1) := by decide +kernel
theorem dX7_rowValue_36 : decode cX7_rowValue 36 = .ok (.invokevirtual 137, 3) := by decide +kernel
theorem dX7_rowValue_39 : decode cX7_rowValue 39 = .ok (.istore 5, 2) := by decide +kernel
theorem dX7_rowValue_41 : decode cX7_rowValue 41 = .ok (.aload_n 0, 1) := by decide +kernel
theorem dX7_rowValue_42 : decode cX7_rowValue 42 = .ok (.iload 5, 2) := by decide +kernel
theorem dX7_rowValue_44 : decode cX7_rowValue 44 = .ok (.iload_n 3, 1) := by decide +kernel
theorem dX7_rowValue_45 : decode cX7_rowValue 45 = .ok (.invokevirtual 99, 3) := by decide +kernel
theorem dX7_rowValue_48 : decode cX7_rowValue 48 = .ok (.lreturn, 1) := by decide +kernel
theorem dX7_writeValue_0 : decode cX7_writeValue 0 = .ok (.aload_n 1, 1) := by decide +kernel
theorem dX7_writeValue_1 : decode cX7_writeValue 1 = .ok (.ifnonnull 5, 3) := by decide +kernel
theorem dX7_writeValue_4 : decode cX7_writeValue 4 = .ok (.iconst (-1), 1) := by decide +kernel
theorem dX7_writeValue_5 : decode cX7_writeValue 5 = .ok (.ireturn, 1) := by decide +kernel
theorem dX7_writeValue_6 : decode cX7_writeValue 6 = .ok (.iload_n 2, 1) := by decide +kernel
theorem dX7_writeValue_7 : decode cX7_writeValue 7 = .ok (.iconst 2, 1) := by decide +kernel
theorem dX7_writeValue_8 : decode cX7_writeValue 8 = .ok (.if_icmp .ne 31, 3) := by decide +kernel
theorem dX7_writeValue_11 : decode cX7_writeValue 11 = .ok (.lload_n 3, 1) := by decide +kernel
theorem dX7_writeValue_12 : decode cX7_writeValue 12 = .ok (.lconst 0, 1) := by decide +kernel
theorem dX7_writeValue_13 : decode cX7_writeValue 13 = .ok (.lcmp, 1) := by decide +kernel
theorem dX7_writeValue_14 : decode cX7_writeValue 14 = .ok (.ifCond .lt 11, 3) := by decide +kernel
theorem dX7_writeValue_17 : decode cX7_writeValue 17 = .ok (.lload_n 3, 1) := by decide +kernel
theorem dX7_writeValue_18 : decode cX7_writeValue 18 = .ok (.ldc2_w 173, 3) := by decide +kernel
theorem dX7_writeValue_21 : decode cX7_writeValue 21 = .ok (.lcmp, 1) := by decide +kernel
theorem dX7_writeValue_22 : decode cX7_writeValue 22 = .ok (.ifCond .le 5, 3) := by decide +kernel
theorem dX7_writeValue_25 : decode cX7_writeValue 25 = .ok (.iconst (-1), 1) := by decide +kernel
theorem dX7_writeValue_26 : decode cX7_writeValue 26 = .ok (.ireturn, 1) := by decide +kernel
theorem dX7_writeValue_27 : decode cX7_writeValue 27 = .ok (.aload_n 0, 1) := by decide +kernel
theorem dX7_writeValue_28 : decode cX7_writeValue 28 = .ok (.aload_n 1, 1) := by decide +kernel
theorem dX7_writeValue_29 : decode cX7_writeValue 29 = .ok (.lload_n 3, 1) := by decide +kernel
theorem dX7_writeValue_30 : decode cX7_writeValue 30 = .ok (.l2i, 1) := by decide +kernel
theorem dX7_writeValue_31 : decode cX7_writeValue 31 = .ok (.invokestatic 175, 3) := by decide +kernel
theorem dX7_writeValue_34 : decode cX7_writeValue 34 = .ok (.aload_n 0, 1) := by decide +kernel
theorem dX7_writeValue_35 : decode cX7_writeValue 35 = .ok (.invokevirtual 68, 3) := by decide +kernel
theorem dX7_writeValue_38 : decode cX7_writeValue 38 = .ok (.ireturn, 1) := by decide +kernel
theorem dX7_writeValue_39 : decode cX7_writeValue 39 = .ok (.iload_n 2, 1) := by decide +kernel
theorem dX7_writeValue_40 : decode cX7_writeValue 40 = .ok (.ifCond .eq 8, 3) := by decide +kernel
theorem dX7_writeValue_43 : decode cX7_writeValue 43 = .ok (.iload_n 2, 1) := by decide +kernel
theorem dX7_writeValue_44 : decode cX7_writeValue 44 = .ok (.iconst 1, 1) := by decide +kernel
theorem dX7_writeValue_45 : decode cX7_writeValue 45 = .ok (.if_icmp .ne 22, 3) := by decide +kernel
theorem dX7_writeValue_48 : decode cX7_writeValue 48 = .ok (.iload 5, 2) := by decide +kernel
theorem dX7_writeValue_50 : decode cX7_writeValue 50 = .ok (.ifCond .lt 17, 3) := by decide +kernel
theorem dX7_writeValue_53 : decode cX7_writeValue 53 = .ok (.iload 5, 2) := by decide +kernel
theorem dX7_writeValue_55 : decode cX7_writeValue 55 = .ok (.bipush 6, 2) := by decide +kernel
theorem dX7_writeValue_57 : decode cX7_writeValue 57 = .ok (.if_icmp .gt 10, 3) := by decide +kernel
theorem dX7_writeValue_60 : decode cX7_writeValue 60 = .ok (.lload_n 3, 1) := by decide +kernel
theorem dX7_writeValue_61 : decode cX7_writeValue 61 = .ok (.invokestatic 181, 3) := by decide +kernel
theorem dX7_writeValue_64 : decode cX7_writeValue 64 = .ok (.ifCond .ne 5, 3) := by decide +kernel
theorem dX7_writeValue_67 : decode cX7_writeValue 67 = .ok (.iconst (-1), 1) := by decide +kernel
theorem dX7_writeValue_68 : decode cX7_writeValue 68 = .ok (.ireturn, 1) := by decide +kernel
theorem dX7_writeValue_69 : decode cX7_writeValue 69 = .ok (.lload_n 3, 1) := by decide +kernel
theorem dX7_writeValue_70 : decode cX7_writeValue 70 = .ok (.iload 5, 2) := by decide +kernel
theorem dX7_writeValue_72 : decode cX7_writeValue 72 = .ok (.invokestatic 185, 3) := by decide +kernel
theorem dX7_writeValue_75 : decode cX7_writeValue 75 = .ok (.lstore 6, 2) := by decide +kernel
theorem dX7_writeValue_77 : decode cX7_writeValue 77 = .ok (.lload 6, 2) := by decide +kernel
theorem dX7_writeValue_79 : decode cX7_writeValue 79 = .ok (.invokestatic 181, 3) := by decide +kernel
theorem dX7_writeValue_82 : decode cX7_writeValue 82 = .ok (.ifCond .ne 5, 3) := by decide +kernel
theorem dX7_writeValue_85 : decode cX7_writeValue 85 = .ok (.iconst (-1), 1) := by decide +kernel
theorem dX7_writeValue_86 : decode cX7_writeValue 86 = .ok (.ireturn, 1) := by decide +kernel
theorem dX7_writeValue_87 : decode cX7_writeValue 87 = .ok (.aload_n 0, 1) := by decide +kernel
theorem dX7_writeValue_88 : decode cX7_writeValue 88 = .ok (.aload_n 1, 1) := by decide +kernel
theorem dX7_writeValue_89 : decode cX7_writeValue 89 = .ok (.iload_n 2, 1) := by decide +kernel
theorem dX7_writeValue_90 : decode cX7_writeValue 90 = .ok (.iconst 1, 1) := by decide +kernel
theorem dX7_writeValue_91 : decode cX7_writeValue 91 = .ok (.if_icmp .ne 7, 3) := by decide +kernel
theorem dX7_writeValue_94 : decode cX7_writeValue 94 = .ok (.iconst 1, 1) := by decide +kernel
theorem dX7_writeValue_95 : decode cX7_writeValue 95 = .ok (.goto 4, 3) := by decide +kernel
theorem dX7_writeValue_98 : decode cX7_writeValue 98 = .ok (.iconst 0, 1) := by decide +kernel
theorem dX7_writeValue_99 : decode cX7_writeValue 99 = .ok (.lload 6, 2) := by decide +kernel
theorem dX7_writeValue_101 : decode cX7_writeValue 101 = .ok (.iload 5, 2) := by decide +kernel
theorem dX7_writeValue_103 : decode cX7_writeValue 103 = .ok (.invokestatic 189, 3) := by decide +kernel
theorem dX7_writeValue_106 : decode cX7_writeValue 106 = .ok (.aload_n 0, 1) := by decide +kernel
theorem dX7_writeValue_107 : decode cX7_writeValue 107 = .ok (.invokevirtual 68, 3) := by decide +kernel
theorem dX7_writeValue_110 : decode cX7_writeValue 110 = .ok (.ireturn, 1) := by decide +kernel
theorem dX7_isAmount_0 : decode cX7_isAmount 0 = .ok (.lload_n 0, 1) := by decide +kernel
theorem dX7_isAmount_1 : decode cX7_isAmount 1 = .ok (.ldc2_w 193, 3) := by decide +kernel
theorem dX7_isAmount_4 : decode cX7_isAmount 4 = .ok (.lcmp, 1) := by decide +kernel
theorem dX7_isAmount_5 : decode cX7_isAmount 5 = .ok (.ifCond .lt 15, 3) := by decide +kernel
theorem dX7_isAmount_8 : decode cX7_isAmount 8 = .ok (.lload_n 0, 1) := by decide +kernel
theorem dX7_isAmount_9 : decode cX7_isAmount 9 = .ok (.ldc2_w 195, 3) := by decide +kernel
theorem dX7_isAmount_12 : decode cX7_isAmount 12 = .ok (.lcmp, 1) := by decide +kernel
theorem dX7_isAmount_13 : decode cX7_isAmount 13 = .ok (.ifCond .gt 7, 3) := by decide +kernel
theorem dX7_isAmount_16 : decode cX7_isAmount 16 = .ok (.iconst 1, 1) := by decide +kernel
theorem dX7_isAmount_17 : decode cX7_isAmount 17 = .ok (.goto 4, 3) := by decide +kernel
theorem dX7_isAmount_20 : decode cX7_isAmount 20 = .ok (.iconst 0, 1) := by decide +kernel
theorem dX7_isAmount_21 : decode cX7_isAmount 21 = .ok (.ireturn, 1) := by decide +kernel
theorem dX8_init_0 : decode cX8_init 0 = .ok (.aload_n 0, 1) := by decide +kernel
theorem dX8_init_1 : decode cX8_init 1 = .ok (.invokespecial 1, 3) := by decide +kernel
theorem dX8_init_4 : decode cX8_init 4 = .ok (.aload_n 0, 1) := by decide +kernel
theorem dX8_init_5 : decode cX8_init 5 = .ok (.iconst 4, 1) := by decide +kernel
theorem dX8_init_6 : decode cX8_init 6 = .ok (.newarray .int, 2) := by decide +kernel
theorem dX8_init_8 : decode cX8_init 8 = .ok (.putfield 7, 3) := by decide +kernel
theorem dX8_init_11 : decode cX8_init 11 = .ok (.aload_n 0, 1) := by decide +kernel
theorem dX8_init_12 : decode cX8_init 12 = .ok (.bipush 24, 2) := by decide +kernel
theorem dX8_init_14 : decode cX8_init 14 = .ok (.newarray .int, 2) := by decide +kernel
theorem dX8_init_16 : decode cX8_init 16 = .ok (.putfield 13, 3) := by decide +kernel
theorem dX8_init_19 : decode cX8_init 19 = .ok (.aload_n 0, 1) := by decide +kernel
theorem dX8_init_20 : decode cX8_init 20 = .ok (.bipush 24, 2) := by decide +kernel
theorem dX8_init_22 : decode cX8_init 22 = .ok (.newarray .int, 2) := by decide +kernel
theorem dX8_init_24 : decode cX8_init 24 = .ok (.putfield 16, 3) := by decide +kernel
theorem dX8_init_27 : decode cX8_init 27 = .ok (.aload_n 0, 1) := by decide +kernel
theorem dX8_init_28 : decode cX8_init 28 = .ok (.bipush 24, 2) := by decide +kernel
theorem dX8_init_30 : decode cX8_init 30 = .ok (.newarray .int, 2) := by decide +kernel
theorem dX8_init_32 : decode cX8_init 32 = .ok (.putfield 19, 3) := by decide +kernel
theorem dX8_init_35 : decode cX8_init 35 = .ok (.aload_n 0, 1) := by decide +kernel
theorem dX8_init_36 : decode cX8_init 36 = .ok (.bipush 24, 2) := by decide +kernel
theorem dX8_init_38 : decode cX8_init 38 = .ok (.newarray .int, 2) := by decide +kernel
theorem dX8_init_40 : decode cX8_init 40 = .ok (.putfield 22, 3) := by decide +kernel
theorem dX8_init_43 : decode cX8_init 43 = .ok (.aload_n 0, 1) := by decide +kernel
theorem dX8_init_44 : decode cX8_init 44 = .ok (.bipush 24, 2) := by decide +kernel
theorem dX8_init_46 : decode cX8_init 46 = .ok (.newarray .int, 2) := by decide +kernel
theorem dX8_init_48 : decode cX8_init 48 = .ok (.putfield 25, 3) := by decide +kernel
theorem dX8_init_51 : decode cX8_init 51 = .ok (.aload_n 0, 1) := by decide +kernel
theorem dX8_init_52 : decode cX8_init 52 = .ok (.bipush 24, 2) := by decide +kernel
theorem dX8_init_54 : decode cX8_init 54 = .ok (.newarray .boolean, 2) := by decide +kernel
theorem dX8_init_56 : decode cX8_init 56 = .ok (.putfield 28, 3) := by decide +kernel
theorem dX8_init_59 : decode cX8_init 59 = .ok (.aload_n 0, 1) := by decide +kernel
theorem dX8_init_60 : decode cX8_init 60 = .ok (.bipush 24, 2) := by decide +kernel
theorem dX8_init_62 : decode cX8_init 62 = .ok (.newarray .int, 2) := by decide +kernel
theorem dX8_init_64 : decode cX8_init 64 = .ok (.putfield 32, 3) := by decide +kernel
theorem dX8_init_67 : decode cX8_init 67 = .ok (.aload_n 0, 1) := by decide +kernel
theorem dX8_init_68 : decode cX8_init 68 = .ok (.bipush 24, 2) := by decide +kernel
theorem dX8_init_70 : decode cX8_init 70 = .ok (.newarray .int, 2) := by decide +kernel
theorem dX8_init_72 : decode cX8_init 72 = .ok (.putfield 35, 3) := by decide +kernel
theorem dX8_init_75 : decode cX8_init 75 = .ok (.aload_n 0, 1) := by decide +kernel
theorem dX8_init_76 : decode cX8_init 76 = .ok (.iconst 4, 1) := by decide +kernel
theorem dX8_init_77 : decode cX8_init 77 = .ok (.newarray .int, 2) := by decide +kernel
theorem dX8_init_79 : decode cX8_init 79 = .ok (.putfield 38, 3) := by decide +kernel
theorem dX8_init_82 : decode cX8_init 82 = .ok (.aload_n 0, 1) := by decide +kernel
theorem dX8_init_83 : decode cX8_init 83 = .ok (.sipush 240, 3) := by decide +kernel
theorem dX8_init_86 : decode cX8_init 86 = .ok (.newarray .int, 2) := by decide +kernel
theorem dX8_init_88 : decode cX8_init 88 = .ok (.putfield 41, 3) := by decide +kernel
theorem dX8_init_91 : decode cX8_init 91 = .ok (.aload_n 0, 1) := by decide +kernel
theorem dX8_init_92 : decode cX8_init 92 = .ok (.bipush 12, 2) := by decide +kernel
theorem dX8_init_94 : decode cX8_init 94 = .ok (.newarray .long, 2) := by decide +kernel
theorem dX8_init_96 : decode cX8_init 96 = .ok (.putfield 44, 3) := by decide +kernel
theorem dX8_init_99 : decode cX8_init 99 = .ok (.aload_n 0, 1) := by decide +kernel
theorem dX8_init_100 : decode cX8_init 100 = .ok (.bipush 12, 2) := by decide +kernel
theorem dX8_init_102 : decode cX8_init 102 = .ok (.newarray .long, 2) := by decide +kernel
theorem dX8_init_104 : decode cX8_init 104 = .ok (.putfield 48, 3) := by decide +kernel
theorem dX8_init_107 : decode cX8_init 107 = .ok (.aload_n 0, 1) := by decide +kernel
theorem dX8_init_108 : decode cX8_init 108 = .ok (.iconst 4, 1) := by decide +kernel
theorem dX8_init_109 : decode cX8_init 109 = .ok (.newarray .int, 2) := by decide +kernel
theorem dX8_init_111 : decode cX8_init 111 = .ok (.putfield 51, 3) := by decide +kernel
theorem dX8_init_114 : decode cX8_init 114 = .ok (.aload_n 0, 1) := by decide +kernel
theorem dX8_init_115 : decode cX8_init 115 = .ok (.bipush 120, 2) := by decide +kernel
theorem dX8_init_117 : decode cX8_init 117 = .ok (.newarray .int, 2) := by decide +kernel
theorem dX8_init_119 : decode cX8_init 119 = .ok (.putfield 54, 3) := by decide +kernel
theorem dX8_init_122 : decode cX8_init 122 = .ok (.aload_n 0, 1) := by decide +kernel
theorem dX8_init_123 : decode cX8_init 123 = .ok (.sipush 7200, 3) := by decide +kernel
theorem dX8_init_126 : decode cX8_init 126 = .ok (.newarray .byte, 2) := by decide +kernel
theorem dX8_init_128 : decode cX8_init 128 = .ok (.putfield 57, 3) := by decide +kernel
theorem dX8_init_131 : decode cX8_init 131 = .ok (.aload_n 0, 1) := by decide +kernel
theorem dX8_init_132 : decode cX8_init 132 = .ok (.iconst 4, 1) := by decide +kernel
theorem dX8_init_133 : decode cX8_init 133 = .ok (.newarray .int, 2) := by decide +kernel
theorem dX8_init_135 : decode cX8_init 135 = .ok (.putfield 61, 3) := by decide +kernel
theorem dX8_init_138 : decode cX8_init 138 = .ok (.aload_n 0, 1) := by decide +kernel
theorem dX8_init_139 : decode cX8_init 139 = .ok (.sipush 640, 3) := by decide +kernel
theorem dX8_init_142 : decode cX8_init 142 = .ok (.newarray .int, 2) := by decide +kernel
theorem dX8_init_144 : decode cX8_init 144 = .ok (.putfield 64, 3) := by decide +kernel
theorem dX8_init_147 : decode cX8_init 147 = .ok (.aload_n 0, 1) := by decide +kernel
theorem dX8_init_148 : decode cX8_init 148 = .ok (.sipush 200, 3) := by decide +kernel
theorem dX8_init_151 : decode cX8_init 151 = .ok (.newarray .int, 2) := by decide +kernel
theorem dX8_init_153 : decode cX8_init 153 = .ok (.putfield 67, 3) := by decide +kernel
theorem dX8_init_156 : decode cX8_init 156 = .ok (.aload_n 0, 1) := by decide +kernel
theorem dX8_init_157 : decode cX8_init 157 = .ok (.bipush 64, 2) := by decide +kernel
theorem dX8_init_159 : decode cX8_init 159 = .ok (.newarray .int, 2) := by decide +kernel
theorem dX8_init_161 : decode cX8_init 161 = .ok (.putfield 70, 3) := by decide +kernel
theorem dX8_init_164 : decode cX8_init 164 = .ok (.aload_n 0, 1) := by decide +kernel
theorem dX8_init_165 : decode cX8_init 165 = .ok (.bipush 64, 2) := by decide +kernel
theorem dX8_init_167 : decode cX8_init 167 = .ok (.newarray .int, 2) := by decide +kernel
theorem dX8_init_169 : decode cX8_init 169 = .ok (.putfield 73, 3) := by decide +kernel
theorem dX8_init_172 : decode cX8_init 172 = .ok (.aload_n 0, 1) := by decide +kernel
theorem dX8_init_173 : decode cX8_init 173 = .ok (.sipush 160, 3) := by decide +kernel
theorem dX8_init_176 : decode cX8_init 176 = .ok (.newarray .int, 2) := by decide +kernel
theorem dX8_init_178 : decode cX8_init 178 = .ok (.putfield 76, 3) := by decide +kernel
theorem dX8_init_181 : decode cX8_init 181 = .ok (.aload_n 0, 1) := by decide +kernel
theorem dX8_init_182 : decode cX8_init 182 = .ok (.iconst 3, 1) := by decide +kernel
theorem dX8_init_183 : decode cX8_init 183 = .ok (.newarray .boolean, 2) := by decide +kernel
theorem dX8_init_185 : decode cX8_init 185 = .ok (.putfield 79, 3) := by decide +kernel
theorem dX8_init_188 : decode cX8_init 188 = .ok (.iconst 0, 1) := by decide +kernel
theorem dX8_init_189 : decode cX8_init 189 = .ok (.istore_n 1, 1) := by decide +kernel
theorem dX8_init_190 : decode cX8_init 190 = .ok (.iload_n 1, 1) := by decide +kernel
theorem dX8_init_191 : decode cX8_init 191 = .ok (.iconst 3, 1) := by decide +kernel
theorem dX8_init_192 : decode cX8_init 192 = .ok (.if_icmp .ge 27, 3) := by decide +kernel
theorem dX8_init_195 : decode cX8_init 195 = .ok (.aload_n 0, 1) := by decide +kernel
theorem dX8_init_196 : decode cX8_init 196 = .ok (.getfield 44, 3) := by decide +kernel
theorem dX8_init_199 : decode cX8_init 199 = .ok (.iload_n 1, 1) := by decide +kernel
theorem dX8_init_200 : decode cX8_init 200 = .ok (.ldc2_w 82, 3) := by decide +kernel
theorem dX8_init_203 : decode cX8_init 203 = .ok (.lastore, 1) := by decide +kernel
theorem dX8_init_204 : decode cX8_init 204 = .ok (.aload_n 0, 1) := by decide +kernel
theorem dX8_init_205 : decode cX8_init 205 = .ok (.getfield 48, 3) := by decide +kernel
theorem dX8_init_208 : decode cX8_init 208 = .ok (.iload_n 1, 1) := by decide +kernel
theorem dX8_init_209 : decode cX8_init 209 = .ok (.ldc2_w 84, 3) := by decide +kernel
theorem dX8_init_212 : decode cX8_init 212 = .ok (.lastore, 1) := by decide +kernel
theorem dX8_init_213 : decode cX8_init 213 = .ok (.iinc 1 1, 3) := by decide +kernel
theorem dX8_init_216 : decode cX8_init 216 = .ok (.goto (-26), 3) := by decide +kernel
theorem dX8_init_219 : decode cX8_init 219 = .ok (.return_, 1) := by decide +kernel
theorem dX8_in_0 : decode cX8_in 0 = .ok (.iload_n 0, 1) := by decide +kernel
theorem dX8_in_1 : decode cX8_in 1 = .ok (.iload_n 1, 1) := by decide +kernel
theorem dX8_in_2 : decode cX8_in 2 = .ok (.if_icmp .lt 12, 3) := by decide +kernel
theorem dX8_in_5 : decode cX8_in 5 = .ok (.iload_n 0, 1) := by decide +kernel
theorem dX8_in_6 : decode cX8_in 6 = .ok (.iload_n 2, 1) := by decide +kernel
theorem dX8_in_7 : decode cX8_in 7 = .ok (.if_icmp .gt 7, 3) := by decide +kernel
theorem dX8_in_10 : decode cX8_in 10 = .ok (.iconst 1, 1) := by decide +kernel
theorem dX8_in_11 : decode cX8_in 11 = .ok (.goto 4, 3) := by decide +kernel
theorem dX8_in_14 : decode cX8_in 14 = .ok (.iconst 0, 1) := by decide +kernel
theorem dX8_in_15 : decode cX8_in 15 = .ok (.ireturn, 1) := by decide +kernel
theorem dX8_move_0 : decode cX8_move 0 = .ok (.iconst 0, 1) := by decide +kernel
theorem dX8_move_1 : decode cX8_move 1 = .ok (.istore 4, 2) := by decide +kernel
theorem dX8_move_3 : decode cX8_move 3 = .ok (.iload 4, 2) := by decide +kernel
theorem dX8_move_5 : decode cX8_move 5 = .ok (.iload_n 1, 1) := by decide +kernel
theorem dX8_move_6 : decode cX8_move 6 = .ok (.if_icmp .ge 25, 3) := by decide +kernel
theorem dX8_move_9 : decode cX8_move 9 = .ok (.aload_n 0, 1) := by decide +kernel
theorem dX8_move_10 : decode cX8_move 10 = .ok (.iload_n 1, 1) := by decide +kernel
theorem dX8_move_11 : decode cX8_move 11 = .ok (.iload_n 3, 1) := by decide +kernel
theorem dX8_move_12 : decode cX8_move 12 = .ok (.imul, 1) := by decide +kernel
theorem dX8_move_13 : decode cX8_move 13 = .ok (.iload 4, 2) := by decide +kernel
theorem dX8_move_15 : decode cX8_move 15 = .ok (.iadd, 1) := by decide +kernel
theorem dX8_move_16 : decode cX8_move 16 = .ok (.aload_n 0, 1) := by decide +kernel
theorem dX8_move_17 : decode cX8_move 17 = .ok (.iload_n 1, 1) := by decide +kernel
theorem dX8_move_18 : decode cX8_move 18 = .ok (.iload_n 2, 1) := by decide +kernel
theorem dX8_move_19 : decode cX8_move 19 = .ok (.imul, 1) := by decide +kernel
theorem dX8_move_20 : decode cX8_move 20 = .ok (.iload 4, 2) := by decide +kernel
theorem dX8_move_22 : decode cX8_move 22 = .ok (.iadd, 1) := by decide +kernel
theorem dX8_move_23 : decode cX8_move 23 = .ok (.iaload, 1) := by decide +kernel
theorem dX8_move_24 : decode cX8_move 24 = .ok (.iastore, 1) := by decide +kernel
theorem dX8_move_25 : decode cX8_move 25 = .ok (.iinc 4 1, 3) := by decide +kernel
theorem dX8_move_28 : decode cX8_move 28 = .ok (.goto (-25), 3) := by decide +kernel
theorem dX8_move_31 : decode cX8_move 31 = .ok (.return_, 1) := by decide +kernel
theorem dX8_copy_0 : decode cX8_copy 0 = .ok (.aload_n 0, 1) := by decide +kernel
theorem dX8_copy_1 : decode cX8_copy 1 = .ok (.getfield 7, 3) := by decide +kernel
theorem dX8_copy_4 : decode cX8_copy 4 = .ok (.iconst 1, 1) := by decide +kernel
theorem dX8_copy_5 : decode cX8_copy 5 = .ok (.iload_n 1, 1) := by decide +kernel
theorem dX8_copy_6 : decode cX8_copy 6 = .ok (.iload_n 2, 1) := by decide +kernel
theorem dX8_copy_7 : decode cX8_copy 7 = .ok (.invokestatic 90, 3) := by decide +kernel
theorem dX8_copy_10 : decode cX8_copy 10 = .ok (.aload_n 0, 1) := by decide +kernel
theorem dX8_copy_11 : decode cX8_copy 11 = .ok (.getfield 13, 3) := by decide +kernel
theorem dX8_copy_14 : decode cX8_copy 14 = .ok (.bipush 6, 2) := by decide +kernel
theorem dX8_copy_16 : decode cX8_copy 16 = .ok (.iload_n 1, 1) := by decide +kernel
theorem dX8_copy_17 : decode cX8_copy 17 = .ok (.iload_n 2, 1) := by decide +kernel
theorem dX8_copy_18 : decode cX8_copy 18 = .ok (.invokestatic 90, 3) := by decide +kernel
theorem dX8_copy_21 : decode cX8_copy 21 = .ok (.aload_n 0, 1) := by decide +kernel
theorem dX8_copy_22 : decode cX8_copy 22 = .ok (.getfield 16, 3) := by decide +kernel
theorem dX8_copy_25 : decode cX8_copy 25 = .ok (.bipush 6, 2) := by decide +kernel
theorem dX8_copy_27 : decode cX8_copy 27 = .ok (.iload_n 1, 1) := by decide +kernel
theorem dX8_copy_28 : decode cX8_copy 28 = .ok (.iload_n 2, 1) := by decide +kernel
theorem dX8_copy_29 : decode cX8_copy 29 = .ok (.invokestatic 90, 3) := by decide +kernel
theorem dX8_copy_32 : decode cX8_copy 32 = .ok (.aload_n 0, 1) := by decide +kernel
theorem dX8_copy_33 : decode cX8_copy 33 = .ok (.getfield 19, 3) := by decide +kernel
theorem dX8_copy_36 : decode cX8_copy 36 = .ok (.bipush 6, 2) := by decide +kernel
theorem dX8_copy_38 : decode cX8_copy 38 = .ok (.iload_n 1, 1) := by decide +kernel
theorem dX8_copy_39 : decode cX8_copy 39 = .ok (.iload_n 2, 1) := by decide +kernel
theorem dX8_copy_40 : decode cX8_copy 40 = .ok (.invokestatic 90, 3) := by decide +kernel
theorem dX8_copy_43 : decode cX8_copy 43 = .ok (.aload_n 0, 1) := by decide +kernel
theorem dX8_copy_44 : decode cX8_copy 44 = .ok (.getfield 22, 3) := by decide +kernel
theorem dX8_copy_47 : decode cX8_copy 47 = .ok (.bipush 6, 2) := by decide +kernel
theorem dX8_copy_49 : decode cX8_copy 49 = .ok (.iload_n 1, 1) := by decide +kernel
theorem dX8_copy_50 : decode cX8_copy 50 = .ok (.iload_n 2, 1) := by decide +kernel
theorem dX8_copy_51 : decode cX8_copy 51 = .ok (.invokestatic 90, 3) := by decide +kernel
theorem dX8_copy_54 : decode cX8_copy 54 = .ok (.aload_n 0, 1) := by decide +kernel
theorem dX8_copy_55 : decode cX8_copy 55 = .ok (.getfield 25, 3) := by decide +kernel
theorem dX8_copy_58 : decode cX8_copy 58 = .ok (.bipush 6, 2) := by decide +kernel
theorem dX8_copy_60 : decode cX8_copy 60 = .ok (.iload_n 1, 1) := by decide +kernel
theorem dX8_copy_61 : decode cX8_copy 61 = .ok (.iload_n 2, 1) := by decide +kernel
theorem dX8_copy_62 : decode cX8_copy 62 = .ok (.invokestatic 90, 3) := by decide +kernel
theorem dX8_copy_65 : decode cX8_copy 65 = .ok (.aload_n 0, 1) := by decide +kernel
theorem dX8_copy_66 : decode cX8_copy 66 = .ok (.getfield 32, 3) := by decide +kernel
theorem dX8_copy_69 : decode cX8_copy 69 = .ok (.bipush 6, 2) := by decide +kernel
theorem dX8_copy_71 : decode cX8_copy 71 = .ok (.iload_n 1, 1) := by decide +kernel
theorem dX8_copy_72 : decode cX8_copy 72 = .ok (.iload_n 2, 1) := by decide +kernel
theorem dX8_copy_73 : decode cX8_copy 73 = .ok (.invokestatic 90, 3) := by decide +kernel
theorem dX8_copy_76 : decode cX8_copy 76 = .ok (.aload_n 0, 1) := by decide +kernel
theorem dX8_copy_77 : decode cX8_copy 77 = .ok (.getfield 35, 3) := by decide +kernel
theorem dX8_copy_80 : decode cX8_copy 80 = .ok (.bipush 6, 2) := by decide +kernel
theorem dX8_copy_82 : decode cX8_copy 82 = .ok (.iload_n 1, 1) := by decide +kernel
theorem dX8_copy_83 : decode cX8_copy 83 = .ok (.iload_n 2, 1) := by decide +kernel
theorem dX8_copy_84 : decode cX8_copy 84 = .ok (.invokestatic 90, 3) := by decide +kernel
theorem dX8_copy_87 : decode cX8_copy 87 = .ok (.aload_n 0, 1) := by decide +kernel
theorem dX8_copy_88 : decode cX8_copy 88 = .ok (.getfield 38, 3) := by decide +kernel
theorem dX8_copy_91 : decode cX8_copy 91 = .ok (.iconst 1, 1) := by decide +kernel
theorem dX8_copy_92 : decode cX8_copy 92 = .ok (.iload_n 1, 1) := by decide +kernel
theorem dX8_copy_93 : decode cX8_copy 93 = .ok (.iload_n 2, 1) := by decide +kernel
theorem dX8_copy_94 : decode cX8_copy 94 = .ok (.invokestatic 90, 3) := by decide +kernel
theorem dX8_copy_97 : decode cX8_copy 97 = .ok (.aload_n 0, 1) := by decide +kernel
theorem dX8_copy_98 : decode cX8_copy 98 = .ok (.getfield 41, 3) := by decide +kernel
theorem dX8_copy_101 : decode cX8_copy 101 = .ok (.bipush 60, 2) := by decide +kernel
theorem dX8_copy_103 : decode cX8_copy 103 = .ok (.iload_n 1, 1) := by decide +kernel
theorem dX8_copy_104 : decode cX8_copy 104 = .ok (.iload_n 2, 1) := by decide +kernel
theorem dX8_copy_105 : decode cX8_copy 105 = .ok (.invokestatic 90, 3) := by decide +kernel
theorem dX8_copy_108 : decode cX8_copy 108 = .ok (.aload_n 0, 1) := by decide +kernel
theorem dX8_copy_109 : decode cX8_copy 109 = .ok (.getfield 51, 3) := by decide +kernel
theorem dX8_copy_112 : decode cX8_copy 112 = .ok (.iconst 1, 1) := by decide +kernel
theorem dX8_copy_113 : decode cX8_copy 113 = .ok (.iload_n 1, 1) := by decide +kernel
theorem dX8_copy_114 : decode cX8_copy 114 = .ok (.iload_n 2, 1) := by decide +kernel
theorem dX8_copy_115 : decode cX8_copy 115 = .ok (.invokestatic 90, 3) := by decide +kernel
theorem dX8_copy_118 : decode cX8_copy 118 = .ok (.aload_n 0, 1) := by decide +kernel
theorem dX8_copy_119 : decode cX8_copy 119 = .ok (.getfield 54, 3) := by decide +kernel
theorem dX8_copy_122 : decode cX8_copy 122 = .ok (.bipush 30, 2) := by decide +kernel
theorem dX8_copy_124 : decode cX8_copy 124 = .ok (.iload_n 1, 1) := by decide +kernel
theorem dX8_copy_125 : decode cX8_copy 125 = .ok (.iload_n 2, 1) := by decide +kernel
theorem dX8_copy_126 : decode cX8_copy 126 = .ok (.invokestatic 90, 3) := by decide +kernel
theorem dX8_copy_129 : decode cX8_copy 129 = .ok (.aload_n 0, 1) := by decide +kernel
theorem dX8_copy_130 : decode cX8_copy 130 = .ok (.getfield 61, 3) := by decide +kernel
theorem dX8_copy_133 : decode cX8_copy 133 = .ok (.iconst 1, 1) := by decide +kernel
theorem dX8_copy_134 : decode cX8_copy 134 = .ok (.iload_n 1, 1) := by decide +kernel
theorem dX8_copy_135 : decode cX8_copy 135 = .ok (.iload_n 2, 1) := by decide +kernel
theorem dX8_copy_136 : decode cX8_copy 136 = .ok (.invokestatic 90, 3) := by decide +kernel
theorem dX8_copy_139 : decode cX8_copy 139 = .ok (.aload_n 0, 1) := by decide +kernel
theorem dX8_copy_140 : decode cX8_copy 140 = .ok (.getfield 64, 3) := by decide +kernel
theorem dX8_copy_143 : decode cX8_copy 143 = .ok (.sipush 160, 3) := by decide +kernel
theorem dX8_copy_146 : decode cX8_copy 146 = .ok (.iload_n 1, 1) := by decide +kernel
theorem dX8_copy_147 : decode cX8_copy 147 = .ok (.iload_n 2, 1) := by decide +kernel
theorem dX8_copy_148 : decode cX8_copy 148 = .ok (.invokestatic 90, 3) := by decide +kernel
theorem dX8_copy_151 : decode cX8_copy 151 = .ok (.iconst 0, 1) := by decide +kernel
theorem dX8_copy_152 : decode cX8_copy 152 = .ok (.istore_n 3, 1) := by decide +kernel
theorem dX8_copy_153 : decode cX8_copy 153 = .ok (.iload_n 3, 1) := by decide +kernel
theorem dX8_copy_154 : decode cX8_copy 154 = .ok (.bipush 6, 2) := by decide +kernel
theorem dX8_copy_156 : decode cX8_copy 156 = .ok (.if_icmp .ge 31, 3) := by decide +kernel
theorem dX8_copy_159 : decode cX8_copy 159 = .ok (.aload_n 0, 1) := by decide +kernel
theorem dX8_copy_160 : decode cX8_copy 160 = .ok (.getfield 28, 3) := by decide +kernel
theorem dX8_copy_163 : decode cX8_copy 163 = .ok (.bipush 6, 2) := by decide +kernel
theorem dX8_copy_165 : decode cX8_copy 165 = .ok (.iload_n 2, 1) := by decide +kernel
theorem dX8_copy_166 : decode cX8_copy 166 = .ok (.imul, 1) := by decide +kernel
theorem dX8_copy_167 : decode cX8_copy 167 = .ok (.iload_n 3, 1) := by decide +kernel
theorem dX8_copy_168 : decode cX8_copy 168 = .ok (.iadd, 1) := by decide +kernel
theorem dX8_copy_169 : decode cX8_copy 169 = .ok (.aload_n 0, 1) := by decide +kernel
theorem dX8_copy_170 : decode cX8_copy 170 = .ok (.getfield 28, 3) := by decide +kernel
theorem dX8_copy_173 : decode cX8_copy 173 = .ok (.bipush 6, 2) := by decide +kernel
theorem dX8_copy_175 : decode cX8_copy 175 = .ok (.iload_n 1, 1) := by decide +kernel
theorem dX8_copy_176 : decode cX8_copy 176 = .ok (.imul, 1) := by decide +kernel
theorem dX8_copy_177 : decode cX8_copy 177 = .ok (.iload_n 3, 1) := by decide +kernel
theorem dX8_copy_178 : decode cX8_copy 178 = .ok (.iadd, 1) := by decide +kernel
theorem dX8_copy_179 : decode cX8_copy 179 = .ok (.baload, 1) := by decide +kernel
theorem dX8_copy_180 : decode cX8_copy 180 = .ok (.bastore, 1) := by decide +kernel
theorem dX8_copy_181 : decode cX8_copy 181 = .ok (.iinc 3 1, 3) := by decide +kernel
theorem dX8_copy_184 : decode cX8_copy 184 = .ok (.goto (-31), 3) := by decide +kernel
theorem dX8_copy_187 : decode cX8_copy 187 = .ok (.iconst 0, 1) := by decide +kernel
theorem dX8_copy_188 : decode cX8_copy 188 = .ok (.istore_n 3, 1) := by decide +kernel
theorem dX8_copy_189 : decode cX8_copy 189 = .ok (.iload_n 3, 1) := by decide +kernel
theorem dX8_copy_190 : decode cX8_copy 190 = .ok (.iconst 3, 1) := by decide +kernel
theorem dX8_copy_191 : decode cX8_copy 191 = .ok (.if_icmp .ge 49, 3) := by decide +kernel
theorem dX8_copy_194 : decode cX8_copy 194 = .ok (.aload_n 0, 1) := by decide +kernel
theorem dX8_copy_195 : decode cX8_copy 195 = .ok (.getfield 44, 3) := by decide +kernel
theorem dX8_copy_198 : decode cX8_copy 198 = .ok (.iconst 3, 1) := by decide +kernel
theorem dX8_copy_199 : decode cX8_copy 199 = .ok (.iload_n 2, 1) := by decide +kernel
theorem dX8_copy_200 : decode cX8_copy 200 = .ok (.imul, 1) := by decide +kernel
theorem dX8_copy_201 : decode cX8_copy 201 = .ok (.iload_n 3, 1) := by decide +kernel
theorem dX8_copy_202 : decode cX8_copy 202 = .ok (.iadd, 1) := by decide +kernel
theorem dX8_copy_203 : decode cX8_copy 203 = .ok (.aload_n 0, 1) := by decide +kernel
theorem dX8_copy_204 : decode cX8_copy 204 = .ok (.getfield 44, 3) := by decide +kernel
theorem dX8_copy_207 : decode cX8_copy 207 = .ok (.iconst 3, 1) := by decide +kernel
theorem dX8_copy_208 : decode cX8_copy 208 = .ok (.iload_n 1, 1) := by decide +kernel
theorem dX8_copy_209 : decode cX8_copy 209 = .ok (.imul, 1) := by decide +kernel
theorem dX8_copy_210 : decode cX8_copy 210 = .ok (.iload_n 3, 1) := by decide +kernel
theorem dX8_copy_211 : decode cX8_copy 211 = .ok (.iadd, 1) := by decide +kernel
theorem dX8_copy_212 : decode cX8_copy 212 = .ok (.laload, 1) := by decide +kernel
theorem dX8_copy_213 : decode cX8_copy 213 = .ok (.lastore, 1) := by decide +kernel
theorem dX8_copy_214 : decode cX8_copy 214 = .ok (.aload_n 0, 1) := by decide +kernel
theorem dX8_copy_215 : decode cX8_copy 215 = .ok (.getfield 48, 3) := by decide +kernel
theorem dX8_copy_218 : decode cX8_copy 218 = .ok (.iconst 3, 1) := by decide +kernel
theorem dX8_copy_219 : decode cX8_copy 219 = .ok (.iload_n 2, 1) := by decide +kernel
theorem dX8_copy_220 : decode cX8_copy 220 = .ok (.imul, 1) := by decide +kernel
theorem dX8_copy_221 : decode cX8_copy 221 = .ok (.iload_n 3, 1) := by decide +kernel
theorem dX8_copy_222 : decode cX8_copy 222 = .ok (.iadd, 1) := by decide +kernel
theorem dX8_copy_223 : decode cX8_copy 223 = .ok (.aload_n 0, 1) := by decide +kernel
theorem dX8_copy_224 : decode cX8_copy 224 = .ok (.getfield 48, 3) := by decide +kernel
theorem dX8_copy_227 : decode cX8_copy 227 = .ok (.iconst 3, 1) := by decide +kernel
theorem dX8_copy_228 : decode cX8_copy 228 = .ok (.iload_n 1, 1) := by decide +kernel
theorem dX8_copy_229 : decode cX8_copy 229 = .ok (.imul, 1) := by decide +kernel
theorem dX8_copy_230 : decode cX8_copy 230 = .ok (.iload_n 3, 1) := by decide +kernel
theorem dX8_copy_231 : decode cX8_copy 231 = .ok (.iadd, 1) := by decide +kernel
theorem dX8_copy_232 : decode cX8_copy 232 = .ok (.laload, 1) := by decide +kernel
theorem dX8_copy_233 : decode cX8_copy 233 = .ok (.lastore, 1) := by decide +kernel
theorem dX8_copy_234 : decode cX8_copy 234 = .ok (.iinc 3 1, 3) := by decide +kernel
theorem dX8_copy_237 : decode cX8_copy 237 = .ok (.goto (-48), 3) := by decide +kernel
theorem dX8_copy_240 : decode cX8_copy 240 = .ok (.iconst 0, 1) := by decide +kernel
theorem dX8_copy_241 : decode cX8_copy 241 = .ok (.istore_n 3, 1) := by decide +kernel
theorem dX8_copy_242 : decode cX8_copy 242 = .ok (.iload_n 3, 1) := by decide +kernel
theorem dX8_copy_243 : decode cX8_copy 243 = .ok (.sipush 1800, 3) := by decide +kernel
theorem dX8_copy_246 : decode cX8_copy 246 = .ok (.if_icmp .ge 33, 3) := by decide +kernel
theorem dX8_copy_249 : decode cX8_copy 249 = .ok (.aload_n 0, 1) := by decide +kernel
theorem dX8_copy_250 : decode cX8_copy 250 = .ok (.getfield 57, 3) := by decide +kernel
theorem dX8_copy_253 : decode cX8_copy 253 = .ok (.sipush 1800, 3) := by decide +kernel
theorem dX8_copy_256 : decode cX8_copy 256 = .ok (.iload_n 2, 1) := by decide +kernel
theorem dX8_copy_257 : decode cX8_copy 257 = .ok (.imul, 1) := by decide +kernel
theorem dX8_copy_258 : decode cX8_copy 258 = .ok (.iload_n 3, 1) := by decide +kernel
theorem dX8_copy_259 : decode cX8_copy 259 = .ok (.iadd, 1) := by decide +kernel
theorem dX8_copy_260 : decode cX8_copy 260 = .ok (.aload_n 0, 1) := by decide +kernel
theorem dX8_copy_261 : decode cX8_copy 261 = .ok (.getfield 57, 3) := by decide +kernel
theorem dX8_copy_264 : decode cX8_copy 264 = .ok (.sipush 1800, 3) := by decide +kernel
theorem dX8_copy_267 : decode cX8_copy 267 = .ok (.iload_n 1, 1) := by decide +kernel
theorem dX8_copy_268 : decode cX8_copy 268 = .ok (.imul, 1) := by decide +kernel
theorem dX8_copy_269 : decode cX8_copy 269 = .ok (.iload_n 3, 1) := by decide +kernel
theorem dX8_copy_270 : decode cX8_copy 270 = .ok (.iadd, 1) := by decide +kernel
theorem dX8_copy_271 : decode cX8_copy 271 = .ok (.baload, 1) := by decide +kernel
theorem dX8_copy_272 : decode cX8_copy 272 = .ok (.bastore, 1) := by decide +kernel
theorem dX8_copy_273 : decode cX8_copy 273 = .ok (.iinc 3 1, 3) := by decide +kernel
theorem dX8_copy_276 : decode cX8_copy 276 = .ok (.goto (-34), 3) := by decide +kernel
theorem dX8_copy_279 : decode cX8_copy 279 = .ok (.return_, 1) := by decide +kernel
theorem dX8_isLand_0 : decode cX8_isLand 0 = .ok (.iload_n 1, 1) := by decide +kernel
theorem dX8_isLand_1 : decode cX8_isLand 1 = .ok (.iconst 0, 1) := by decide +kernel
theorem dX8_isLand_2 : decode cX8_isLand 2 = .ok (.aload_n 0, 1) := by decide +kernel
theorem dX8_isLand_3 : decode cX8_isLand 3 = .ok (.getfield 7, 3) := by decide +kernel
theorem dX8_isLand_6 : decode cX8_isLand 6 = .ok (.iconst 0, 1) := by decide +kernel
theorem dX8_isLand_7 : decode cX8_isLand 7 = .ok (.iaload, 1) := by decide +kernel
theorem dX8_isLand_8 : decode cX8_isLand 8 = .ok (.iconst 1, 1) := by decide +kernel
theorem dX8_isLand_9 : decode cX8_isLand 9 = .ok (.isub, 1) := by decide +kernel
theorem dX8_isLand_10 : decode cX8_isLand 10 = .ok (.invokestatic 94, 3) := by decide +kernel
theorem dX8_isLand_13 : decode cX8_isLand 13 = .ok (.ireturn, 1) := by decide +kernel
theorem dX8_land_0 : decode cX8_land 0 = .ok (.aload_n 0, 1) := by decide +kernel
theorem dX8_land_1 : decode cX8_land 1 = .ok (.iconst 0, 1) := by decide +kernel
theorem dX8_land_2 : decode cX8_land 2 = .ok (.putfield 86, 3) := by decide +kernel
theorem dX8_land_5 : decode cX8_land 5 = .ok (.iload_n 1, 1) := by decide +kernel
theorem dX8_land_6 : decode cX8_land 6 = .ok (.bipush 44, 2) := by decide +kernel
theorem dX8_land_8 : decode cX8_land 8 = .ok (.if_icmp .eq 9, 3) := by decide +kernel
theorem dX8_land_11 : decode cX8_land 11 = .ok (.iload_n 1, 1) := by decide +kernel
theorem dX8_land_12 : decode cX8_land 12 = .ok (.bipush 46, 2) := by decide +kernel
theorem dX8_land_14 : decode cX8_land 14 = .ok (.if_icmp .ne 61, 3) := by decide +kernel
theorem dX8_land_17 : decode cX8_land 17 = .ok (.iload_n 2, 1) := by decide +kernel
theorem dX8_land_18 : decode cX8_land 18 = .ok (.bipush 44, 2) := by decide +kernel
theorem dX8_land_20 : decode cX8_land 20 = .ok (.if_icmp .eq 25, 3) := by decide +kernel
theorem dX8_land_23 : decode cX8_land 23 = .ok (.iload_n 2, 1) := by decide +kernel
theorem dX8_land_24 : decode cX8_land 24 = .ok (.bipush 46, 2) := by decide +kernel
theorem dX8_land_26 : decode cX8_land 26 = .ok (.if_icmp .eq 19, 3) := by decide +kernel
theorem dX8_land_29 : decode cX8_land 29 = .ok (.iload_n 2, 1) := by decide +kernel
theorem dX8_land_30 : decode cX8_land 30 = .ok (.bipush 32, 2) := by decide +kernel
theorem dX8_land_32 : decode cX8_land 32 = .ok (.if_icmp .eq 13, 3) := by decide +kernel
theorem dX8_land_35 : decode cX8_land 35 = .ok (.iload_n 2, 1) := by decide +kernel
theorem dX8_land_36 : decode cX8_land 36 = .ok (.bipush 39, 2) := by decide +kernel
theorem dX8_land_38 : decode cX8_land 38 = .ok (.if_icmp .eq 7, 3) := by decide +kernel
theorem dX8_land_41 : decode cX8_land 41 = .ok (.iload_n 2, 1) := by decide +kernel
theorem dX8_land_42 : decode cX8_land 42 = .ok (.ifCond .ne 33, 3) := by decide +kernel
theorem dX8_land_45 : decode cX8_land 45 = .ok (.iload_n 2, 1) := by decide +kernel
theorem dX8_land_46 : decode cX8_land 46 = .ok (.iload_n 1, 1) := by decide +kernel
theorem dX8_land_47 : decode cX8_land 47 = .ok (.if_icmp .eq 28, 3) := by decide +kernel
theorem dX8_land_50 : decode cX8_land 50 = .ok (.iload 8, 2) := by decide +kernel
theorem dX8_land_52 : decode cX8_land 52 = .ok (.bipush 47, 2) := by decide +kernel
theorem dX8_land_54 : decode cX8_land 54 = .ok (.if_icmp .eq 17, 3) := by decide +kernel
theorem dX8_land_57 : decode cX8_land 57 = .ok (.iload 8, 2) := by decide +kernel
theorem dX8_land_59 : decode cX8_land 59 = .ok (.bipush 46, 2) := by decide +kernel
theorem dX8_land_61 : decode cX8_land 61 = .ok (.if_icmp .eq 10, 3) := by decide +kernel
theorem dX8_land_64 : decode cX8_land 64 = .ok (.iload 8, 2) := by decide +kernel
theorem dX8_land_66 : decode cX8_land 66 = .ok (.bipush 45, 2) := by decide +kernel
theorem dX8_land_68 : decode cX8_land 68 = .ok (.if_icmp .ne 7, 3) := by decide +kernel
theorem dX8_land_71 : decode cX8_land 71 = .ok (.iconst 1, 1) := by decide +kernel
theorem dX8_land_72 : decode cX8_land 72 = .ok (.goto 4, 3) := by decide +kernel
theorem dX8_land_75 : decode cX8_land 75 = .ok (.iconst 0, 1) := by decide +kernel
theorem dX8_land_76 : decode cX8_land 76 = .ok (.istore 9, 2) := by decide +kernel
theorem dX8_land_78 : decode cX8_land 78 = .ok (.iload 5, 2) := by decide +kernel
theorem dX8_land_80 : decode cX8_land 80 = .ok (.bipush 24, 2) := by decide +kernel
theorem dX8_land_82 : decode cX8_land 82 = .ok (.ishr, 1) := by decide +kernel
theorem dX8_land_83 : decode cX8_land 83 = .ok (.ifCond .ne 61, 3) := by decide +kernel
theorem dX8_land_86 : decode cX8_land 86 = .ok (.iload 5, 2) := by decide +kernel
theorem dX8_land_88 : decode cX8_land 88 = .ok (.bipush 16, 2) := by decide +kernel
theorem dX8_land_90 : decode cX8_land 90 = .ok (.ishr, 1) := by decide +kernel
theorem dX8_land_91 : decode cX8_land 91 = .ok (.sipush 255, 3) := by decide +kernel
theorem dX8_land_94 : decode cX8_land 94 = .ok (.iand, 1) := by decide +kernel
theorem dX8_land_95 : decode cX8_land 95 = .ok (.bipush 65, 2) := by decide +kernel
theorem dX8_land_97 : decode cX8_land 97 = .ok (.bipush 90, 2) := by decide +kernel
theorem dX8_land_99 : decode cX8_land 99 = .ok (.invokestatic 94, 3) := by decide +kernel
theorem dX8_land_102 : decode cX8_land 102 = .ok (.ifCond .eq 42, 3) := by decide +kernel
theorem dX8_land_105 : decode cX8_land 105 = .ok (.iload 5, 2) := by decide +kernel
theorem dX8_land_107 : decode cX8_land 107 = .ok (.bipush 8, 2) := by decide +kernel
theorem dX8_land_109 : decode cX8_land 109 = .ok (.ishr, 1) := by decide +kernel
theorem dX8_land_110 : decode cX8_land 110 = .ok (.sipush 255, 3) := by decide +kernel
theorem dX8_land_113 : decode cX8_land 113 = .ok (.iand, 1) := by decide +kernel
theorem dX8_land_114 : decode cX8_land 114 = .ok (.bipush 65, 2) := by decide +kernel
theorem dX8_land_116 : decode cX8_land 116 = .ok (.bipush 90, 2) := by decide +kernel
theorem dX8_land_118 : decode cX8_land 118 = .ok (.invokestatic 94, 3) := by decide +kernel
theorem dX8_land_121 : decode cX8_land 121 = .ok (.ifCond .eq 23, 3) := by decide +kernel
theorem dX8_land_124 : decode cX8_land 124 = .ok (.iload 5, 2) := by decide +kernel
theorem dX8_land_126 : decode cX8_land 126 = .ok (.sipush 255, 3) := by decide +kernel
theorem dX8_land_129 : decode cX8_land 129 = .ok (.iand, 1) := by decide +kernel
theorem dX8_land_130 : decode cX8_land 130 = .ok (.bipush 65, 2) := by decide +kernel
theorem dX8_land_132 : decode cX8_land 132 = .ok (.bipush 90, 2) := by decide +kernel
theorem dX8_land_134 : decode cX8_land 134 = .ok (.invokestatic 94, 3) := by decide +kernel
theorem dX8_land_137 : decode cX8_land 137 = .ok (.ifCond .eq 7, 3) := by decide +kernel
theorem dX8_land_140 : decode cX8_land 140 = .ok (.iconst 1, 1) := by decide +kernel
theorem dX8_land_141 : decode cX8_land 141 = .ok (.goto 4, 3) := by decide +kernel
theorem dX8_land_144 : decode cX8_land 144 = .ok (.iconst 0, 1) := by decide +kernel
theorem dX8_land_145 : decode cX8_land 145 = .ok (.istore 10, 2) := by decide +kernel
theorem dX8_land_147 : decode cX8_land 147 = .ok (.aload_n 0, 1) := by decide +kernel
theorem dX8_land_148 : decode cX8_land 148 = .ok (.getfield 7, 3) := by decide +kernel
theorem dX8_land_151 : decode cX8_land 151 = .ok (.iconst 0, 1) := by decide +kernel
theorem dX8_land_152 : decode cX8_land 152 = .ok (.iaload, 1) := by decide +kernel
theorem dX8_land_153 : decode cX8_land 153 = .ok (.bipush 6, 2) := by decide +kernel
theorem dX8_land_155 : decode cX8_land 155 = .ok (.if_icmp .eq 42, 3) := by decide +kernel
theorem dX8_land_158 : decode cX8_land 158 = .ok (.iload 9, 2) := by decide +kernel
theorem dX8_land_160 : decode cX8_land 160 = .ok (.ifCond .eq 37, 3) := by decide +kernel
theorem dX8_land_163 : decode cX8_land 163 = .ok (.iload 10, 2) := by decide +kernel
theorem dX8_land_165 : decode cX8_land 165 = .ok (.ifCond .eq 32, 3) := by decide +kernel
theorem dX8_land_168 : decode cX8_land 168 = .ok (.iload_n 3, 1) := by decide +kernel
theorem dX8_land_169 : decode cX8_land 169 = .ok (.iconst 0, 1) := by decide +kernel
theorem dX8_land_170 : decode cX8_land 170 = .ok (.iconst 1, 1) := by decide +kernel
theorem dX8_land_171 : decode cX8_land 171 = .ok (.invokestatic 94, 3) := by decide +kernel
theorem dX8_land_174 : decode cX8_land 174 = .ok (.ifCond .eq 23, 3) := by decide +kernel
theorem dX8_land_177 : decode cX8_land 177 = .ok (.iload 4, 2) := by decide +kernel
theorem dX8_land_179 : decode cX8_land 179 = .ok (.iconst 0, 1) := by decide +kernel
theorem dX8_land_180 : decode cX8_land 180 = .ok (.iconst 2, 1) := by decide +kernel
theorem dX8_land_181 : decode cX8_land 181 = .ok (.invokestatic 94, 3) := by decide +kernel
theorem dX8_land_184 : decode cX8_land 184 = .ok (.ifCond .eq 13, 3) := by decide +kernel
theorem dX8_land_187 : decode cX8_land 187 = .ok (.iload 7, 2) := by decide +kernel
theorem dX8_land_189 : decode cX8_land 189 = .ok (.iconst 0, 1) := by decide +kernel
theorem dX8_land_190 : decode cX8_land 190 = .ok (.iconst 2, 1) := by decide +kernel
theorem dX8_land_191 : decode cX8_land 191 = .ok (.invokestatic 94, 3) := by decide +kernel
theorem dX8_land_194 : decode cX8_land 194 = .ok (.ifCond .ne 5, 3) := by decide +kernel
theorem dX8_land_197 : decode cX8_land 197 = .ok (.iconst (-1), 1) := by decide +kernel
theorem dX8_land_198 : decode cX8_land 198 = .ok (.ireturn, 1) := by decide +kernel
theorem dX8_land_199 : decode cX8_land 199 = .ok (.aload_n 0, 1) := by decide +kernel
theorem dX8_land_200 : decode cX8_land 200 = .ok (.getfield 7, 3) := by decide +kernel
theorem dX8_land_203 : decode cX8_land 203 = .ok (.iconst 0, 1) := by decide +kernel
theorem dX8_land_204 : decode cX8_land 204 = .ok (.iaload, 1) := by decide +kernel
theorem dX8_land_205 : decode cX8_land 205 = .ok (.istore 11, 2) := by decide +kernel
theorem dX8_land_207 : decode cX8_land 207 = .ok (.aload_n 0, 1) := by decide +kernel
theorem dX8_land_208 : decode cX8_land 208 = .ok (.getfield 7, 3) := by decide +kernel
theorem dX8_land_211 : decode cX8_land 211 = .ok (.iconst 0, 1) := by decide +kernel
theorem dX8_land_212 : decode cX8_land 212 = .ok (.dup2, 1) := by decide +kernel
theorem dX8_land_213 : decode cX8_land 213 = .ok (.iaload, 1) := by decide +kernel
theorem dX8_land_214 : decode cX8_land 214 = .ok (.iconst 1, 1) := by decide +kernel
theorem dX8_land_215 : decode cX8_land 215 = .ok (.iadd, 1) := by decide +kernel
theorem dX8_land_216 : decode cX8_land 216 = .ok (.iastore, 1) := by decide +kernel
theorem dX8_land_217 : decode cX8_land 217 = .ok (.aload_n 0, 1) := by decide +kernel
theorem dX8_land_218 : decode cX8_land 218 = .ok (.getfield 13, 3) := by decide +kernel
theorem dX8_land_221 : decode cX8_land 221 = .ok (.iload 11, 2) := by decide +kernel
theorem dX8_land_223 : decode cX8_land 223 = .ok (.iload_n 1, 1) := by decide +kernel
theorem dX8_land_224 : decode cX8_land 224 = .ok (.iastore, 1) := by decide +kernel
theorem dX8_land_225 : decode cX8_land 225 = .ok (.aload_n 0, 1) := by decide +kernel
theorem dX8_land_226 : decode cX8_land 226 = .ok (.getfield 16, 3) := by decide +kernel
theorem dX8_land_229 : decode cX8_land 229 = .ok (.iload 11, 2) := by decide +kernel
theorem dX8_land_231 : decode cX8_land 231 = .ok (.iload_n 2, 1) := by decide +kernel
theorem dX8_land_232 : decode cX8_land 232 = .ok (.iastore, 1) := by decide +kernel
theorem dX8_land_233 : decode cX8_land 233 = .ok (.aload_n 0, 1) := by decide +kernel
theorem dX8_land_234 : decode cX8_land 234 = .ok (.getfield 19, 3) := by decide +kernel
theorem dX8_land_237 : decode cX8_land 237 = .ok (.iload 11, 2) := by decide +kernel
theorem dX8_land_239 : decode cX8_land 239 = .ok (.iload_n 3, 1) := by decide +kernel
theorem dX8_land_240 : decode cX8_land 240 = .ok (.iastore, 1) := by decide +kernel
theorem dX8_land_241 : decode cX8_land 241 = .ok (.aload_n 0, 1) := by decide +kernel
theorem dX8_land_242 : decode cX8_land 242 = .ok (.getfield 22, 3) := by decide +kernel
theorem dX8_land_245 : decode cX8_land 245 = .ok (.iload 11, 2) := by decide +kernel
theorem dX8_land_247 : decode cX8_land 247 = .ok (.iload 4, 2) := by decide +kernel
theorem dX8_land_249 : decode cX8_land 249 = .ok (.iastore, 1) := by decide +kernel
theorem dX8_land_250 : decode cX8_land 250 = .ok (.aload_n 0, 1) := by decide +kernel
theorem dX8_land_251 : decode cX8_land 251 = .ok (.getfield 25, 3) := by decide +kernel
theorem dX8_land_254 : decode cX8_land 254 = .ok (.iload 11, 2) := by decide +kernel
theorem dX8_land_256 : decode cX8_land 256 = .ok (.iload 5, 2) := by decide +kernel
theorem dX8_land_258 : decode cX8_land 258 = .ok (.iastore, 1) := by decide +kernel
theorem dX8_land_259 : decode cX8_land 259 = .ok (.aload_n 0, 1) := by decide +kernel
theorem dX8_land_260 : decode cX8_land 260 = .ok (.getfield 28, 3) := by decide +kernel
theorem dX8_land_263 : decode cX8_land 263 = .ok (.iload 11, 2) := by decide +kernel
theorem dX8_land_265 : decode cX8_land 265 = .ok (.iload 6, 2) := by decide +kernel
theorem dX8_land_267 : decode cX8_land 267 = .ok (.bastore, 1) := by decide +kernel
theorem dX8_land_268 : decode cX8_land 268 = .ok (.aload_n 0, 1) := by decide +kernel
theorem dX8_land_269 : decode cX8_land 269 = .ok (.getfield 32, 3) := by decide +kernel
theorem dX8_land_272 : decode cX8_land 272 = .ok (.iload 11, 2) := by decide +kernel
theorem dX8_land_274 : decode cX8_land 274 = .ok (.iload 7, 2) := by decide +kernel
theorem dX8_land_276 : decode cX8_land 276 = .ok (.iastore, 1) := by decide +kernel
theorem dX8_land_277 : decode cX8_land 277 = .ok (.aload_n 0, 1) := by decide +kernel
theorem dX8_land_278 : decode cX8_land 278 = .ok (.getfield 35, 3) := by decide +kernel
theorem dX8_land_281 : decode cX8_land 281 = .ok (.iload 11, 2) := by decide +kernel
theorem dX8_land_283 : decode cX8_land 283 = .ok (.iload 8, 2) := by decide +kernel
theorem dX8_land_285 : decode cX8_land 285 = .ok (.iastore, 1) := by decide +kernel
theorem dX8_land_286 : decode cX8_land 286 = .ok (.iload 11, 2) := by decide +kernel
theorem dX8_land_288 : decode cX8_land 288 = .ok (.ireturn, 1) := by decide +kernel
theorem dX8_key_0 : decode cX8_key 0 = .ok (.aload_n 0, 1) := by decide +kernel
theorem dX8_key_1 : decode cX8_key 1 = .ok (.iconst 0, 1) := by decide +kernel
theorem dX8_key_2 : decode cX8_key 2 = .ok (.putfield 86, 3) := by decide +kernel
theorem dX8_key_5 : decode cX8_key 5 = .ok (.iload_n 1, 1) := by decide +kernel
theorem dX8_key_6 : decode cX8_key 6 = .ok (.iconst 0, 1) := by decide +kernel
theorem dX8_key_7 : decode cX8_key 7 = .ok (.sipush 255, 3) := by decide +kernel
theorem dX8_key_10 : decode cX8_key 10 = .ok (.invokestatic 94, 3) := by decide +kernel
theorem dX8_key_13 : decode cX8_key 13 = .ok (.ifCond .eq 14, 3) := by decide +kernel
theorem dX8_key_16 : decode cX8_key 16 = .ok (.aload_n 0, 1) := by decide +kernel
theorem dX8_key_17 : decode cX8_key 17 = .ok (.getfield 38, 3) := by decide +kernel
theorem dX8_key_20 : decode cX8_key 20 = .ok (.iconst 0, 1) := by decide +kernel
theorem dX8_key_21 : decode cX8_key 21 = .ok (.iaload, 1) := by decide +kernel
theorem dX8_key_22 : decode cX8_key 22 = .ok (.bipush 60, 2) := by decide +kernel
theorem dX8_key_24 : decode cX8_key 24 = .ok (.if_icmp .ne 5, 3) := by decide +kernel
theorem dX8_key_27 : decode cX8_key 27 = .ok (.iconst (-1), 1) := by decide +kernel
theorem dX8_key_28 : decode cX8_key 28 = .ok (.ireturn, 1) := by decide +kernel
theorem dX8_key_29 : decode cX8_key 29 = .ok (.aload_n 0, 1) := by decide +kernel
theorem dX8_key_30 : decode cX8_key 30 = .ok (.getfield 41, 3) := by decide +kernel
theorem dX8_key_33 : decode cX8_key 33 = .ok (.aload_n 0, 1) := by decide +kernel
theorem dX8_key_34 : decode cX8_key 34 = .ok (.getfield 38, 3) := by decide +kernel
theorem dX8_key_37 : decode cX8_key 37 = .ok (.iconst 0, 1) := by decide +kernel
theorem dX8_key_38 : decode cX8_key 38 = .ok (.iaload, 1) := by decide +kernel
theorem dX8_key_39 : decode cX8_key 39 = .ok (.iload_n 1, 1) := by decide +kernel
theorem dX8_key_40 : decode cX8_key 40 = .ok (.iastore, 1) := by decide +kernel
theorem dX8_key_41 : decode cX8_key 41 = .ok (.aload_n 0, 1) := by decide +kernel
theorem dX8_key_42 : decode cX8_key 42 = .ok (.getfield 38, 3) := by decide +kernel
theorem dX8_key_45 : decode cX8_key 45 = .ok (.iconst 0, 1) := by decide +kernel
theorem dX8_key_46 : decode cX8_key 46 = .ok (.dup2, 1) := by decide +kernel
theorem dX8_key_47 : decode cX8_key 47 = .ok (.iaload, 1) := by decide +kernel
theorem dX8_key_48 : decode cX8_key 48 = .ok (.iconst 1, 1) := by decide +kernel
theorem dX8_key_49 : decode cX8_key 49 = .ok (.iadd, 1) := by decide +kernel
theorem dX8_key_50 : decode cX8_key 50 = .ok (.iastore, 1) := by decide +kernel
theorem dX8_key_51 : decode cX8_key 51 = .ok (.aload_n 0, 1) := by decide +kernel
theorem dX8_key_52 : decode cX8_key 52 = .ok (.getfield 38, 3) := by decide +kernel
theorem dX8_key_55 : decode cX8_key 55 = .ok (.iconst 0, 1) := by decide +kernel
theorem dX8_key_56 : decode cX8_key 56 = .ok (.iaload, 1) := by decide +kernel
theorem dX8_key_57 : decode cX8_key 57 = .ok (.ireturn, 1) := by decide +kernel
theorem dX8_keys_0 : decode cX8_keys 0 = .ok (.aload_n 0, 1) := by decide +kernel
theorem dX8_keys_1 : decode cX8_keys 1 = .ok (.iconst 0, 1) := by decide +kernel
theorem dX8_keys_2 : decode cX8_keys 2 = .ok (.putfield 86, 3) := by decide +kernel
theorem dX8_keys_5 : decode cX8_keys 5 = .ok (.iconst 0, 1) := by decide +kernel
theorem dX8_keys_6 : decode cX8_keys 6 = .ok (.istore_n 2, 1) := by decide +kernel
theorem dX8_keys_7 : decode cX8_keys 7 = .ok (.iload_n 2, 1) := by decide +kernel
theorem dX8_keys_8 : decode cX8_keys 8 = .ok (.iconst 4, 1) := by decide +kernel
theorem dX8_keys_9 : decode cX8_keys 9 = .ok (.if_icmp .ge 25, 3) := by decide +kernel
theorem dX8_keys_12 : decode cX8_keys 12 = .ok (.iload_n 1, 1) := by decide +kernel
theorem dX8_keys_13 : decode cX8_keys 13 = .ok (.bipush 24, 2) := by decide +kernel
theorem dX8_keys_15 : decode cX8_keys 15 = .ok (.bipush 8, 2) := by decide +kernel
theorem dX8_keys_17 : decode cX8_keys 17 = .ok (.iload_n 2, 1) := by decide +kernel
theorem dX8_keys_18 : decode cX8_keys 18 = .ok (.imul, 1) := by decide +kernel
theorem dX8_keys_19 : decode cX8_keys 19 = .ok (.isub, 1) := by decide +kernel
theorem dX8_keys_20 : decode cX8_keys 20 = .ok (.ishr, 1) := by decide +kernel
theorem dX8_keys_21 : decode cX8_keys 21 = .ok (.sipush 255, 3) := by decide +kernel
theorem dX8_keys_24 : decode cX8_keys 24 = .ok (.iand, 1) := by decide +kernel
theorem dX8_keys_25 : decode cX8_keys 25 = .ok (.ifCond .eq 9, 3) := by decide +kernel
theorem dX8_keys_28 : decode cX8_keys 28 = .ok (.iinc 2 1, 3) := by decide +kernel
theorem dX8_keys_31 : decode cX8_keys 31 = .ok (.goto (-24), 3) := by decide +kernel
theorem dX8_keys_34 : decode cX8_keys 34 = .ok (.aload_n 0, 1) := by decide +kernel
theorem dX8_keys_35 : decode cX8_keys 35 = .ok (.getfield 38, 3) := by decide +kernel
theorem dX8_keys_38 : decode cX8_keys 38 = .ok (.iconst 0, 1) := by decide +kernel
theorem dX8_keys_39 : decode cX8_keys 39 = .ok (.iaload, 1) := by decide +kernel
theorem dX8_keys_40 : decode cX8_keys 40 = .ok (.iload_n 2, 1) := by decide +kernel
theorem dX8_keys_41 : decode cX8_keys 41 = .ok (.iadd, 1) := by decide +kernel
theorem dX8_keys_42 : decode cX8_keys 42 = .ok (.bipush 60, 2) := by decide +kernel
theorem dX8_keys_44 : decode cX8_keys 44 = .ok (.if_icmp .le 5, 3) := by decide +kernel
theorem dX8_keys_47 : decode cX8_keys 47 = .ok (.iconst (-1), 1) := by decide +kernel
theorem dX8_keys_48 : decode cX8_keys 48 = .ok (.ireturn, 1) := by decide +kernel
theorem dX8_keys_49 : decode cX8_keys 49 = .ok (.iconst 0, 1) := by decide +kernel
theorem dX8_keys_50 : decode cX8_keys 50 = .ok (.istore_n 3, 1) := by decide +kernel
theorem dX8_keys_51 : decode cX8_keys 51 = .ok (.iload_n 3, 1) := by decide +kernel
theorem dX8_keys_52 : decode cX8_keys 52 = .ok (.iload_n 2, 1) := by decide +kernel
theorem dX8_keys_53 : decode cX8_keys 53 = .ok (.if_icmp .ge 43, 3) := by decide +kernel
theorem dX8_keys_56 : decode cX8_keys 56 = .ok (.aload_n 0, 1) := by decide +kernel
theorem dX8_keys_57 : decode cX8_keys 57 = .ok (.getfield 41, 3) := by decide +kernel
theorem dX8_keys_60 : decode cX8_keys 60 = .ok (.aload_n 0, 1) := by decide +kernel
theorem dX8_keys_61 : decode cX8_keys 61 = .ok (.getfield 38, 3) := by decide +kernel
theorem dX8_keys_64 : decode cX8_keys 64 = .ok (.iconst 0, 1) := by decide +kernel
theorem dX8_keys_65 : decode cX8_keys 65 = .ok (.iaload, 1) := by decide +kernel
theorem dX8_keys_66 : decode cX8_keys 66 = .ok (.iload_n 1, 1) := by decide +kernel
theorem dX8_keys_67 : decode cX8_keys 67 = .ok (.bipush 24, 2) := by decide +kernel
theorem dX8_keys_69 : decode cX8_keys 69 = .ok (.bipush 8, 2) := by decide +kernel
theorem dX8_keys_71 : decode cX8_keys 71 = .ok (.iload_n 3, 1) := by decide +kernel
theorem dX8_keys_72 : decode cX8_keys 72 = .ok (.imul, 1) := by decide +kernel
theorem dX8_keys_73 : decode cX8_keys 73 = .ok (.isub, 1) := by decide +kernel
theorem dX8_keys_74 : decode cX8_keys 74 = .ok (.ishr, 1) := by decide +kernel
theorem dX8_keys_75 : decode cX8_keys 75 = .ok (.sipush 255, 3) := by decide +kernel
theorem dX8_keys_78 : decode cX8_keys 78 = .ok (.iand, 1) := by decide +kernel
theorem dX8_keys_79 : decode cX8_keys 79 = .ok (.iastore, 1) := by decide +kernel
theorem dX8_keys_80 : decode cX8_keys 80 = .ok (.aload_n 0, 1) := by decide +kernel
theorem dX8_keys_81 : decode cX8_keys 81 = .ok (.getfield 38, 3) := by decide +kernel
theorem dX8_keys_84 : decode cX8_keys 84 = .ok (.iconst 0, 1) := by decide +kernel
theorem dX8_keys_85 : decode cX8_keys 85 = .ok (.dup2, 1) := by decide +kernel
theorem dX8_keys_86 : decode cX8_keys 86 = .ok (.iaload, 1) := by decide +kernel
theorem dX8_keys_87 : decode cX8_keys 87 = .ok (.iconst 1, 1) := by decide +kernel
theorem dX8_keys_88 : decode cX8_keys 88 = .ok (.iadd, 1) := by decide +kernel
theorem dX8_keys_89 : decode cX8_keys 89 = .ok (.iastore, 1) := by decide +kernel
theorem dX8_keys_90 : decode cX8_keys 90 = .ok (.iinc 3 1, 3) := by decide +kernel
theorem dX8_keys_93 : decode cX8_keys 93 = .ok (.goto (-42), 3) := by decide +kernel
theorem dX8_keys_96 : decode cX8_keys 96 = .ok (.aload_n 0, 1) := by decide +kernel
theorem dX8_keys_97 : decode cX8_keys 97 = .ok (.getfield 38, 3) := by decide +kernel
theorem dX8_keys_100 : decode cX8_keys 100 = .ok (.iconst 0, 1) := by decide +kernel
theorem dX8_keys_101 : decode cX8_keys 101 = .ok (.iaload, 1) := by decide +kernel
theorem dX8_keys_102 : decode cX8_keys 102 = .ok (.ireturn, 1) := by decide +kernel
theorem dX8_undo_0 : decode cX8_undo 0 = .ok (.aload_n 0, 1) := by decide +kernel
theorem dX8_undo_1 : decode cX8_undo 1 = .ok (.iconst 0, 1) := by decide +kernel
theorem dX8_undo_2 : decode cX8_undo 2 = .ok (.putfield 86, 3) := by decide +kernel
theorem dX8_undo_5 : decode cX8_undo 5 = .ok (.iload_n 1, 1) := by decide +kernel
theorem dX8_undo_6 : decode cX8_undo 6 = .ok (.iconst 0, 1) := by decide +kernel
theorem dX8_undo_7 : decode cX8_undo 7 = .ok (.aload_n 0, 1) := by decide +kernel
theorem dX8_undo_8 : decode cX8_undo 8 = .ok (.getfield 38, 3) := by decide +kernel
theorem dX8_undo_11 : decode cX8_undo 11 = .ok (.iconst 0, 1) := by decide +kernel
theorem dX8_undo_12 : decode cX8_undo 12 = .ok (.iaload, 1) := by decide +kernel
theorem dX8_undo_13 : decode cX8_undo 13 = .ok (.invokestatic 94, 3) := by decide +kernel
theorem dX8_undo_16 : decode cX8_undo 16 = .ok (.ifCond .ne 5, 3) := by decide +kernel
theorem dX8_undo_19 : decode cX8_undo 19 = .ok (.iconst (-1), 1) := by decide +kernel
theorem dX8_undo_20 : decode cX8_undo 20 = .ok (.ireturn, 1) := by decide +kernel
theorem dX8_undo_21 : decode cX8_undo 21 = .ok (.aload_n 0, 1) := by decide +kernel
theorem dX8_undo_22 : decode cX8_undo 22 = .ok (.getfield 38, 3) := by decide +kernel
theorem dX8_undo_25 : decode cX8_undo 25 = .ok (.iconst 0, 1) := by decide +kernel
theorem dX8_undo_26 : decode cX8_undo 26 = .ok (.dup2, 1) := by decide +kernel
theorem dX8_undo_27 : decode cX8_undo 27 = .ok (.iaload, 1) := by decide +kernel
theorem dX8_undo_28 : decode cX8_undo 28 = .ok (.iload_n 1, 1) := by decide +kernel
theorem dX8_undo_29 : decode cX8_undo 29 = .ok (.isub, 1) := by decide +kernel
theorem dX8_undo_30 : decode cX8_undo 30 = .ok (.iastore, 1) := by decide +kernel
theorem dX8_undo_31 : decode cX8_undo 31 = .ok (.aload_n 0, 1) := by decide +kernel
theorem dX8_undo_32 : decode cX8_undo 32 = .ok (.getfield 38, 3) := by decide +kernel
theorem dX8_undo_35 : decode cX8_undo 35 = .ok (.iconst 0, 1) := by decide +kernel
theorem dX8_undo_36 : decode cX8_undo 36 = .ok (.iaload, 1) := by decide +kernel
theorem dX8_undo_37 : decode cX8_undo 37 = .ok (.ireturn, 1) := by decide +kernel
theorem dX8_bounds_0 : decode cX8_bounds 0 = .ok (.aload_n 0, 1) := by decide +kernel
theorem dX8_bounds_1 : decode cX8_bounds 1 = .ok (.iconst 0, 1) := by decide +kernel
theorem dX8_bounds_2 : decode cX8_bounds 2 = .ok (.putfield 86, 3) := by decide +kernel
theorem dX8_bounds_5 : decode cX8_bounds 5 = .ok (.iload_n 1, 1) := by decide +kernel
theorem dX8_bounds_6 : decode cX8_bounds 6 = .ok (.iconst 0, 1) := by decide +kernel
theorem dX8_bounds_7 : decode cX8_bounds 7 = .ok (.iconst 2, 1) := by decide +kernel
theorem dX8_bounds_8 : decode cX8_bounds 8 = .ok (.invokestatic 94, 3) := by decide +kernel
theorem dX8_bounds_11 : decode cX8_bounds 11 = .ok (.ifCond .eq 10, 3) := by decide +kernel
theorem dX8_bounds_14 : decode cX8_bounds 14 = .ok (.lload_n 2, 1) := by decide +kernel
theorem dX8_bounds_15 : decode cX8_bounds 15 = .ok (.lload 4, 2) := by decide +kernel
theorem dX8_bounds_17 : decode cX8_bounds 17 = .ok (.lcmp, 1) := by decide +kernel
theorem dX8_bounds_18 : decode cX8_bounds 18 = .ok (.ifCond .le 5, 3) := by decide +kernel
theorem dX8_bounds_21 : decode cX8_bounds 21 = .ok (.iconst 0, 1) := by decide +kernel
theorem dX8_bounds_22 : decode cX8_bounds 22 = .ok (.ireturn, 1) := by decide +kernel
theorem dX8_bounds_23 : decode cX8_bounds 23 = .ok (.aload_n 0, 1) := by decide +kernel
theorem dX8_bounds_24 : decode cX8_bounds 24 = .ok (.getfield 44, 3) := by decide +kernel
theorem dX8_bounds_27 : decode cX8_bounds 27 = .ok (.iload_n 1, 1) := by decide +kernel
theorem dX8_bounds_28 : decode cX8_bounds 28 = .ok (.lload_n 2, 1) := by decide +kernel
theorem dX8_bounds_29 : decode cX8_bounds 29 = .ok (.lastore, 1) := by decide +kernel
theorem dX8_bounds_30 : decode cX8_bounds 30 = .ok (.aload_n 0, 1) := by decide +kernel
theorem dX8_bounds_31 : decode cX8_bounds 31 = .ok (.getfield 48, 3) := by decide +kernel
theorem dX8_bounds_34 : decode cX8_bounds 34 = .ok (.iload_n 1, 1) := by decide +kernel
theorem dX8_bounds_35 : decode cX8_bounds 35 = .ok (.lload 4, 2) := by decide +kernel
theorem dX8_bounds_37 : decode cX8_bounds 37 = .ok (.lastore, 1) := by decide +kernel
theorem dX8_bounds_38 : decode cX8_bounds 38 = .ok (.iconst 1, 1) := by decide +kernel
theorem dX8_bounds_39 : decode cX8_bounds 39 = .ok (.ireturn, 1) := by decide +kernel
theorem dX8_lineText_0 : decode cX8_lineText 0 = .ok (.aload_n 0, 1) := by decide +kernel
theorem dX8_lineText_1 : decode cX8_lineText 1 = .ok (.aload_n 0, 1) := by decide +kernel
theorem dX8_lineText_2 : decode cX8_lineText 2 = .ok (.getfield 38, 3) := by decide +kernel
theorem dX8_lineText_5 : decode cX8_lineText 5 = .ok (.iconst 0, 1) := by decide +kernel
theorem dX8_lineText_6 : decode cX8_lineText 6 = .ok (.iaload, 1) := by decide +kernel
theorem dX8_lineText_7 : decode cX8_lineText 7 = .ok (.putfield 98, 3) := by decide +kernel
theorem dX8_lineText_10 : decode cX8_lineText 10 = .ok (.iconst 0, 1) := by decide +kernel
theorem dX8_lineText_11 : decode cX8_lineText 11 = .ok (.istore_n 1, 1) := by decide +kernel
theorem dX8_lineText_12 : decode cX8_lineText 12 = .ok (.iload_n 1, 1) := by decide +kernel
theorem dX8_lineText_13 : decode cX8_lineText 13 = .ok (.aload_n 0, 1) := by decide +kernel
theorem dX8_lineText_14 : decode cX8_lineText 14 = .ok (.getfield 98, 3) := by decide +kernel
theorem dX8_lineText_17 : decode cX8_lineText 17 = .ok (.if_icmp .ge 21, 3) := by decide +kernel
theorem dX8_lineText_20 : decode cX8_lineText 20 = .ok (.aload_n 0, 1) := by decide +kernel
theorem dX8_lineText_21 : decode cX8_lineText 21 = .ok (.getfield 67, 3) := by decide +kernel
theorem dX8_lineText_24 : decode cX8_lineText 24 = .ok (.iload_n 1, 1) := by decide +kernel
theorem dX8_lineText_25 : decode cX8_lineText 25 = .ok (.aload_n 0, 1) := by decide +kernel
theorem dX8_lineText_26 : decode cX8_lineText 26 = .ok (.getfield 41, 3) := by decide +kernel
theorem dX8_lineText_29 : decode cX8_lineText 29 = .ok (.iload_n 1, 1) := by decide +kernel
theorem dX8_lineText_30 : decode cX8_lineText 30 = .ok (.iaload, 1) := by decide +kernel
theorem dX8_lineText_31 : decode cX8_lineText 31 = .ok (.iastore, 1) := by decide +kernel
theorem dX8_lineText_32 : decode cX8_lineText 32 = .ok (.iinc 1 1, 3) := by decide +kernel
theorem dX8_lineText_35 : decode cX8_lineText 35 = .ok (.goto (-23), 3) := by decide +kernel
theorem dX8_lineText_38 : decode cX8_lineText 38 = .ok (.return_, 1) := by decide +kernel
theorem dX8_rowText_0 : decode cX8_rowText 0 = .ok (.aload_n 0, 1) := by decide +kernel
theorem dX8_rowText_1 : decode cX8_rowText 1 = .ok (.aload_n 0, 1) := by decide +kernel
theorem dX8_rowText_2 : decode cX8_rowText 2 = .ok (.getfield 54, 3) := by decide +kernel
theorem dX8_rowText_5 : decode cX8_rowText 5 = .ok (.iload_n 1, 1) := by decide +kernel
theorem dX8_rowText_6 : decode cX8_rowText 6 = .ok (.iaload, 1) := by decide +kernel
theorem dX8_rowText_7 : decode cX8_rowText 7 = .ok (.putfield 98, 3) := by decide +kernel
theorem dX8_rowText_10 : decode cX8_rowText 10 = .ok (.iconst 0, 1) := by decide +kernel
theorem dX8_rowText_11 : decode cX8_rowText 11 = .ok (.istore_n 2, 1) := by decide +kernel
theorem dX8_rowText_12 : decode cX8_rowText 12 = .ok (.iload_n 2, 1) := by decide +kernel
theorem dX8_rowText_13 : decode cX8_rowText 13 = .ok (.aload_n 0, 1) := by decide +kernel
theorem dX8_rowText_14 : decode cX8_rowText 14 = .ok (.getfield 98, 3) := by decide +kernel
theorem dX8_rowText_17 : decode cX8_rowText 17 = .ok (.if_icmp .ge 30, 3) := by decide +kernel
theorem dX8_rowText_20 : decode cX8_rowText 20 = .ok (.aload_n 0, 1) := by decide +kernel
theorem dX8_rowText_21 : decode cX8_rowText 21 = .ok (.getfield 67, 3) := by decide +kernel
theorem dX8_rowText_24 : decode cX8_rowText 24 = .ok (.iload_n 2, 1) := by decide +kernel
theorem dX8_rowText_25 : decode cX8_rowText 25 = .ok (.aload_n 0, 1) := by decide +kernel
theorem dX8_rowText_26 : decode cX8_rowText 26 = .ok (.getfield 57, 3) := by decide +kernel
theorem dX8_rowText_29 : decode cX8_rowText 29 = .ok (.bipush 60, 2) := by decide +kernel
theorem dX8_rowText_31 : decode cX8_rowText 31 = .ok (.iload_n 1, 1) := by decide +kernel
theorem dX8_rowText_32 : decode cX8_rowText 32 = .ok (.imul, 1) := by decide +kernel
theorem dX8_rowText_33 : decode cX8_rowText 33 = .ok (.iload_n 2, 1) := by decide +kernel
theorem dX8_rowText_34 : decode cX8_rowText 34 = .ok (.iadd, 1) := by decide +kernel
theorem dX8_rowText_35 : decode cX8_rowText 35 = .ok (.baload, 1) := by decide +kernel
theorem dX8_rowText_36 : decode cX8_rowText 36 = .ok (.sipush 255, 3) := by decide +kernel
theorem dX8_rowText_39 : decode cX8_rowText 39 = .ok (.iand, 1) := by decide +kernel
theorem dX8_rowText_40 : decode cX8_rowText 40 = .ok (.iastore, 1) := by decide +kernel
theorem dX8_rowText_41 : decode cX8_rowText 41 = .ok (.iinc 2 1, 3) := by decide +kernel
theorem dX8_rowText_44 : decode cX8_rowText 44 = .ok (.goto (-32), 3) := by decide +kernel
theorem dX8_rowText_47 : decode cX8_rowText 47 = .ok (.return_, 1) := by decide +kernel
theorem dX8_put_0 : decode cX8_put 0 = .ok (.aload_n 0, 1) := by decide +kernel
theorem dX8_put_1 : decode cX8_put 1 = .ok (.getfield 70, 3) := by decide +kernel
theorem dX8_put_4 : decode cX8_put 4 = .ok (.aload_n 0, 1) := by decide +kernel
theorem dX8_put_5 : decode cX8_put 5 = .ok (.getfield 101, 3) := by decide +kernel
theorem dX8_put_8 : decode cX8_put 8 = .ok (.iload_n 1, 1) := by decide +kernel
theorem dX8_put_9 : decode cX8_put 9 = .ok (.iastore, 1) := by decide +kernel
theorem dX8_put_10 : decode cX8_put 10 = .ok (.aload_n 0, 1) := by decide +kernel
theorem dX8_put_11 : decode cX8_put 11 = .ok (.getfield 73, 3) := by decide +kernel
theorem dX8_put_14 : decode cX8_put 14 = .ok (.aload_n 0, 1) := by decide +kernel
theorem dX8_put_15 : decode cX8_put 15 = .ok (.getfield 101, 3) := by decide +kernel
theorem dX8_put_18 : decode cX8_put 18 = .ok (.iload_n 2, 1) := by decide +kernel
theorem dX8_put_19 : decode cX8_put 19 = .ok (.iastore, 1) := by decide +kernel
theorem dX8_put_20 : decode cX8_put 20 = .ok (.aload_n 0, 1) := by decide +kernel
theorem dX8_put_21 : decode cX8_put 21 = .ok (.dup, 1) := by decide +kernel
theorem dX8_put_22 : decode cX8_put 22 = .ok (.getfield 101, 3) := by decide +kernel
theorem dX8_put_25 : decode cX8_put 25 = .ok (.iconst 1, 1) := by decide +kernel
theorem dX8_put_26 : decode cX8_put 26 = .ok (.iadd, 1) := by decide +kernel
theorem dX8_put_27 : decode cX8_put 27 = .ok (.putfield 101, 3) := by decide +kernel
theorem dX8_put_30 : decode cX8_put 30 = .ok (.return_, 1) := by decide +kernel
theorem dX8_putMark_0 : decode cX8_putMark 0 = .ok (.aload_n 0, 1) := by decide +kernel
theorem dX8_putMark_1 : decode cX8_putMark 1 = .ok (.aload_n 0, 1) := by decide +kernel
theorem dX8_putMark_2 : decode cX8_putMark 2 = .ok (.getfield 25, 3) := by decide +kernel
theorem dX8_putMark_5 : decode cX8_putMark 5 = .ok (.iload_n 1, 1) := by decide +kernel
theorem dX8_putMark_6 : decode cX8_putMark 6 = .ok (.iaload, 1) := by decide +kernel
theorem dX8_putMark_7 : decode cX8_putMark 7 = .ok (.bipush 16, 2) := by decide +kernel
theorem dX8_putMark_9 : decode cX8_putMark 9 = .ok (.ishr, 1) := by decide +kernel
theorem dX8_putMark_10 : decode cX8_putMark 10 = .ok (.sipush 255, 3) := by decide +kernel
theorem dX8_putMark_13 : decode cX8_putMark 13 = .ok (.iand, 1) := by decide +kernel
theorem dX8_putMark_14 : decode cX8_putMark 14 = .ok (.iconst 0, 1) := by decide +kernel
theorem dX8_putMark_15 : decode cX8_putMark 15 = .ok (.invokevirtual 104, 3) := by decide +kernel
theorem dX8_putMark_18 : decode cX8_putMark 18 = .ok (.aload_n 0, 1) := by decide +kernel
theorem dX8_putMark_19 : decode cX8_putMark 19 = .ok (.aload_n 0, 1) := by decide +kernel
theorem dX8_putMark_20 : decode cX8_putMark 20 = .ok (.getfield 25, 3) := by decide +kernel
theorem dX8_putMark_23 : decode cX8_putMark 23 = .ok (.iload_n 1, 1) := by decide +kernel
theorem dX8_putMark_24 : decode cX8_putMark 24 = .ok (.iaload, 1) := by decide +kernel
theorem dX8_putMark_25 : decode cX8_putMark 25 = .ok (.bipush 8, 2) := by decide +kernel
theorem dX8_putMark_27 : decode cX8_putMark 27 = .ok (.ishr, 1) := by decide +kernel
theorem dX8_putMark_28 : decode cX8_putMark 28 = .ok (.sipush 255, 3) := by decide +kernel
theorem dX8_putMark_31 : decode cX8_putMark 31 = .ok (.iand, 1) := by decide +kernel
theorem dX8_putMark_32 : decode cX8_putMark 32 = .ok (.iconst 0, 1) := by decide +kernel
theorem dX8_putMark_33 : decode cX8_putMark 33 = .ok (.invokevirtual 104, 3) := by decide +kernel
theorem dX8_putMark_36 : decode cX8_putMark 36 = .ok (.aload_n 0, 1) := by decide +kernel
theorem dX8_putMark_37 : decode cX8_putMark 37 = .ok (.aload_n 0, 1) := by decide +kernel
theorem dX8_putMark_38 : decode cX8_putMark 38 = .ok (.getfield 25, 3) := by decide +kernel
theorem dX8_putMark_41 : decode cX8_putMark 41 = .ok (.iload_n 1, 1) := by decide +kernel
theorem dX8_putMark_42 : decode cX8_putMark 42 = .ok (.iaload, 1) := by decide +kernel
theorem dX8_putMark_43 : decode cX8_putMark 43 = .ok (.sipush 255, 3) := by decide +kernel
theorem dX8_putMark_46 : decode cX8_putMark 46 = .ok (.iand, 1) := by decide +kernel
theorem dX8_putMark_47 : decode cX8_putMark 47 = .ok (.iconst 0, 1) := by decide +kernel
theorem dX8_putMark_48 : decode cX8_putMark 48 = .ok (.invokevirtual 104, 3) := by decide +kernel
theorem dX8_putMark_51 : decode cX8_putMark 51 = .ok (.return_, 1) := by decide +kernel
end
section
theorem dX8_isSignBehind_0 : decode cX8_isSignBehind 0 = .ok (.iload_n 2, 1) := by decide +kernel
theorem dX8_isSignBehind_1 : decode cX8_isSignBehind 1 = .ok (.ifCond .ne 5, 3) := by decide +kernel
theorem dX8_isSignBehind_4 : decode cX8_isSignBehind 4 = .ok (.iconst 0, 1) := by decide +kernel
theorem dX8_isSignBehind_5 : decode cX8_isSignBehind 5 = .ok (.ireturn, 1) := by decide +kernel
theorem dX8_isSignBehind_6 : decode cX8_isSignBehind 6 = .ok (.aload_n 0, 1) := by decide +kernel
theorem dX8_isSignBehind_7 : decode cX8_isSignBehind 7 = .ok (.getfield 19, 3) := by decide +kernel
theorem dX8_isSignBehind_10 : decode cX8_isSignBehind 10 = .ok (.iload_n 1, 1) := by decide +kernel
theorem dX8_isSignBehind_11 : decode cX8_isSignBehind 11 = .ok (.iaload, 1) := by decide +kernel
theorem dX8_isSignBehind_12 : decode cX8_isSignBehind 12 = .ok (.ifCond .ne 17, 3) := by decide +kernel
theorem dX8_isSignBehind_15 : decode cX8_isSignBehind 15 = .ok (.iload_n 2, 1) := by decide +kernel
theorem dX8_isSignBehind_16 : decode cX8_isSignBehind 16 = .ok (.iconst 3, 1) := by decide +kernel
theorem dX8_isSignBehind_17 : decode cX8_isSignBehind 17 = .ok (.irem, 1) := by decide +kernel
theorem dX8_isSignBehind_18 : decode cX8_isSignBehind 18 = .ok (.ifCond .ne 7, 3) := by decide +kernel
theorem dX8_isSignBehind_21 : decode cX8_isSignBehind 21 = .ok (.iconst 1, 1) := by decide +kernel
theorem dX8_isSignBehind_22 : decode cX8_isSignBehind 22 = .ok (.goto 24, 3) := by decide +kernel
theorem dX8_isSignBehind_25 : decode cX8_isSignBehind 25 = .ok (.iconst 0, 1) := by decide +kernel
theorem dX8_isSignBehind_26 : decode cX8_isSignBehind 26 = .ok (.goto 20, 3) := by decide +kernel
theorem dX8_isSignBehind_29 : decode cX8_isSignBehind 29 = .ok (.iload_n 2, 1) := by decide +kernel
theorem dX8_isSignBehind_30 : decode cX8_isSignBehind 30 = .ok (.iconst 3, 1) := by decide +kernel
theorem dX8_isSignBehind_31 : decode cX8_isSignBehind 31 = .ok (.if_icmp .lt 14, 3) := by decide +kernel
theorem dX8_isSignBehind_34 : decode cX8_isSignBehind 34 = .ok (.iload_n 2, 1) := by decide +kernel
theorem dX8_isSignBehind_35 : decode cX8_isSignBehind 35 = .ok (.iconst 2, 1) := by decide +kernel
theorem dX8_isSignBehind_36 : decode cX8_isSignBehind 36 = .ok (.irem, 1) := by decide +kernel
theorem dX8_isSignBehind_37 : decode cX8_isSignBehind 37 = .ok (.iconst 1, 1) := by decide +kernel
theorem dX8_isSignBehind_38 : decode cX8_isSignBehind 38 = .ok (.if_icmp .ne 7, 3) := by decide +kernel
theorem dX8_isSignBehind_41 : decode cX8_isSignBehind 41 = .ok (.iconst 1, 1) := by decide +kernel
theorem dX8_isSignBehind_42 : decode cX8_isSignBehind 42 = .ok (.goto 4, 3) := by decide +kernel
theorem dX8_isSignBehind_45 : decode cX8_isSignBehind 45 = .ok (.iconst 0, 1) := by decide +kernel
theorem dX8_isSignBehind_46 : decode cX8_isSignBehind 46 = .ok (.ireturn, 1) := by decide +kernel
theorem dX8_putNumber_0 : decode cX8_putNumber 0 = .ok (.iconst 0, 1) := by decide +kernel
theorem dX8_putNumber_1 : decode cX8_putNumber 1 = .ok (.istore 5, 2) := by decide +kernel
theorem dX8_putNumber_3 : decode cX8_putNumber 3 = .ok (.iload 5, 2) := by decide +kernel
theorem dX8_putNumber_5 : decode cX8_putNumber 5 = .ok (.iload_n 2, 1) := by decide +kernel
theorem dX8_putNumber_6 : decode cX8_putNumber 6 = .ok (.if_icmp .ge 60, 3) := by decide +kernel
theorem dX8_putNumber_9 : decode cX8_putNumber 9 = .ok (.aload_n 0, 1) := by decide +kernel
theorem dX8_putNumber_10 : decode cX8_putNumber 10 = .ok (.iload 5, 2) := by decide +kernel
theorem dX8_putNumber_12 : decode cX8_putNumber 12 = .ok (.ifCond .ne 13, 3) := by decide +kernel
theorem dX8_putNumber_15 : decode cX8_putNumber 15 = .ok (.iload_n 2, 1) := by decide +kernel
theorem dX8_putNumber_16 : decode cX8_putNumber 16 = .ok (.iconst 1, 1) := by decide +kernel
theorem dX8_putNumber_17 : decode cX8_putNumber 17 = .ok (.if_icmp .le 8, 3) := by decide +kernel
theorem dX8_putNumber_20 : decode cX8_putNumber 20 = .ok (.bipush (-2), 2) := by decide +kernel
theorem dX8_putNumber_22 : decode cX8_putNumber 22 = .ok (.goto 4, 3) := by decide +kernel
theorem dX8_putNumber_25 : decode cX8_putNumber 25 = .ok (.iconst (-1), 1) := by decide +kernel
theorem dX8_putNumber_26 : decode cX8_putNumber 26 = .ok (.iconst 1, 1) := by decide +kernel
theorem dX8_putNumber_27 : decode cX8_putNumber 27 = .ok (.invokevirtual 104, 3) := by decide +kernel
theorem dX8_putNumber_30 : decode cX8_putNumber 30 = .ok (.iload 4, 2) := by decide +kernel
theorem dX8_putNumber_32 : decode cX8_putNumber 32 = .ok (.ifCond .eq 28, 3) := by decide +kernel
theorem dX8_putNumber_35 : decode cX8_putNumber 35 = .ok (.aload_n 0, 1) := by decide +kernel
theorem dX8_putNumber_36 : decode cX8_putNumber 36 = .ok (.iload_n 1, 1) := by decide +kernel
theorem dX8_putNumber_37 : decode cX8_putNumber 37 = .ok (.iload_n 2, 1) := by decide +kernel
theorem dX8_putNumber_38 : decode cX8_putNumber 38 = .ok (.iconst 1, 1) := by decide +kernel
theorem dX8_putNumber_39 : decode cX8_putNumber 39 = .ok (.isub, 1) := by decide +kernel
theorem dX8_putNumber_40 : decode cX8_putNumber 40 = .ok (.iload 5, 2) := by decide +kernel
theorem dX8_putNumber_42 : decode cX8_putNumber 42 = .ok (.isub, 1) := by decide +kernel
theorem dX8_putNumber_43 : decode cX8_putNumber 43 = .ok (.invokevirtual 108, 3) := by decide +kernel
theorem dX8_putNumber_46 : decode cX8_putNumber 46 = .ok (.ifCond .eq 14, 3) := by decide +kernel
theorem dX8_putNumber_49 : decode cX8_putNumber 49 = .ok (.aload_n 0, 1) := by decide +kernel
theorem dX8_putNumber_50 : decode cX8_putNumber 50 = .ok (.aload_n 0, 1) := by decide +kernel
theorem dX8_putNumber_51 : decode cX8_putNumber 51 = .ok (.getfield 16, 3) := by decide +kernel
theorem dX8_putNumber_54 : decode cX8_putNumber 54 = .ok (.iload_n 1, 1) := by decide +kernel
theorem dX8_putNumber_55 : decode cX8_putNumber 55 = .ok (.iaload, 1) := by decide +kernel
theorem dX8_putNumber_56 : decode cX8_putNumber 56 = .ok (.iconst 0, 1) := by decide +kernel
theorem dX8_putNumber_57 : decode cX8_putNumber 57 = .ok (.invokevirtual 104, 3) := by decide +kernel
theorem dX8_putNumber_60 : decode cX8_putNumber 60 = .ok (.iinc 5 1, 3) := by decide +kernel
theorem dX8_putNumber_63 : decode cX8_putNumber 63 = .ok (.goto (-60), 3) := by decide +kernel
theorem dX8_putNumber_66 : decode cX8_putNumber 66 = .ok (.iload_n 3, 1) := by decide +kernel
theorem dX8_putNumber_67 : decode cX8_putNumber 67 = .ok (.ifCond .le 14, 3) := by decide +kernel
theorem dX8_putNumber_70 : decode cX8_putNumber 70 = .ok (.aload_n 0, 1) := by decide +kernel
theorem dX8_putNumber_71 : decode cX8_putNumber 71 = .ok (.aload_n 0, 1) := by decide +kernel
theorem dX8_putNumber_72 : decode cX8_putNumber 72 = .ok (.getfield 13, 3) := by decide +kernel
theorem dX8_putNumber_75 : decode cX8_putNumber 75 = .ok (.iload_n 1, 1) := by decide +kernel
theorem dX8_putNumber_76 : decode cX8_putNumber 76 = .ok (.iaload, 1) := by decide +kernel
theorem dX8_putNumber_77 : decode cX8_putNumber 77 = .ok (.iconst 0, 1) := by decide +kernel
theorem dX8_putNumber_78 : decode cX8_putNumber 78 = .ok (.invokevirtual 104, 3) := by decide +kernel
theorem dX8_putNumber_81 : decode cX8_putNumber 81 = .ok (.iconst 0, 1) := by decide +kernel
theorem dX8_putNumber_82 : decode cX8_putNumber 82 = .ok (.istore 5, 2) := by decide +kernel
theorem dX8_putNumber_84 : decode cX8_putNumber 84 = .ok (.iload 5, 2) := by decide +kernel
theorem dX8_putNumber_86 : decode cX8_putNumber 86 = .ok (.iload_n 3, 1) := by decide +kernel
theorem dX8_putNumber_87 : decode cX8_putNumber 87 = .ok (.if_icmp .ge 15, 3) := by decide +kernel
theorem dX8_putNumber_90 : decode cX8_putNumber 90 = .ok (.aload_n 0, 1) := by decide +kernel
theorem dX8_putNumber_91 : decode cX8_putNumber 91 = .ok (.iconst (-1), 1) := by decide +kernel
theorem dX8_putNumber_92 : decode cX8_putNumber 92 = .ok (.iconst 2, 1) := by decide +kernel
theorem dX8_putNumber_93 : decode cX8_putNumber 93 = .ok (.invokevirtual 104, 3) := by decide +kernel
theorem dX8_putNumber_96 : decode cX8_putNumber 96 = .ok (.iinc 5 1, 3) := by decide +kernel
theorem dX8_putNumber_99 : decode cX8_putNumber 99 = .ok (.goto (-15), 3) := by decide +kernel
theorem dX8_putNumber_102 : decode cX8_putNumber 102 = .ok (.return_, 1) := by decide +kernel
theorem dX8_putAmount_0 : decode cX8_putAmount 0 = .ok (.aload_n 0, 1) := by decide +kernel
theorem dX8_putAmount_1 : decode cX8_putAmount 1 = .ok (.iconst 0, 1) := by decide +kernel
theorem dX8_putAmount_2 : decode cX8_putAmount 2 = .ok (.putfield 101, 3) := by decide +kernel
theorem dX8_putAmount_5 : decode cX8_putAmount 5 = .ok (.iload 6, 2) := by decide +kernel
theorem dX8_putAmount_7 : decode cX8_putAmount 7 = .ok (.iconst 1, 1) := by decide +kernel
theorem dX8_putAmount_8 : decode cX8_putAmount 8 = .ok (.iand, 1) := by decide +kernel
theorem dX8_putAmount_9 : decode cX8_putAmount 9 = .ok (.ifCond .eq 7, 3) := by decide +kernel
theorem dX8_putAmount_12 : decode cX8_putAmount 12 = .ok (.iconst 1, 1) := by decide +kernel
theorem dX8_putAmount_13 : decode cX8_putAmount 13 = .ok (.goto 4, 3) := by decide +kernel
theorem dX8_putAmount_16 : decode cX8_putAmount 16 = .ok (.iconst 0, 1) := by decide +kernel
theorem dX8_putAmount_17 : decode cX8_putAmount 17 = .ok (.istore 7, 2) := by decide +kernel
theorem dX8_putAmount_19 : decode cX8_putAmount 19 = .ok (.iload 6, 2) := by decide +kernel
theorem dX8_putAmount_21 : decode cX8_putAmount 21 = .ok (.iconst 2, 1) := by decide +kernel
theorem dX8_putAmount_22 : decode cX8_putAmount 22 = .ok (.iand, 1) := by decide +kernel
theorem dX8_putAmount_23 : decode cX8_putAmount 23 = .ok (.ifCond .eq 7, 3) := by decide +kernel
theorem dX8_putAmount_26 : decode cX8_putAmount 26 = .ok (.iconst 1, 1) := by decide +kernel
theorem dX8_putAmount_27 : decode cX8_putAmount 27 = .ok (.goto 4, 3) := by decide +kernel
theorem dX8_putAmount_30 : decode cX8_putAmount 30 = .ok (.iconst 0, 1) := by decide +kernel
theorem dX8_putAmount_31 : decode cX8_putAmount 31 = .ok (.istore 8, 2) := by decide +kernel
theorem dX8_putAmount_33 : decode cX8_putAmount 33 = .ok (.iload 7, 2) := by decide +kernel
theorem dX8_putAmount_35 : decode cX8_putAmount 35 = .ok (.ifCond .eq 34, 3) := by decide +kernel
theorem dX8_putAmount_38 : decode cX8_putAmount 38 = .ok (.aload_n 0, 1) := by decide +kernel
theorem dX8_putAmount_39 : decode cX8_putAmount 39 = .ok (.getfield 22, 3) := by decide +kernel
theorem dX8_putAmount_42 : decode cX8_putAmount 42 = .ok (.iload_n 1, 1) := by decide +kernel
theorem dX8_putAmount_43 : decode cX8_putAmount 43 = .ok (.iaload, 1) := by decide +kernel
theorem dX8_putAmount_44 : decode cX8_putAmount 44 = .ok (.iconst 1, 1) := by decide +kernel
theorem dX8_putAmount_45 : decode cX8_putAmount 45 = .ok (.if_icmp .eq 24, 3) := by decide +kernel
theorem dX8_putAmount_48 : decode cX8_putAmount 48 = .ok (.aload_n 0, 1) := by decide +kernel
theorem dX8_putAmount_49 : decode cX8_putAmount 49 = .ok (.aload_n 0, 1) := by decide +kernel
theorem dX8_putAmount_50 : decode cX8_putAmount 50 = .ok (.getfield 22, 3) := by decide +kernel
theorem dX8_putAmount_53 : decode cX8_putAmount 53 = .ok (.iload_n 1, 1) := by decide +kernel
theorem dX8_putAmount_54 : decode cX8_putAmount 54 = .ok (.iaload, 1) := by decide +kernel
theorem dX8_putAmount_55 : decode cX8_putAmount 55 = .ok (.ifCond .ne 8, 3) := by decide +kernel
theorem dX8_putAmount_58 : decode cX8_putAmount 58 = .ok (.bipush 45, 2) := by decide +kernel
theorem dX8_putAmount_60 : decode cX8_putAmount 60 = .ok (.goto 5, 3) := by decide +kernel
theorem dX8_putAmount_63 : decode cX8_putAmount 63 = .ok (.bipush 40, 2) := by decide +kernel
theorem dX8_putAmount_65 : decode cX8_putAmount 65 = .ok (.iconst 0, 1) := by decide +kernel
theorem dX8_putAmount_66 : decode cX8_putAmount 66 = .ok (.invokevirtual 104, 3) := by decide +kernel
theorem dX8_putAmount_69 : decode cX8_putAmount 69 = .ok (.iload_n 2, 1) := by decide +kernel
theorem dX8_putAmount_70 : decode cX8_putAmount 70 = .ok (.iconst 1, 1) := by decide +kernel
theorem dX8_putAmount_71 : decode cX8_putAmount 71 = .ok (.if_icmp .ne 29, 3) := by decide +kernel
theorem dX8_putAmount_74 : decode cX8_putAmount 74 = .ok (.aload_n 0, 1) := by decide +kernel
theorem dX8_putAmount_75 : decode cX8_putAmount 75 = .ok (.getfield 28, 3) := by decide +kernel
theorem dX8_putAmount_78 : decode cX8_putAmount 78 = .ok (.iload_n 1, 1) := by decide +kernel
theorem dX8_putAmount_79 : decode cX8_putAmount 79 = .ok (.baload, 1) := by decide +kernel
theorem dX8_putAmount_80 : decode cX8_putAmount 80 = .ok (.ifCond .ne 20, 3) := by decide +kernel
theorem dX8_putAmount_83 : decode cX8_putAmount 83 = .ok (.aload_n 0, 1) := by decide +kernel
theorem dX8_putAmount_84 : decode cX8_putAmount 84 = .ok (.iload_n 1, 1) := by decide +kernel
theorem dX8_putAmount_85 : decode cX8_putAmount 85 = .ok (.invokevirtual 112, 3) := by decide +kernel
theorem dX8_putAmount_88 : decode cX8_putAmount 88 = .ok (.iload 8, 2) := by decide +kernel
theorem dX8_putAmount_90 : decode cX8_putAmount 90 = .ok (.ifCond .eq 10, 3) := by decide +kernel
theorem dX8_putAmount_93 : decode cX8_putAmount 93 = .ok (.aload_n 0, 1) := by decide +kernel
theorem dX8_putAmount_94 : decode cX8_putAmount 94 = .ok (.bipush 32, 2) := by decide +kernel
theorem dX8_putAmount_96 : decode cX8_putAmount 96 = .ok (.iconst 0, 1) := by decide +kernel
theorem dX8_putAmount_97 : decode cX8_putAmount 97 = .ok (.invokevirtual 104, 3) := by decide +kernel
theorem dX8_putAmount_100 : decode cX8_putAmount 100 = .ok (.aload_n 0, 1) := by decide +kernel
theorem dX8_putAmount_101 : decode cX8_putAmount 101 = .ok (.iload_n 1, 1) := by decide +kernel
theorem dX8_putAmount_102 : decode cX8_putAmount 102 = .ok (.iload_n 3, 1) := by decide +kernel
theorem dX8_putAmount_103 : decode cX8_putAmount 103 = .ok (.iload 4, 2) := by decide +kernel
theorem dX8_putAmount_105 : decode cX8_putAmount 105 = .ok (.iload 5, 2) := by decide +kernel
theorem dX8_putAmount_107 : decode cX8_putAmount 107 = .ok (.invokevirtual 116, 3) := by decide +kernel
theorem dX8_putAmount_110 : decode cX8_putAmount 110 = .ok (.iload_n 2, 1) := by decide +kernel
theorem dX8_putAmount_111 : decode cX8_putAmount 111 = .ok (.iconst 1, 1) := by decide +kernel
theorem dX8_putAmount_112 : decode cX8_putAmount 112 = .ok (.if_icmp .ne 29, 3) := by decide +kernel
theorem dX8_putAmount_115 : decode cX8_putAmount 115 = .ok (.aload_n 0, 1) := by decide +kernel
theorem dX8_putAmount_116 : decode cX8_putAmount 116 = .ok (.getfield 28, 3) := by decide +kernel
theorem dX8_putAmount_119 : decode cX8_putAmount 119 = .ok (.iload_n 1, 1) := by decide +kernel
theorem dX8_putAmount_120 : decode cX8_putAmount 120 = .ok (.baload, 1) := by decide +kernel
theorem dX8_putAmount_121 : decode cX8_putAmount 121 = .ok (.ifCond .eq 20, 3) := by decide +kernel
theorem dX8_putAmount_124 : decode cX8_putAmount 124 = .ok (.iload 8, 2) := by decide +kernel
theorem dX8_putAmount_126 : decode cX8_putAmount 126 = .ok (.ifCond .eq 10, 3) := by decide +kernel
theorem dX8_putAmount_129 : decode cX8_putAmount 129 = .ok (.aload_n 0, 1) := by decide +kernel
theorem dX8_putAmount_130 : decode cX8_putAmount 130 = .ok (.bipush 32, 2) := by decide +kernel
theorem dX8_putAmount_132 : decode cX8_putAmount 132 = .ok (.iconst 0, 1) := by decide +kernel
theorem dX8_putAmount_133 : decode cX8_putAmount 133 = .ok (.invokevirtual 104, 3) := by decide +kernel
theorem dX8_putAmount_136 : decode cX8_putAmount 136 = .ok (.aload_n 0, 1) := by decide +kernel
theorem dX8_putAmount_137 : decode cX8_putAmount 137 = .ok (.iload_n 1, 1) := by decide +kernel
theorem dX8_putAmount_138 : decode cX8_putAmount 138 = .ok (.invokevirtual 112, 3) := by decide +kernel
theorem dX8_putAmount_141 : decode cX8_putAmount 141 = .ok (.iload 7, 2) := by decide +kernel
theorem dX8_putAmount_143 : decode cX8_putAmount 143 = .ok (.ifCond .eq 34, 3) := by decide +kernel
theorem dX8_putAmount_146 : decode cX8_putAmount 146 = .ok (.aload_n 0, 1) := by decide +kernel
theorem dX8_putAmount_147 : decode cX8_putAmount 147 = .ok (.getfield 22, 3) := by decide +kernel
theorem dX8_putAmount_150 : decode cX8_putAmount 150 = .ok (.iload_n 1, 1) := by decide +kernel
theorem dX8_putAmount_151 : decode cX8_putAmount 151 = .ok (.iaload, 1) := by decide +kernel
theorem dX8_putAmount_152 : decode cX8_putAmount 152 = .ok (.ifCond .eq 25, 3) := by decide +kernel
theorem dX8_putAmount_155 : decode cX8_putAmount 155 = .ok (.aload_n 0, 1) := by decide +kernel
theorem dX8_putAmount_156 : decode cX8_putAmount 156 = .ok (.aload_n 0, 1) := by decide +kernel
theorem dX8_putAmount_157 : decode cX8_putAmount 157 = .ok (.getfield 22, 3) := by decide +kernel
theorem dX8_putAmount_160 : decode cX8_putAmount 160 = .ok (.iload_n 1, 1) := by decide +kernel
theorem dX8_putAmount_161 : decode cX8_putAmount 161 = .ok (.iaload, 1) := by decide +kernel
theorem dX8_putAmount_162 : decode cX8_putAmount 162 = .ok (.iconst 1, 1) := by decide +kernel
theorem dX8_putAmount_163 : decode cX8_putAmount 163 = .ok (.if_icmp .ne 8, 3) := by decide +kernel
theorem dX8_putAmount_166 : decode cX8_putAmount 166 = .ok (.bipush 45, 2) := by decide +kernel
theorem dX8_putAmount_168 : decode cX8_putAmount 168 = .ok (.goto 5, 3) := by decide +kernel
theorem dX8_putAmount_171 : decode cX8_putAmount 171 = .ok (.bipush 41, 2) := by decide +kernel
theorem dX8_putAmount_173 : decode cX8_putAmount 173 = .ok (.iconst 0, 1) := by decide +kernel
theorem dX8_putAmount_174 : decode cX8_putAmount 174 = .ok (.invokevirtual 104, 3) := by decide +kernel
theorem dX8_putAmount_177 : decode cX8_putAmount 177 = .ok (.return_, 1) := by decide +kernel
theorem dX8_matched_0 : decode cX8_matched 0 = .ok (.iload_n 1, 1) := by decide +kernel
theorem dX8_matched_1 : decode cX8_matched 1 = .ok (.aload_n 0, 1) := by decide +kernel
theorem dX8_matched_2 : decode cX8_matched 2 = .ok (.getfield 101, 3) := by decide +kernel
theorem dX8_matched_5 : decode cX8_matched 5 = .ok (.if_icmp .le 5, 3) := by decide +kernel
theorem dX8_matched_8 : decode cX8_matched 8 = .ok (.iconst 0, 1) := by decide +kernel
theorem dX8_matched_9 : decode cX8_matched 9 = .ok (.ireturn, 1) := by decide +kernel
theorem dX8_matched_10 : decode cX8_matched 10 = .ok (.iconst 0, 1) := by decide +kernel
theorem dX8_matched_11 : decode cX8_matched 11 = .ok (.istore_n 2, 1) := by decide +kernel
theorem dX8_matched_12 : decode cX8_matched 12 = .ok (.iload_n 2, 1) := by decide +kernel
theorem dX8_matched_13 : decode cX8_matched 13 = .ok (.iload_n 1, 1) := by decide +kernel
theorem dX8_matched_14 : decode cX8_matched 14 = .ok (.if_icmp .ge 76, 3) := by decide +kernel
theorem dX8_matched_17 : decode cX8_matched 17 = .ok (.aload_n 0, 1) := by decide +kernel
theorem dX8_matched_18 : decode cX8_matched 18 = .ok (.getfield 70, 3) := by decide +kernel
theorem dX8_matched_21 : decode cX8_matched 21 = .ok (.iload_n 2, 1) := by decide +kernel
theorem dX8_matched_22 : decode cX8_matched 22 = .ok (.iaload, 1) := by decide +kernel
theorem dX8_matched_23 : decode cX8_matched 23 = .ok (.ifCond .lt 26, 3) := by decide +kernel
theorem dX8_matched_26 : decode cX8_matched 26 = .ok (.aload_n 0, 1) := by decide +kernel
theorem dX8_matched_27 : decode cX8_matched 27 = .ok (.getfield 67, 3) := by decide +kernel
theorem dX8_matched_30 : decode cX8_matched 30 = .ok (.iload_n 2, 1) := by decide +kernel
theorem dX8_matched_31 : decode cX8_matched 31 = .ok (.iaload, 1) := by decide +kernel
theorem dX8_matched_32 : decode cX8_matched 32 = .ok (.aload_n 0, 1) := by decide +kernel
theorem dX8_matched_33 : decode cX8_matched 33 = .ok (.getfield 70, 3) := by decide +kernel
theorem dX8_matched_36 : decode cX8_matched 36 = .ok (.iload_n 2, 1) := by decide +kernel
theorem dX8_matched_37 : decode cX8_matched 37 = .ok (.iaload, 1) := by decide +kernel
theorem dX8_matched_38 : decode cX8_matched 38 = .ok (.if_icmp .ne 7, 3) := by decide +kernel
theorem dX8_matched_41 : decode cX8_matched 41 = .ok (.iconst 1, 1) := by decide +kernel
theorem dX8_matched_42 : decode cX8_matched 42 = .ok (.goto 35, 3) := by decide +kernel
theorem dX8_matched_45 : decode cX8_matched 45 = .ok (.iconst 0, 1) := by decide +kernel
theorem dX8_matched_46 : decode cX8_matched 46 = .ok (.goto 31, 3) := by decide +kernel
theorem dX8_matched_49 : decode cX8_matched 49 = .ok (.aload_n 0, 1) := by decide +kernel
theorem dX8_matched_50 : decode cX8_matched 50 = .ok (.getfield 67, 3) := by decide +kernel
theorem dX8_matched_53 : decode cX8_matched 53 = .ok (.iload_n 2, 1) := by decide +kernel
theorem dX8_matched_54 : decode cX8_matched 54 = .ok (.iaload, 1) := by decide +kernel
theorem dX8_matched_55 : decode cX8_matched 55 = .ok (.aload_n 0, 1) := by decide +kernel
theorem dX8_matched_56 : decode cX8_matched 56 = .ok (.getfield 70, 3) := by decide +kernel
theorem dX8_matched_59 : decode cX8_matched 59 = .ok (.iload_n 2, 1) := by decide +kernel
theorem dX8_matched_60 : decode cX8_matched 60 = .ok (.iaload, 1) := by decide +kernel
theorem dX8_matched_61 : decode cX8_matched 61 = .ok (.iconst (-1), 1) := by decide +kernel
theorem dX8_matched_62 : decode cX8_matched 62 = .ok (.if_icmp .ne 8, 3) := by decide +kernel
theorem dX8_matched_65 : decode cX8_matched 65 = .ok (.bipush 48, 2) := by decide +kernel
theorem dX8_matched_67 : decode cX8_matched 67 = .ok (.goto 5, 3) := by decide +kernel
theorem dX8_matched_70 : decode cX8_matched 70 = .ok (.bipush 49, 2) := by decide +kernel
theorem dX8_matched_72 : decode cX8_matched 72 = .ok (.bipush 57, 2) := by decide +kernel
theorem dX8_matched_74 : decode cX8_matched 74 = .ok (.invokestatic 94, 3) := by decide +kernel
theorem dX8_matched_77 : decode cX8_matched 77 = .ok (.istore_n 3, 1) := by decide +kernel
theorem dX8_matched_78 : decode cX8_matched 78 = .ok (.iload_n 3, 1) := by decide +kernel
theorem dX8_matched_79 : decode cX8_matched 79 = .ok (.ifCond .ne 5, 3) := by decide +kernel
theorem dX8_matched_82 : decode cX8_matched 82 = .ok (.iconst 0, 1) := by decide +kernel
theorem dX8_matched_83 : decode cX8_matched 83 = .ok (.ireturn, 1) := by decide +kernel
theorem dX8_matched_84 : decode cX8_matched 84 = .ok (.iinc 2 1, 3) := by decide +kernel
theorem dX8_matched_87 : decode cX8_matched 87 = .ok (.goto (-75), 3) := by decide +kernel
theorem dX8_matched_90 : decode cX8_matched 90 = .ok (.iload_n 1, 1) := by decide +kernel
theorem dX8_matched_91 : decode cX8_matched 91 = .ok (.aload_n 0, 1) := by decide +kernel
theorem dX8_matched_92 : decode cX8_matched 92 = .ok (.getfield 101, 3) := by decide +kernel
theorem dX8_matched_95 : decode cX8_matched 95 = .ok (.if_icmp .ne 7, 3) := by decide +kernel
theorem dX8_matched_98 : decode cX8_matched 98 = .ok (.iconst 2, 1) := by decide +kernel
theorem dX8_matched_99 : decode cX8_matched 99 = .ok (.goto 4, 3) := by decide +kernel
theorem dX8_matched_102 : decode cX8_matched 102 = .ok (.iconst 1, 1) := by decide +kernel
theorem dX8_matched_103 : decode cX8_matched 103 = .ok (.ireturn, 1) := by decide +kernel
theorem dX8_findValue_0 : decode cX8_findValue 0 = .ok (.lconst 0, 1) := by decide +kernel
theorem dX8_findValue_1 : decode cX8_findValue 1 = .ok (.lstore_n 2, 1) := by decide +kernel
theorem dX8_findValue_2 : decode cX8_findValue 2 = .ok (.ldc2_w 120, 3) := by decide +kernel
theorem dX8_findValue_5 : decode cX8_findValue 5 = .ok (.lstore 4, 2) := by decide +kernel
theorem dX8_findValue_7 : decode cX8_findValue 7 = .ok (.iconst 0, 1) := by decide +kernel
theorem dX8_findValue_8 : decode cX8_findValue 8 = .ok (.istore 6, 2) := by decide +kernel
theorem dX8_findValue_10 : decode cX8_findValue 10 = .ok (.iload 6, 2) := by decide +kernel
theorem dX8_findValue_12 : decode cX8_findValue 12 = .ok (.aload_n 0, 1) := by decide +kernel
theorem dX8_findValue_13 : decode cX8_findValue 13 = .ok (.getfield 101, 3) := by decide +kernel
theorem dX8_findValue_16 : decode cX8_findValue 16 = .ok (.if_icmp .ge 38, 3) := by decide +kernel
theorem dX8_findValue_19 : decode cX8_findValue 19 = .ok (.aload_n 0, 1) := by decide +kernel
theorem dX8_findValue_20 : decode cX8_findValue 20 = .ok (.getfield 73, 3) := by decide +kernel
theorem dX8_findValue_23 : decode cX8_findValue 23 = .ok (.iload 6, 2) := by decide +kernel
theorem dX8_findValue_25 : decode cX8_findValue 25 = .ok (.iaload, 1) := by decide +kernel
theorem dX8_findValue_26 : decode cX8_findValue 26 = .ok (.iconst 1, 1) := by decide +kernel
theorem dX8_findValue_27 : decode cX8_findValue 27 = .ok (.if_icmp .ne 21, 3) := by decide +kernel
theorem dX8_findValue_30 : decode cX8_findValue 30 = .ok (.ldc2_w 122, 3) := by decide +kernel
theorem dX8_findValue_33 : decode cX8_findValue 33 = .ok (.lload_n 2, 1) := by decide +kernel
theorem dX8_findValue_34 : decode cX8_findValue 34 = .ok (.lmul, 1) := by decide +kernel
theorem dX8_findValue_35 : decode cX8_findValue 35 = .ok (.aload_n 0, 1) := by decide +kernel
theorem dX8_findValue_36 : decode cX8_findValue 36 = .ok (.getfield 67, 3) := by decide +kernel
theorem dX8_findValue_39 : decode cX8_findValue 39 = .ok (.iload 6, 2) := by decide +kernel
theorem dX8_findValue_41 : decode cX8_findValue 41 = .ok (.iaload, 1) := by decide +kernel
theorem dX8_findValue_42 : decode cX8_findValue 42 = .ok (.bipush 48, 2) := by decide +kernel
theorem dX8_findValue_44 : decode cX8_findValue 44 = .ok (.isub, 1) := by decide +kernel
theorem dX8_findValue_45 : decode cX8_findValue 45 = .ok (.i2l, 1) := by decide +kernel
theorem dX8_findValue_46 : decode cX8_findValue 46 = .ok (.ladd, 1) := by decide +kernel
theorem dX8_findValue_47 : decode cX8_findValue 47 = .ok (.lstore_n 2, 1) := by decide +kernel
theorem dX8_findValue_48 : decode cX8_findValue 48 = .ok (.iinc 6 1, 3) := by decide +kernel
theorem dX8_findValue_51 : decode cX8_findValue 51 = .ok (.goto (-41), 3) := by decide +kernel
theorem dX8_findValue_54 : decode cX8_findValue 54 = .ok (.lload_n 2, 1) := by decide +kernel
theorem dX8_findValue_55 : decode cX8_findValue 55 = .ok (.ldc2_w 120, 3) := by decide +kernel
theorem dX8_findValue_58 : decode cX8_findValue 58 = .ok (.lmul, 1) := by decide +kernel
theorem dX8_findValue_59 : decode cX8_findValue 59 = .ok (.lstore_n 2, 1) := by decide +kernel
theorem dX8_findValue_60 : decode cX8_findValue 60 = .ok (.iconst 0, 1) := by decide +kernel
theorem dX8_findValue_61 : decode cX8_findValue 61 = .ok (.istore 6, 2) := by decide +kernel
theorem dX8_findValue_63 : decode cX8_findValue 63 = .ok (.iload 6, 2) := by decide +kernel
theorem dX8_findValue_65 : decode cX8_findValue 65 = .ok (.aload_n 0, 1) := by decide +kernel
theorem dX8_findValue_66 : decode cX8_findValue 66 = .ok (.getfield 101, 3) := by decide +kernel
theorem dX8_findValue_69 : decode cX8_findValue 69 = .ok (.if_icmp .ge 45, 3) := by decide +kernel
theorem dX8_findValue_72 : decode cX8_findValue 72 = .ok (.aload_n 0, 1) := by decide +kernel
theorem dX8_findValue_73 : decode cX8_findValue 73 = .ok (.getfield 73, 3) := by decide +kernel
theorem dX8_findValue_76 : decode cX8_findValue 76 = .ok (.iload 6, 2) := by decide +kernel
theorem dX8_findValue_78 : decode cX8_findValue 78 = .ok (.iaload, 1) := by decide +kernel
theorem dX8_findValue_79 : decode cX8_findValue 79 = .ok (.iconst 2, 1) := by decide +kernel
theorem dX8_findValue_80 : decode cX8_findValue 80 = .ok (.if_icmp .ne 28, 3) := by decide +kernel
theorem dX8_findValue_83 : decode cX8_findValue 83 = .ok (.lload 4, 2) := by decide +kernel
theorem dX8_findValue_85 : decode cX8_findValue 85 = .ok (.ldc2_w 122, 3) := by decide +kernel
theorem dX8_findValue_88 : decode cX8_findValue 88 = .ok (.ldiv, 1) := by decide +kernel
theorem dX8_findValue_89 : decode cX8_findValue 89 = .ok (.lstore 4, 2) := by decide +kernel
theorem dX8_findValue_91 : decode cX8_findValue 91 = .ok (.lload_n 2, 1) := by decide +kernel
theorem dX8_findValue_92 : decode cX8_findValue 92 = .ok (.lload 4, 2) := by decide +kernel
theorem dX8_findValue_94 : decode cX8_findValue 94 = .ok (.aload_n 0, 1) := by decide +kernel
theorem dX8_findValue_95 : decode cX8_findValue 95 = .ok (.getfield 67, 3) := by decide +kernel
theorem dX8_findValue_98 : decode cX8_findValue 98 = .ok (.iload 6, 2) := by decide +kernel
theorem dX8_findValue_100 : decode cX8_findValue 100 = .ok (.iaload, 1) := by decide +kernel
theorem dX8_findValue_101 : decode cX8_findValue 101 = .ok (.bipush 48, 2) := by decide +kernel
theorem dX8_findValue_103 : decode cX8_findValue 103 = .ok (.isub, 1) := by decide +kernel
theorem dX8_findValue_104 : decode cX8_findValue 104 = .ok (.i2l, 1) := by decide +kernel
theorem dX8_findValue_105 : decode cX8_findValue 105 = .ok (.lmul, 1) := by decide +kernel
theorem dX8_findValue_106 : decode cX8_findValue 106 = .ok (.ladd, 1) := by decide +kernel
theorem dX8_findValue_107 : decode cX8_findValue 107 = .ok (.lstore_n 2, 1) := by decide +kernel
theorem dX8_findValue_108 : decode cX8_findValue 108 = .ok (.iinc 6 1, 3) := by decide +kernel
theorem dX8_findValue_111 : decode cX8_findValue 111 = .ok (.goto (-48), 3) := by decide +kernel
theorem dX8_findValue_114 : decode cX8_findValue 114 = .ok (.aload_n 0, 1) := by decide +kernel
theorem dX8_findValue_115 : decode cX8_findValue 115 = .ok (.iload_n 1, 1) := by decide +kernel
theorem dX8_findValue_116 : decode cX8_findValue 116 = .ok (.ifCond .eq 8, 3) := by decide +kernel
theorem dX8_findValue_119 : decode cX8_findValue 119 = .ok (.lload_n 2, 1) := by decide +kernel
theorem dX8_findValue_120 : decode cX8_findValue 120 = .ok (.lneg, 1) := by decide +kernel
theorem dX8_findValue_121 : decode cX8_findValue 121 = .ok (.goto 4, 3) := by decide +kernel
theorem dX8_findValue_124 : decode cX8_findValue 124 = .ok (.lload_n 2, 1) := by decide +kernel
theorem dX8_findValue_125 : decode cX8_findValue 125 = .ok (.putfield 124, 3) := by decide +kernel
theorem dX8_findValue_128 : decode cX8_findValue 128 = .ok (.return_, 1) := by decide +kernel
theorem dX8_amount_0 : decode cX8_amount 0 = .ok (.iconst 0, 1) := by decide +kernel
theorem dX8_amount_1 : decode cX8_amount 1 = .ok (.istore 4, 2) := by decide +kernel
theorem dX8_amount_3 : decode cX8_amount 3 = .ok (.iload_n 2, 1) := by decide +kernel
theorem dX8_amount_4 : decode cX8_amount 4 = .ok (.iconst 1, 1) := by decide +kernel
theorem dX8_amount_5 : decode cX8_amount 5 = .ok (.if_icmp .ne 7, 3) := by decide +kernel
theorem dX8_amount_8 : decode cX8_amount 8 = .ok (.iconst 4, 1) := by decide +kernel
theorem dX8_amount_9 : decode cX8_amount 9 = .ok (.goto 4, 3) := by decide +kernel
theorem dX8_amount_12 : decode cX8_amount 12 = .ok (.iconst 2, 1) := by decide +kernel
theorem dX8_amount_13 : decode cX8_amount 13 = .ok (.istore 5, 2) := by decide +kernel
theorem dX8_amount_15 : decode cX8_amount 15 = .ok (.iconst 1, 1) := by decide +kernel
theorem dX8_amount_16 : decode cX8_amount 16 = .ok (.istore 6, 2) := by decide +kernel
theorem dX8_amount_18 : decode cX8_amount 18 = .ok (.iload 6, 2) := by decide +kernel
theorem dX8_amount_20 : decode cX8_amount 20 = .ok (.bipush 9, 2) := by decide +kernel
theorem dX8_amount_22 : decode cX8_amount 22 = .ok (.if_icmp .gt 144, 3) := by decide +kernel
theorem dX8_amount_25 : decode cX8_amount 25 = .ok (.iconst 0, 1) := by decide +kernel
theorem dX8_amount_26 : decode cX8_amount 26 = .ok (.istore 7, 2) := by decide +kernel
theorem dX8_amount_28 : decode cX8_amount 28 = .ok (.iload 7, 2) := by decide +kernel
theorem dX8_amount_30 : decode cX8_amount 30 = .ok (.bipush 6, 2) := by decide +kernel
theorem dX8_amount_32 : decode cX8_amount 32 = .ok (.if_icmp .gt 128, 3) := by decide +kernel
theorem dX8_amount_35 : decode cX8_amount 35 = .ok (.iconst 0, 1) := by decide +kernel
theorem dX8_amount_36 : decode cX8_amount 36 = .ok (.istore 8, 2) := by decide +kernel
theorem dX8_amount_38 : decode cX8_amount 38 = .ok (.iload 8, 2) := by decide +kernel
theorem dX8_amount_40 : decode cX8_amount 40 = .ok (.iconst 2, 1) := by decide +kernel
theorem dX8_amount_41 : decode cX8_amount 41 = .ok (.iload 5, 2) := by decide +kernel
theorem dX8_amount_43 : decode cX8_amount 43 = .ok (.imul, 1) := by decide +kernel
theorem dX8_amount_44 : decode cX8_amount 44 = .ok (.if_icmp .ge 110, 3) := by decide +kernel
theorem dX8_amount_47 : decode cX8_amount 47 = .ok (.iload 8, 2) := by decide +kernel
theorem dX8_amount_49 : decode cX8_amount 49 = .ok (.iload 5, 2) := by decide +kernel
theorem dX8_amount_51 : decode cX8_amount 51 = .ok (.if_icmp .lt 7, 3) := by decide +kernel
theorem dX8_amount_54 : decode cX8_amount 54 = .ok (.iconst 1, 1) := by decide +kernel
theorem dX8_amount_55 : decode cX8_amount 55 = .ok (.goto 4, 3) := by decide +kernel
theorem dX8_amount_58 : decode cX8_amount 58 = .ok (.iconst 0, 1) := by decide +kernel
theorem dX8_amount_59 : decode cX8_amount 59 = .ok (.istore 9, 2) := by decide +kernel
theorem dX8_amount_61 : decode cX8_amount 61 = .ok (.iload 9, 2) := by decide +kernel
theorem dX8_amount_63 : decode cX8_amount 63 = .ok (.ifCond .eq 21, 3) := by decide +kernel
theorem dX8_amount_66 : decode cX8_amount 66 = .ok (.iload 6, 2) := by decide +kernel
theorem dX8_amount_68 : decode cX8_amount 68 = .ok (.iconst 4, 1) := by decide +kernel
theorem dX8_amount_69 : decode cX8_amount 69 = .ok (.if_icmp .lt 79, 3) := by decide +kernel
theorem dX8_amount_72 : decode cX8_amount 72 = .ok (.aload_n 0, 1) := by decide +kernel
theorem dX8_amount_73 : decode cX8_amount 73 = .ok (.getfield 16, 3) := by decide +kernel
theorem dX8_amount_76 : decode cX8_amount 76 = .ok (.iload_n 1, 1) := by decide +kernel
theorem dX8_amount_77 : decode cX8_amount 77 = .ok (.iaload, 1) := by decide +kernel
theorem dX8_amount_78 : decode cX8_amount 78 = .ok (.ifCond .ne 6, 3) := by decide +kernel
theorem dX8_amount_81 : decode cX8_amount 81 = .ok (.goto 67, 3) := by decide +kernel
theorem dX8_amount_84 : decode cX8_amount 84 = .ok (.aload_n 0, 1) := by decide +kernel
theorem dX8_amount_85 : decode cX8_amount 85 = .ok (.iload_n 1, 1) := by decide +kernel
theorem dX8_amount_86 : decode cX8_amount 86 = .ok (.iload_n 2, 1) := by decide +kernel
theorem dX8_amount_87 : decode cX8_amount 87 = .ok (.iload 6, 2) := by decide +kernel
theorem dX8_amount_89 : decode cX8_amount 89 = .ok (.iload 7, 2) := by decide +kernel
theorem dX8_amount_91 : decode cX8_amount 91 = .ok (.iload 9, 2) := by decide +kernel
theorem dX8_amount_93 : decode cX8_amount 93 = .ok (.iload 8, 2) := by decide +kernel
theorem dX8_amount_95 : decode cX8_amount 95 = .ok (.iload 5, 2) := by decide +kernel
theorem dX8_amount_97 : decode cX8_amount 97 = .ok (.irem, 1) := by decide +kernel
theorem dX8_amount_98 : decode cX8_amount 98 = .ok (.invokevirtual 128, 3) := by decide +kernel
theorem dX8_amount_101 : decode cX8_amount 101 = .ok (.aload_n 0, 1) := by decide +kernel
theorem dX8_amount_102 : decode cX8_amount 102 = .ok (.iload_n 3, 1) := by decide +kernel
theorem dX8_amount_103 : decode cX8_amount 103 = .ok (.invokevirtual 132, 3) := by decide +kernel
theorem dX8_amount_106 : decode cX8_amount 106 = .ok (.istore 10, 2) := by decide +kernel
theorem dX8_amount_108 : decode cX8_amount 108 = .ok (.iload 10, 2) := by decide +kernel
theorem dX8_amount_110 : decode cX8_amount 110 = .ok (.iconst 2, 1) := by decide +kernel
theorem dX8_amount_111 : decode cX8_amount 111 = .ok (.if_icmp .ne 21, 3) := by decide +kernel
theorem dX8_amount_114 : decode cX8_amount 114 = .ok (.aload_n 0, 1) := by decide +kernel
theorem dX8_amount_115 : decode cX8_amount 115 = .ok (.iload 8, 2) := by decide +kernel
theorem dX8_amount_117 : decode cX8_amount 117 = .ok (.iconst 1, 1) := by decide +kernel
theorem dX8_amount_118 : decode cX8_amount 118 = .ok (.iand, 1) := by decide +kernel
theorem dX8_amount_119 : decode cX8_amount 119 = .ok (.ifCond .eq 7, 3) := by decide +kernel
theorem dX8_amount_122 : decode cX8_amount 122 = .ok (.iconst 1, 1) := by decide +kernel
theorem dX8_amount_123 : decode cX8_amount 123 = .ok (.goto 4, 3) := by decide +kernel
theorem dX8_amount_126 : decode cX8_amount 126 = .ok (.iconst 0, 1) := by decide +kernel
theorem dX8_amount_127 : decode cX8_amount 127 = .ok (.invokevirtual 136, 3) := by decide +kernel
theorem dX8_amount_130 : decode cX8_amount 130 = .ok (.iconst 2, 1) := by decide +kernel
theorem dX8_amount_131 : decode cX8_amount 131 = .ok (.ireturn, 1) := by decide +kernel
theorem dX8_amount_132 : decode cX8_amount 132 = .ok (.iload 10, 2) := by decide +kernel
theorem dX8_amount_134 : decode cX8_amount 134 = .ok (.iload 4, 2) := by decide +kernel
theorem dX8_amount_136 : decode cX8_amount 136 = .ok (.if_icmp .le 8, 3) := by decide +kernel
theorem dX8_amount_139 : decode cX8_amount 139 = .ok (.iload 10, 2) := by decide +kernel
theorem dX8_amount_141 : decode cX8_amount 141 = .ok (.goto 5, 3) := by decide +kernel
theorem dX8_amount_144 : decode cX8_amount 144 = .ok (.iload 4, 2) := by decide +kernel
theorem dX8_amount_146 : decode cX8_amount 146 = .ok (.istore 4, 2) := by decide +kernel
theorem dX8_amount_148 : decode cX8_amount 148 = .ok (.iinc 8 1, 3) := by decide +kernel
theorem dX8_amount_151 : decode cX8_amount 151 = .ok (.goto (-113), 3) := by decide +kernel
theorem dX8_amount_154 : decode cX8_amount 154 = .ok (.iinc 7 1, 3) := by decide +kernel
theorem dX8_amount_157 : decode cX8_amount 157 = .ok (.goto (-129), 3) := by decide +kernel
theorem dX8_amount_160 : decode cX8_amount 160 = .ok (.iinc 6 1, 3) := by decide +kernel
theorem dX8_amount_163 : decode cX8_amount 163 = .ok (.goto (-145), 3) := by decide +kernel
theorem dX8_amount_166 : decode cX8_amount 166 = .ok (.iload 4, 2) := by decide +kernel
theorem dX8_amount_168 : decode cX8_amount 168 = .ok (.ireturn, 1) := by decide +kernel
theorem dX8_isLeap_0 : decode cX8_isLeap 0 = .ok (.iload_n 0, 1) := by decide +kernel
theorem dX8_isLeap_1 : decode cX8_isLeap 1 = .ok (.iconst 4, 1) := by decide +kernel
theorem dX8_isLeap_2 : decode cX8_isLeap 2 = .ok (.irem, 1) := by decide +kernel
theorem dX8_isLeap_3 : decode cX8_isLeap 3 = .ok (.ifCond .ne 22, 3) := by decide +kernel
theorem dX8_isLeap_6 : decode cX8_isLeap 6 = .ok (.iload_n 0, 1) := by decide +kernel
theorem dX8_isLeap_7 : decode cX8_isLeap 7 = .ok (.bipush 100, 2) := by decide +kernel
theorem dX8_isLeap_9 : decode cX8_isLeap 9 = .ok (.irem, 1) := by decide +kernel
theorem dX8_isLeap_10 : decode cX8_isLeap 10 = .ok (.ifCond .ne 11, 3) := by decide +kernel
theorem dX8_isLeap_13 : decode cX8_isLeap 13 = .ok (.iload_n 0, 1) := by decide +kernel
theorem dX8_isLeap_14 : decode cX8_isLeap 14 = .ok (.sipush 400, 3) := by decide +kernel
theorem dX8_isLeap_17 : decode cX8_isLeap 17 = .ok (.irem, 1) := by decide +kernel
theorem dX8_isLeap_18 : decode cX8_isLeap 18 = .ok (.ifCond .ne 7, 3) := by decide +kernel
theorem dX8_isLeap_21 : decode cX8_isLeap 21 = .ok (.iconst 1, 1) := by decide +kernel
theorem dX8_isLeap_22 : decode cX8_isLeap 22 = .ok (.goto 4, 3) := by decide +kernel
theorem dX8_isLeap_25 : decode cX8_isLeap 25 = .ok (.iconst 0, 1) := by decide +kernel
theorem dX8_isLeap_26 : decode cX8_isLeap 26 = .ok (.ireturn, 1) := by decide +kernel
theorem dX8_daysOf_0 : decode cX8_daysOf 0 = .ok (.iload_n 0, 1) := by decide +kernel
theorem dX8_daysOf_1 : decode cX8_daysOf 1 = .ok (.iconst 2, 1) := by decide +kernel
theorem dX8_daysOf_2 : decode cX8_daysOf 2 = .ok (.if_icmp .ne 20, 3) := by decide +kernel
theorem dX8_daysOf_5 : decode cX8_daysOf 5 = .ok (.iload_n 1, 1) := by decide +kernel
theorem dX8_daysOf_6 : decode cX8_daysOf 6 = .ok (.invokestatic 140, 3) := by decide +kernel
theorem dX8_daysOf_9 : decode cX8_daysOf 9 = .ok (.ifCond .eq 8, 3) := by decide +kernel
theorem dX8_daysOf_12 : decode cX8_daysOf 12 = .ok (.bipush 29, 2) := by decide +kernel
theorem dX8_daysOf_14 : decode cX8_daysOf 14 = .ok (.goto 38, 3) := by decide +kernel
theorem dX8_daysOf_17 : decode cX8_daysOf 17 = .ok (.bipush 28, 2) := by decide +kernel
theorem dX8_daysOf_19 : decode cX8_daysOf 19 = .ok (.goto 33, 3) := by decide +kernel
theorem dX8_daysOf_22 : decode cX8_daysOf 22 = .ok (.iload_n 0, 1) := by decide +kernel
theorem dX8_daysOf_23 : decode cX8_daysOf 23 = .ok (.iconst 4, 1) := by decide +kernel
theorem dX8_daysOf_24 : decode cX8_daysOf 24 = .ok (.if_icmp .eq 21, 3) := by decide +kernel
theorem dX8_daysOf_27 : decode cX8_daysOf 27 = .ok (.iload_n 0, 1) := by decide +kernel
theorem dX8_daysOf_28 : decode cX8_daysOf 28 = .ok (.bipush 6, 2) := by decide +kernel
theorem dX8_daysOf_30 : decode cX8_daysOf 30 = .ok (.if_icmp .eq 15, 3) := by decide +kernel
theorem dX8_daysOf_33 : decode cX8_daysOf 33 = .ok (.iload_n 0, 1) := by decide +kernel
theorem dX8_daysOf_34 : decode cX8_daysOf 34 = .ok (.bipush 9, 2) := by decide +kernel
theorem dX8_daysOf_36 : decode cX8_daysOf 36 = .ok (.if_icmp .eq 9, 3) := by decide +kernel
theorem dX8_daysOf_39 : decode cX8_daysOf 39 = .ok (.iload_n 0, 1) := by decide +kernel
theorem dX8_daysOf_40 : decode cX8_daysOf 40 = .ok (.bipush 11, 2) := by decide +kernel
theorem dX8_daysOf_42 : decode cX8_daysOf 42 = .ok (.if_icmp .ne 8, 3) := by decide +kernel
theorem dX8_daysOf_45 : decode cX8_daysOf 45 = .ok (.bipush 30, 2) := by decide +kernel
theorem dX8_daysOf_47 : decode cX8_daysOf 47 = .ok (.goto 5, 3) := by decide +kernel
theorem dX8_daysOf_50 : decode cX8_daysOf 50 = .ok (.bipush 31, 2) := by decide +kernel
theorem dX8_daysOf_52 : decode cX8_daysOf 52 = .ok (.ireturn, 1) := by decide +kernel
theorem dX8_dayNumber_0 : decode cX8_dayNumber 0 = .ok (.iload_n 2, 1) := by decide +kernel
theorem dX8_dayNumber_1 : decode cX8_dayNumber 1 = .ok (.iconst 1, 1) := by decide +kernel
theorem dX8_dayNumber_2 : decode cX8_dayNumber 2 = .ok (.isub, 1) := by decide +kernel
theorem dX8_dayNumber_3 : decode cX8_dayNumber 3 = .ok (.i2l, 1) := by decide +kernel
theorem dX8_dayNumber_4 : decode cX8_dayNumber 4 = .ok (.lstore_n 3, 1) := by decide +kernel
theorem dX8_dayNumber_5 : decode cX8_dayNumber 5 = .ok (.ldc2_w 144, 3) := by decide +kernel
theorem dX8_dayNumber_8 : decode cX8_dayNumber 8 = .ok (.lload_n 3, 1) := by decide +kernel
theorem dX8_dayNumber_9 : decode cX8_dayNumber 9 = .ok (.lmul, 1) := by decide +kernel
theorem dX8_dayNumber_10 : decode cX8_dayNumber 10 = .ok (.lload_n 3, 1) := by decide +kernel
theorem dX8_dayNumber_11 : decode cX8_dayNumber 11 = .ok (.ldc2_w 146, 3) := by decide +kernel
theorem dX8_dayNumber_14 : decode cX8_dayNumber 14 = .ok (.ldiv, 1) := by decide +kernel
theorem dX8_dayNumber_15 : decode cX8_dayNumber 15 = .ok (.ladd, 1) := by decide +kernel
theorem dX8_dayNumber_16 : decode cX8_dayNumber 16 = .ok (.lload_n 3, 1) := by decide +kernel
theorem dX8_dayNumber_17 : decode cX8_dayNumber 17 = .ok (.ldc2_w 148, 3) := by decide +kernel
theorem dX8_dayNumber_20 : decode cX8_dayNumber 20 = .ok (.ldiv, 1) := by decide +kernel
theorem dX8_dayNumber_21 : decode cX8_dayNumber 21 = .ok (.lsub, 1) := by decide +kernel
theorem dX8_dayNumber_22 : decode cX8_dayNumber 22 = .ok (.lload_n 3, 1) := by decide +kernel
theorem dX8_dayNumber_23 : decode cX8_dayNumber 23 = .ok (.ldc2_w 150, 3) := by decide +kernel
theorem dX8_dayNumber_26 : decode cX8_dayNumber 26 = .ok (.ldiv, 1) := by decide +kernel
theorem dX8_dayNumber_27 : decode cX8_dayNumber 27 = .ok (.ladd, 1) := by decide +kernel
theorem dX8_dayNumber_28 : decode cX8_dayNumber 28 = .ok (.lstore 5, 2) := by decide +kernel
theorem dX8_dayNumber_30 : decode cX8_dayNumber 30 = .ok (.iconst 1, 1) := by decide +kernel
theorem dX8_dayNumber_31 : decode cX8_dayNumber 31 = .ok (.istore 7, 2) := by decide +kernel
theorem dX8_dayNumber_33 : decode cX8_dayNumber 33 = .ok (.iload 7, 2) := by decide +kernel
theorem dX8_dayNumber_35 : decode cX8_dayNumber 35 = .ok (.iload_n 1, 1) := by decide +kernel
theorem dX8_dayNumber_36 : decode cX8_dayNumber 36 = .ok (.if_icmp .ge 21, 3) := by decide +kernel
theorem dX8_dayNumber_39 : decode cX8_dayNumber 39 = .ok (.lload 5, 2) := by decide +kernel
theorem dX8_dayNumber_41 : decode cX8_dayNumber 41 = .ok (.iload 7, 2) := by decide +kernel
theorem dX8_dayNumber_43 : decode cX8_dayNumber 43 = .ok (.iload_n 2, 1) := by decide +kernel
theorem dX8_dayNumber_44 : decode cX8_dayNumber 44 = .ok (.invokestatic 152, 3) := by decide +kernel
theorem dX8_dayNumber_47 : decode cX8_dayNumber 47 = .ok (.i2l, 1) := by decide +kernel
theorem dX8_dayNumber_48 : decode cX8_dayNumber 48 = .ok (.ladd, 1) := by decide +kernel
theorem dX8_dayNumber_49 : decode cX8_dayNumber 49 = .ok (.lstore 5, 2) := by decide +kernel
theorem dX8_dayNumber_51 : decode cX8_dayNumber 51 = .ok (.iinc 7 1, 3) := by decide +kernel
theorem dX8_dayNumber_54 : decode cX8_dayNumber 54 = .ok (.goto (-21), 3) := by decide +kernel
theorem dX8_dayNumber_57 : decode cX8_dayNumber 57 = .ok (.lload 5, 2) := by decide +kernel
theorem dX8_dayNumber_59 : decode cX8_dayNumber 59 = .ok (.iload_n 0, 1) := by decide +kernel
theorem dX8_dayNumber_60 : decode cX8_dayNumber 60 = .ok (.i2l, 1) := by decide +kernel
theorem dX8_dayNumber_61 : decode cX8_dayNumber 61 = .ok (.ladd, 1) := by decide +kernel
theorem dX8_dayNumber_62 : decode cX8_dayNumber 62 = .ok (.lconst 1, 1) := by decide +kernel
theorem dX8_dayNumber_63 : decode cX8_dayNumber 63 = .ok (.lsub, 1) := by decide +kernel
theorem dX8_dayNumber_64 : decode cX8_dayNumber 64 = .ok (.lreturn, 1) := by decide +kernel
theorem dX8_begins_0 : decode cX8_begins 0 = .ok (.iload_n 2, 1) := by decide +kernel
theorem dX8_begins_1 : decode cX8_begins 1 = .ok (.iconst 4, 1) := by decide +kernel
theorem dX8_begins_2 : decode cX8_begins 2 = .ok (.if_icmp .ne 9, 3) := by decide +kernel
theorem dX8_begins_5 : decode cX8_begins 5 = .ok (.sipush 1000, 3) := by decide +kernel
theorem dX8_begins_8 : decode cX8_begins 8 = .ok (.goto 14, 3) := by decide +kernel
theorem dX8_begins_11 : decode cX8_begins 11 = .ok (.iload_n 2, 1) := by decide +kernel
theorem dX8_begins_12 : decode cX8_begins 12 = .ok (.iconst 2, 1) := by decide +kernel
theorem dX8_begins_13 : decode cX8_begins 13 = .ok (.if_icmp .ne 8, 3) := by decide +kernel
theorem dX8_begins_16 : decode cX8_begins 16 = .ok (.bipush 10, 2) := by decide +kernel
theorem dX8_begins_18 : decode cX8_begins 18 = .ok (.goto 4, 3) := by decide +kernel
theorem dX8_begins_21 : decode cX8_begins 21 = .ok (.iconst 1, 1) := by decide +kernel
theorem dX8_begins_22 : decode cX8_begins 22 = .ok (.istore 5, 2) := by decide +kernel
theorem dX8_begins_24 : decode cX8_begins 24 = .ok (.iconst 0, 1) := by decide +kernel
theorem dX8_begins_25 : decode cX8_begins 25 = .ok (.istore 6, 2) := by decide +kernel
theorem dX8_begins_27 : decode cX8_begins 27 = .ok (.iload 6, 2) := by decide +kernel
theorem dX8_begins_29 : decode cX8_begins 29 = .ok (.iload_n 2, 1) := by decide +kernel
theorem dX8_begins_30 : decode cX8_begins 30 = .ok (.if_icmp .ge 49, 3) := by decide +kernel
theorem dX8_begins_33 : decode cX8_begins 33 = .ok (.iload_n 3, 1) := by decide +kernel
theorem dX8_begins_34 : decode cX8_begins 34 = .ok (.iload 6, 2) := by decide +kernel
theorem dX8_begins_36 : decode cX8_begins 36 = .ok (.iadd, 1) := by decide +kernel
theorem dX8_begins_37 : decode cX8_begins 37 = .ok (.iload 4, 2) := by decide +kernel
theorem dX8_begins_39 : decode cX8_begins 39 = .ok (.if_icmp .ge 40, 3) := by decide +kernel
theorem dX8_begins_42 : decode cX8_begins 42 = .ok (.aload_n 0, 1) := by decide +kernel
theorem dX8_begins_43 : decode cX8_begins 43 = .ok (.getfield 67, 3) := by decide +kernel
theorem dX8_begins_46 : decode cX8_begins 46 = .ok (.iload_n 3, 1) := by decide +kernel
theorem dX8_begins_47 : decode cX8_begins 47 = .ok (.iload 6, 2) := by decide +kernel
theorem dX8_begins_49 : decode cX8_begins 49 = .ok (.iadd, 1) := by decide +kernel
theorem dX8_begins_50 : decode cX8_begins 50 = .ok (.iaload, 1) := by decide +kernel
theorem dX8_begins_51 : decode cX8_begins 51 = .ok (.bipush 48, 2) := by decide +kernel
theorem dX8_begins_53 : decode cX8_begins 53 = .ok (.iload_n 1, 1) := by decide +kernel
theorem dX8_begins_54 : decode cX8_begins 54 = .ok (.iload 5, 2) := by decide +kernel
theorem dX8_begins_56 : decode cX8_begins 56 = .ok (.idiv, 1) := by decide +kernel
theorem dX8_begins_57 : decode cX8_begins 57 = .ok (.bipush 10, 2) := by decide +kernel
theorem dX8_begins_59 : decode cX8_begins 59 = .ok (.irem, 1) := by decide +kernel
theorem dX8_begins_60 : decode cX8_begins 60 = .ok (.iadd, 1) := by decide +kernel
theorem dX8_begins_61 : decode cX8_begins 61 = .ok (.if_icmp .eq 5, 3) := by decide +kernel
theorem dX8_begins_64 : decode cX8_begins 64 = .ok (.iconst 0, 1) := by decide +kernel
theorem dX8_begins_65 : decode cX8_begins 65 = .ok (.ireturn, 1) := by decide +kernel
theorem dX8_begins_66 : decode cX8_begins 66 = .ok (.iload 5, 2) := by decide +kernel
theorem dX8_begins_68 : decode cX8_begins 68 = .ok (.bipush 10, 2) := by decide +kernel
theorem dX8_begins_70 : decode cX8_begins 70 = .ok (.idiv, 1) := by decide +kernel
theorem dX8_begins_71 : decode cX8_begins 71 = .ok (.istore 5, 2) := by decide +kernel
theorem dX8_begins_73 : decode cX8_begins 73 = .ok (.iinc 6 1, 3) := by decide +kernel
theorem dX8_begins_76 : decode cX8_begins 76 = .ok (.goto (-49), 3) := by decide +kernel
theorem dX8_begins_79 : decode cX8_begins 79 = .ok (.iconst 1, 1) := by decide +kernel
theorem dX8_begins_80 : decode cX8_begins 80 = .ok (.ireturn, 1) := by decide +kernel
theorem dX8_isSign_0 : decode cX8_isSign 0 = .ok (.iload_n 2, 1) := by decide +kernel
theorem dX8_isSign_1 : decode cX8_isSign 1 = .ok (.iload_n 3, 1) := by decide +kernel
theorem dX8_isSign_2 : decode cX8_isSign 2 = .ok (.if_icmp .ge 18, 3) := by decide +kernel
theorem dX8_isSign_5 : decode cX8_isSign 5 = .ok (.aload_n 0, 1) := by decide +kernel
theorem dX8_isSign_6 : decode cX8_isSign 6 = .ok (.getfield 67, 3) := by decide +kernel
theorem dX8_isSign_9 : decode cX8_isSign 9 = .ok (.iload_n 2, 1) := by decide +kernel
theorem dX8_isSign_10 : decode cX8_isSign 10 = .ok (.iaload, 1) := by decide +kernel
theorem dX8_isSign_11 : decode cX8_isSign 11 = .ok (.aload_n 0, 1) := by decide +kernel
theorem dX8_isSign_12 : decode cX8_isSign 12 = .ok (.getfield 35, 3) := by decide +kernel
theorem dX8_isSign_15 : decode cX8_isSign 15 = .ok (.iload_n 1, 1) := by decide +kernel
theorem dX8_isSign_16 : decode cX8_isSign 16 = .ok (.iaload, 1) := by decide +kernel
theorem dX8_isSign_17 : decode cX8_isSign 17 = .ok (.if_icmp .ne 7, 3) := by decide +kernel
theorem dX8_isSign_20 : decode cX8_isSign 20 = .ok (.iconst 1, 1) := by decide +kernel
theorem dX8_isSign_21 : decode cX8_isSign 21 = .ok (.goto 4, 3) := by decide +kernel
theorem dX8_isSign_24 : decode cX8_isSign 24 = .ok (.iconst 0, 1) := by decide +kernel
theorem dX8_isSign_25 : decode cX8_isSign 25 = .ok (.ireturn, 1) := by decide +kernel
theorem dX8_someDay_0 : decode cX8_someDay 0 = .ok (.iload_n 2, 1) := by decide +kernel
theorem dX8_someDay_1 : decode cX8_someDay 1 = .ok (.iload_n 3, 1) := by decide +kernel
theorem dX8_someDay_2 : decode cX8_someDay 2 = .ok (.iadd, 1) := by decide +kernel
theorem dX8_someDay_3 : decode cX8_someDay 3 = .ok (.bipush 6, 2) := by decide +kernel
theorem dX8_someDay_5 : decode cX8_someDay 5 = .ok (.iadd, 1) := by decide +kernel
theorem dX8_someDay_6 : decode cX8_someDay 6 = .ok (.istore 5, 2) := by decide +kernel
theorem dX8_someDay_8 : decode cX8_someDay 8 = .ok (.aload_n 0, 1) := by decide +kernel
theorem dX8_someDay_9 : decode cX8_someDay 9 = .ok (.getfield 32, 3) := by decide +kernel
theorem dX8_someDay_12 : decode cX8_someDay 12 = .ok (.iload_n 1, 1) := by decide +kernel
theorem dX8_someDay_13 : decode cX8_someDay 13 = .ok (.iaload, 1) := by decide +kernel
theorem dX8_someDay_14 : decode cX8_someDay 14 = .ok (.iconst 2, 1) := by decide +kernel
theorem dX8_someDay_15 : decode cX8_someDay 15 = .ok (.if_icmp .ne 7, 3) := by decide +kernel
theorem dX8_someDay_18 : decode cX8_someDay 18 = .ok (.iconst 0, 1) := by decide +kernel
theorem dX8_someDay_19 : decode cX8_someDay 19 = .ok (.goto 8, 3) := by decide +kernel
theorem dX8_someDay_22 : decode cX8_someDay 22 = .ok (.iload_n 2, 1) := by decide +kernel
theorem dX8_someDay_23 : decode cX8_someDay 23 = .ok (.iload_n 3, 1) := by decide +kernel
theorem dX8_someDay_24 : decode cX8_someDay 24 = .ok (.iadd, 1) := by decide +kernel
theorem dX8_someDay_25 : decode cX8_someDay 25 = .ok (.iconst 2, 1) := by decide +kernel
theorem dX8_someDay_26 : decode cX8_someDay 26 = .ok (.iadd, 1) := by decide +kernel
theorem dX8_someDay_27 : decode cX8_someDay 27 = .ok (.istore 6, 2) := by decide +kernel
theorem dX8_someDay_29 : decode cX8_someDay 29 = .ok (.aload_n 0, 1) := by decide +kernel
theorem dX8_someDay_30 : decode cX8_someDay 30 = .ok (.getfield 32, 3) := by decide +kernel
theorem dX8_someDay_33 : decode cX8_someDay 33 = .ok (.iload_n 1, 1) := by decide +kernel
theorem dX8_someDay_34 : decode cX8_someDay 34 = .ok (.iaload, 1) := by decide +kernel
theorem dX8_someDay_35 : decode cX8_someDay 35 = .ok (.ifCond .ne 7, 3) := by decide +kernel
theorem dX8_someDay_38 : decode cX8_someDay 38 = .ok (.iconst 0, 1) := by decide +kernel
theorem dX8_someDay_39 : decode cX8_someDay 39 = .ok (.goto 23, 3) := by decide +kernel
theorem dX8_someDay_42 : decode cX8_someDay 42 = .ok (.aload_n 0, 1) := by decide +kernel
theorem dX8_someDay_43 : decode cX8_someDay 43 = .ok (.getfield 32, 3) := by decide +kernel
theorem dX8_someDay_46 : decode cX8_someDay 46 = .ok (.iload_n 1, 1) := by decide +kernel
theorem dX8_someDay_47 : decode cX8_someDay 47 = .ok (.iaload, 1) := by decide +kernel
theorem dX8_someDay_48 : decode cX8_someDay 48 = .ok (.iconst 1, 1) := by decide +kernel
theorem dX8_someDay_49 : decode cX8_someDay 49 = .ok (.if_icmp .ne 9, 3) := by decide +kernel
theorem dX8_someDay_52 : decode cX8_someDay 52 = .ok (.iload_n 3, 1) := by decide +kernel
theorem dX8_someDay_53 : decode cX8_someDay 53 = .ok (.iconst 1, 1) := by decide +kernel
theorem dX8_someDay_54 : decode cX8_someDay 54 = .ok (.iadd, 1) := by decide +kernel
theorem dX8_someDay_55 : decode cX8_someDay 55 = .ok (.goto 7, 3) := by decide +kernel
theorem dX8_someDay_58 : decode cX8_someDay 58 = .ok (.iload_n 3, 1) := by decide +kernel
theorem dX8_someDay_59 : decode cX8_someDay 59 = .ok (.bipush 6, 2) := by decide +kernel
theorem dX8_someDay_61 : decode cX8_someDay 61 = .ok (.iadd, 1) := by decide +kernel
theorem dX8_someDay_62 : decode cX8_someDay 62 = .ok (.istore 7, 2) := by decide +kernel
theorem dX8_someDay_64 : decode cX8_someDay 64 = .ok (.aload_n 0, 1) := by decide +kernel
theorem dX8_someDay_65 : decode cX8_someDay 65 = .ok (.getfield 32, 3) := by decide +kernel
theorem dX8_someDay_68 : decode cX8_someDay 68 = .ok (.iload_n 1, 1) := by decide +kernel
theorem dX8_someDay_69 : decode cX8_someDay 69 = .ok (.iaload, 1) := by decide +kernel
theorem dX8_someDay_70 : decode cX8_someDay 70 = .ok (.ifCond .ne 9, 3) := by decide +kernel
theorem dX8_someDay_73 : decode cX8_someDay 73 = .ok (.iload_n 2, 1) := by decide +kernel
theorem dX8_someDay_74 : decode cX8_someDay 74 = .ok (.iconst 1, 1) := by decide +kernel
theorem dX8_someDay_75 : decode cX8_someDay 75 = .ok (.iadd, 1) := by decide +kernel
theorem dX8_someDay_76 : decode cX8_someDay 76 = .ok (.goto 18, 3) := by decide +kernel
theorem dX8_someDay_79 : decode cX8_someDay 79 = .ok (.aload_n 0, 1) := by decide +kernel
theorem dX8_someDay_80 : decode cX8_someDay 80 = .ok (.getfield 32, 3) := by decide +kernel
theorem dX8_someDay_83 : decode cX8_someDay 83 = .ok (.iload_n 1, 1) := by decide +kernel
theorem dX8_someDay_84 : decode cX8_someDay 84 = .ok (.iaload, 1) := by decide +kernel
theorem dX8_someDay_85 : decode cX8_someDay 85 = .ok (.iconst 1, 1) := by decide +kernel
theorem dX8_someDay_86 : decode cX8_someDay 86 = .ok (.if_icmp .ne 7, 3) := by decide +kernel
theorem dX8_someDay_89 : decode cX8_someDay 89 = .ok (.iconst 0, 1) := by decide +kernel
theorem dX8_someDay_90 : decode cX8_someDay 90 = .ok (.goto 4, 3) := by decide +kernel
theorem dX8_someDay_93 : decode cX8_someDay 93 = .ok (.iconst 5, 1) := by decide +kernel
theorem dX8_someDay_94 : decode cX8_someDay 94 = .ok (.istore 8, 2) := by decide +kernel
theorem dX8_someDay_96 : decode cX8_someDay 96 = .ok (.aload_n 0, 1) := by decide +kernel
theorem dX8_someDay_97 : decode cX8_someDay 97 = .ok (.getfield 32, 3) := by decide +kernel
theorem dX8_someDay_100 : decode cX8_someDay 100 = .ok (.iload_n 1, 1) := by decide +kernel
theorem dX8_someDay_101 : decode cX8_someDay 101 = .ok (.iaload, 1) := by decide +kernel
theorem dX8_someDay_102 : decode cX8_someDay 102 = .ok (.iconst 2, 1) := by decide +kernel
theorem dX8_someDay_103 : decode cX8_someDay 103 = .ok (.if_icmp .ne 7, 3) := by decide +kernel
theorem dX8_someDay_106 : decode cX8_someDay 106 = .ok (.iconst 4, 1) := by decide +kernel
theorem dX8_someDay_107 : decode cX8_someDay 107 = .ok (.goto 17, 3) := by decide +kernel
theorem dX8_someDay_110 : decode cX8_someDay 110 = .ok (.aload_n 0, 1) := by decide +kernel
theorem dX8_someDay_111 : decode cX8_someDay 111 = .ok (.getfield 32, 3) := by decide +kernel
theorem dX8_someDay_114 : decode cX8_someDay 114 = .ok (.iload_n 1, 1) := by decide +kernel
theorem dX8_someDay_115 : decode cX8_someDay 115 = .ok (.iaload, 1) := by decide +kernel
theorem dX8_someDay_116 : decode cX8_someDay 116 = .ok (.ifCond .ne 7, 3) := by decide +kernel
theorem dX8_someDay_119 : decode cX8_someDay 119 = .ok (.iload_n 2, 1) := by decide +kernel
theorem dX8_someDay_120 : decode cX8_someDay 120 = .ok (.goto 4, 3) := by decide +kernel
theorem dX8_someDay_123 : decode cX8_someDay 123 = .ok (.iload_n 3, 1) := by decide +kernel
theorem dX8_someDay_124 : decode cX8_someDay 124 = .ok (.istore 9, 2) := by decide +kernel
theorem dX8_someDay_126 : decode cX8_someDay 126 = .ok (.aload_n 0, 1) := by decide +kernel
theorem dX8_someDay_127 : decode cX8_someDay 127 = .ok (.getfield 32, 3) := by decide +kernel
theorem dX8_someDay_130 : decode cX8_someDay 130 = .ok (.iload_n 1, 1) := by decide +kernel
theorem dX8_someDay_131 : decode cX8_someDay 131 = .ok (.iaload, 1) := by decide +kernel
theorem dX8_someDay_132 : decode cX8_someDay 132 = .ok (.iconst 2, 1) := by decide +kernel
theorem dX8_someDay_133 : decode cX8_someDay 133 = .ok (.if_icmp .ne 9, 3) := by decide +kernel
theorem dX8_someDay_136 : decode cX8_someDay 136 = .ok (.iload_n 3, 1) := by decide +kernel
theorem dX8_someDay_137 : decode cX8_someDay 137 = .ok (.iconst 5, 1) := by decide +kernel
theorem dX8_someDay_138 : decode cX8_someDay 138 = .ok (.iadd, 1) := by decide +kernel
theorem dX8_someDay_139 : decode cX8_someDay 139 = .ok (.goto 8, 3) := by decide +kernel
theorem dX8_someDay_142 : decode cX8_someDay 142 = .ok (.iload_n 2, 1) := by decide +kernel
theorem dX8_someDay_143 : decode cX8_someDay 143 = .ok (.iload_n 3, 1) := by decide +kernel
theorem dX8_someDay_144 : decode cX8_someDay 144 = .ok (.iadd, 1) := by decide +kernel
theorem dX8_someDay_145 : decode cX8_someDay 145 = .ok (.iconst 1, 1) := by decide +kernel
theorem dX8_someDay_146 : decode cX8_someDay 146 = .ok (.iadd, 1) := by decide +kernel
theorem dX8_someDay_147 : decode cX8_someDay 147 = .ok (.istore 10, 2) := by decide +kernel
theorem dX8_someDay_149 : decode cX8_someDay 149 = .ok (.iload 4, 2) := by decide +kernel
theorem dX8_someDay_151 : decode cX8_someDay 151 = .ok (.iload 5, 2) := by decide +kernel
theorem dX8_someDay_153 : decode cX8_someDay 153 = .ok (.if_icmp .gt 27, 3) := by decide +kernel
theorem dX8_someDay_156 : decode cX8_someDay 156 = .ok (.aload_n 0, 1) := by decide +kernel
theorem dX8_someDay_157 : decode cX8_someDay 157 = .ok (.iload_n 1, 1) := by decide +kernel
theorem dX8_someDay_158 : decode cX8_someDay 158 = .ok (.iload 9, 2) := by decide +kernel
theorem dX8_someDay_160 : decode cX8_someDay 160 = .ok (.iload 4, 2) := by decide +kernel
theorem dX8_someDay_162 : decode cX8_someDay 162 = .ok (.invokevirtual 156, 3) := by decide +kernel
theorem dX8_someDay_165 : decode cX8_someDay 165 = .ok (.ifCond .eq 15, 3) := by decide +kernel
theorem dX8_someDay_168 : decode cX8_someDay 168 = .ok (.aload_n 0, 1) := by decide +kernel
theorem dX8_someDay_169 : decode cX8_someDay 169 = .ok (.iload_n 1, 1) := by decide +kernel
theorem dX8_someDay_170 : decode cX8_someDay 170 = .ok (.iload 10, 2) := by decide +kernel
theorem dX8_someDay_172 : decode cX8_someDay 172 = .ok (.iload 4, 2) := by decide +kernel
theorem dX8_someDay_174 : decode cX8_someDay 174 = .ok (.invokevirtual 156, 3) := by decide +kernel
theorem dX8_someDay_177 : decode cX8_someDay 177 = .ok (.ifCond .ne 5, 3) := by decide +kernel
theorem dX8_someDay_180 : decode cX8_someDay 180 = .ok (.iconst 0, 1) := by decide +kernel
theorem dX8_someDay_181 : decode cX8_someDay 181 = .ok (.ireturn, 1) := by decide +kernel
theorem dX8_someDay_182 : decode cX8_someDay 182 = .ok (.iconst 0, 1) := by decide +kernel
theorem dX8_someDay_183 : decode cX8_someDay 183 = .ok (.istore 11, 2) := by decide +kernel
theorem dX8_someDay_185 : decode cX8_someDay 185 = .ok (.iconst 0, 1) := by decide +kernel
theorem dX8_someDay_186 : decode cX8_someDay 186 = .ok (.istore 12, 2) := by decide +kernel
theorem dX8_someDay_188 : decode cX8_someDay 188 = .ok (.iconst 1, 1) := by decide +kernel
theorem dX8_someDay_189 : decode cX8_someDay 189 = .ok (.istore 13, 2) := by decide +kernel
theorem dX8_someDay_191 : decode cX8_someDay 191 = .ok (.iload 13, 2) := by decide +kernel
theorem dX8_someDay_193 : decode cX8_someDay 193 = .ok (.sipush 9999, 3) := by decide +kernel
theorem dX8_someDay_196 : decode cX8_someDay 196 = .ok (.if_icmp .gt 59, 3) := by decide +kernel
theorem dX8_someDay_199 : decode cX8_someDay 199 = .ok (.aload_n 0, 1) := by decide +kernel
theorem dX8_someDay_200 : decode cX8_someDay 200 = .ok (.iload 13, 2) := by decide +kernel
theorem dX8_someDay_202 : decode cX8_someDay 202 = .ok (.iconst 4, 1) := by decide +kernel
theorem dX8_someDay_203 : decode cX8_someDay 203 = .ok (.iload 6, 2) := by decide +kernel
theorem dX8_someDay_205 : decode cX8_someDay 205 = .ok (.iload 4, 2) := by decide +kernel
theorem dX8_someDay_207 : decode cX8_someDay 207 = .ok (.invokevirtual 159, 3) := by decide +kernel
theorem dX8_someDay_210 : decode cX8_someDay 210 = .ok (.ifCond .eq 39, 3) := by decide +kernel
theorem dX8_someDay_213 : decode cX8_someDay 213 = .ok (.iload 11, 2) := by decide +kernel
theorem dX8_someDay_215 : decode cX8_someDay 215 = .ok (.ifCond .ne 8, 3) := by decide +kernel
theorem dX8_someDay_218 : decode cX8_someDay 218 = .ok (.iload 13, 2) := by decide +kernel
theorem dX8_someDay_220 : decode cX8_someDay 220 = .ok (.goto 5, 3) := by decide +kernel
theorem dX8_someDay_223 : decode cX8_someDay 223 = .ok (.iload 11, 2) := by decide +kernel
theorem dX8_someDay_225 : decode cX8_someDay 225 = .ok (.istore 11, 2) := by decide +kernel
theorem dX8_someDay_227 : decode cX8_someDay 227 = .ok (.iload 12, 2) := by decide +kernel
theorem dX8_someDay_229 : decode cX8_someDay 229 = .ok (.ifCond .ne 16, 3) := by decide +kernel
theorem dX8_someDay_232 : decode cX8_someDay 232 = .ok (.iload 13, 2) := by decide +kernel
theorem dX8_someDay_234 : decode cX8_someDay 234 = .ok (.invokestatic 140, 3) := by decide +kernel
theorem dX8_someDay_237 : decode cX8_someDay 237 = .ok (.ifCond .eq 8, 3) := by decide +kernel
theorem dX8_someDay_240 : decode cX8_someDay 240 = .ok (.iload 13, 2) := by decide +kernel
theorem dX8_someDay_242 : decode cX8_someDay 242 = .ok (.goto 5, 3) := by decide +kernel
theorem dX8_someDay_245 : decode cX8_someDay 245 = .ok (.iload 12, 2) := by decide +kernel
theorem dX8_someDay_247 : decode cX8_someDay 247 = .ok (.istore 12, 2) := by decide +kernel
theorem dX8_someDay_249 : decode cX8_someDay 249 = .ok (.iinc 13 1, 3) := by decide +kernel
theorem dX8_someDay_252 : decode cX8_someDay 252 = .ok (.goto (-61), 3) := by decide +kernel
theorem dX8_someDay_255 : decode cX8_someDay 255 = .ok (.iconst 0, 1) := by decide +kernel
theorem dX8_someDay_256 : decode cX8_someDay 256 = .ok (.istore 13, 2) := by decide +kernel
theorem dX8_someDay_258 : decode cX8_someDay 258 = .ok (.iconst 1, 1) := by decide +kernel
theorem dX8_someDay_259 : decode cX8_someDay 259 = .ok (.istore 14, 2) := by decide +kernel
theorem dX8_someDay_261 : decode cX8_someDay 261 = .ok (.iload 14, 2) := by decide +kernel
theorem dX8_someDay_263 : decode cX8_someDay 263 = .ok (.iload_n 3, 1) := by decide +kernel
theorem dX8_someDay_264 : decode cX8_someDay 264 = .ok (.iconst 1, 1) := by decide +kernel
theorem dX8_someDay_265 : decode cX8_someDay 265 = .ok (.if_icmp .ne 8, 3) := by decide +kernel
theorem dX8_someDay_268 : decode cX8_someDay 268 = .ok (.bipush 9, 2) := by decide +kernel
theorem dX8_someDay_270 : decode cX8_someDay 270 = .ok (.goto 5, 3) := by decide +kernel
theorem dX8_someDay_273 : decode cX8_someDay 273 = .ok (.bipush 12, 2) := by decide +kernel
theorem dX8_someDay_275 : decode cX8_someDay 275 = .ok (.if_icmp .gt 131, 3) := by decide +kernel
theorem dX8_someDay_278 : decode cX8_someDay 278 = .ok (.iconst 1, 1) := by decide +kernel
theorem dX8_someDay_279 : decode cX8_someDay 279 = .ok (.istore 15, 2) := by decide +kernel
theorem dX8_someDay_281 : decode cX8_someDay 281 = .ok (.iload 15, 2) := by decide +kernel
theorem dX8_someDay_283 : decode cX8_someDay 283 = .ok (.iload_n 2, 1) := by decide +kernel
theorem dX8_someDay_284 : decode cX8_someDay 284 = .ok (.iconst 1, 1) := by decide +kernel
theorem dX8_someDay_285 : decode cX8_someDay 285 = .ok (.if_icmp .ne 8, 3) := by decide +kernel
theorem dX8_someDay_288 : decode cX8_someDay 288 = .ok (.bipush 9, 2) := by decide +kernel
theorem dX8_someDay_290 : decode cX8_someDay 290 = .ok (.goto 5, 3) := by decide +kernel
theorem dX8_someDay_293 : decode cX8_someDay 293 = .ok (.bipush 31, 2) := by decide +kernel
theorem dX8_someDay_295 : decode cX8_someDay 295 = .ok (.if_icmp .gt 105, 3) := by decide +kernel
theorem dX8_someDay_298 : decode cX8_someDay 298 = .ok (.iload 15, 2) := by decide +kernel
theorem dX8_someDay_300 : decode cX8_someDay 300 = .ok (.iload 14, 2) := by decide +kernel
theorem dX8_someDay_302 : decode cX8_someDay 302 = .ok (.iconst 1, 1) := by decide +kernel
theorem dX8_someDay_303 : decode cX8_someDay 303 = .ok (.invokestatic 152, 3) := by decide +kernel
theorem dX8_someDay_306 : decode cX8_someDay 306 = .ok (.if_icmp .gt 8, 3) := by decide +kernel
theorem dX8_someDay_309 : decode cX8_someDay 309 = .ok (.iload 11, 2) := by decide +kernel
theorem dX8_someDay_311 : decode cX8_someDay 311 = .ok (.goto 20, 3) := by decide +kernel
theorem dX8_someDay_314 : decode cX8_someDay 314 = .ok (.iload 15, 2) := by decide +kernel
theorem dX8_someDay_316 : decode cX8_someDay 316 = .ok (.iload 14, 2) := by decide +kernel
theorem dX8_someDay_318 : decode cX8_someDay 318 = .ok (.iconst 4, 1) := by decide +kernel
theorem dX8_someDay_319 : decode cX8_someDay 319 = .ok (.invokestatic 152, 3) := by decide +kernel
theorem dX8_someDay_322 : decode cX8_someDay 322 = .ok (.if_icmp .gt 8, 3) := by decide +kernel
theorem dX8_someDay_325 : decode cX8_someDay 325 = .ok (.iload 12, 2) := by decide +kernel
theorem dX8_someDay_327 : decode cX8_someDay 327 = .ok (.goto 4, 3) := by decide +kernel
theorem dX8_someDay_330 : decode cX8_someDay 330 = .ok (.iconst 0, 1) := by decide +kernel
theorem dX8_someDay_331 : decode cX8_someDay 331 = .ok (.istore 16, 2) := by decide +kernel
theorem dX8_someDay_333 : decode cX8_someDay 333 = .ok (.iload 16, 2) := by decide +kernel
theorem dX8_someDay_335 : decode cX8_someDay 335 = .ok (.ifCond .eq 59, 3) := by decide +kernel
theorem dX8_someDay_338 : decode cX8_someDay 338 = .ok (.aload_n 0, 1) := by decide +kernel
theorem dX8_someDay_339 : decode cX8_someDay 339 = .ok (.iload 14, 2) := by decide +kernel
theorem dX8_someDay_341 : decode cX8_someDay 341 = .ok (.iload_n 3, 1) := by decide +kernel
theorem dX8_someDay_342 : decode cX8_someDay 342 = .ok (.iload 8, 2) := by decide +kernel
theorem dX8_someDay_344 : decode cX8_someDay 344 = .ok (.iload 4, 2) := by decide +kernel
theorem dX8_someDay_346 : decode cX8_someDay 346 = .ok (.invokevirtual 159, 3) := by decide +kernel
theorem dX8_someDay_349 : decode cX8_someDay 349 = .ok (.ifCond .eq 45, 3) := by decide +kernel
theorem dX8_someDay_352 : decode cX8_someDay 352 = .ok (.aload_n 0, 1) := by decide +kernel
theorem dX8_someDay_353 : decode cX8_someDay 353 = .ok (.iload 15, 2) := by decide +kernel
theorem dX8_someDay_355 : decode cX8_someDay 355 = .ok (.iload_n 2, 1) := by decide +kernel
theorem dX8_someDay_356 : decode cX8_someDay 356 = .ok (.iload 7, 2) := by decide +kernel
theorem dX8_someDay_358 : decode cX8_someDay 358 = .ok (.iload 4, 2) := by decide +kernel
theorem dX8_someDay_360 : decode cX8_someDay 360 = .ok (.invokevirtual 159, 3) := by decide +kernel
theorem dX8_someDay_363 : decode cX8_someDay 363 = .ok (.ifCond .ne 6, 3) := by decide +kernel
theorem dX8_someDay_366 : decode cX8_someDay 366 = .ok (.goto 28, 3) := by decide +kernel
theorem dX8_someDay_369 : decode cX8_someDay 369 = .ok (.iload 4, 2) := by decide +kernel
theorem dX8_someDay_371 : decode cX8_someDay 371 = .ok (.iload 5, 2) := by decide +kernel
theorem dX8_someDay_373 : decode cX8_someDay 373 = .ok (.if_icmp .ne 18, 3) := by decide +kernel
theorem dX8_someDay_376 : decode cX8_someDay 376 = .ok (.aload_n 0, 1) := by decide +kernel
theorem dX8_someDay_377 : decode cX8_someDay 377 = .ok (.iload 15, 2) := by decide +kernel
theorem dX8_someDay_379 : decode cX8_someDay 379 = .ok (.iload 14, 2) := by decide +kernel
theorem dX8_someDay_381 : decode cX8_someDay 381 = .ok (.iload 16, 2) := by decide +kernel
theorem dX8_someDay_383 : decode cX8_someDay 383 = .ok (.invokestatic 163, 3) := by decide +kernel
theorem dX8_someDay_386 : decode cX8_someDay 386 = .ok (.putfield 124, 3) := by decide +kernel
theorem dX8_someDay_389 : decode cX8_someDay 389 = .ok (.iconst 2, 1) := by decide +kernel
theorem dX8_someDay_390 : decode cX8_someDay 390 = .ok (.ireturn, 1) := by decide +kernel
theorem dX8_someDay_391 : decode cX8_someDay 391 = .ok (.iconst 1, 1) := by decide +kernel
theorem dX8_someDay_392 : decode cX8_someDay 392 = .ok (.istore 13, 2) := by decide +kernel
theorem dX8_someDay_394 : decode cX8_someDay 394 = .ok (.iinc 15 1, 3) := by decide +kernel
theorem dX8_someDay_397 : decode cX8_someDay 397 = .ok (.goto (-116), 3) := by decide +kernel
theorem dX8_someDay_400 : decode cX8_someDay 400 = .ok (.iinc 14 1, 3) := by decide +kernel
theorem dX8_someDay_403 : decode cX8_someDay 403 = .ok (.goto (-142), 3) := by decide +kernel
theorem dX8_someDay_406 : decode cX8_someDay 406 = .ok (.iload 13, 2) := by decide +kernel
theorem dX8_someDay_408 : decode cX8_someDay 408 = .ok (.ireturn, 1) := by decide +kernel
theorem dX8_held_0 : decode cX8_held 0 = .ok (.iload_n 2, 1) := by decide +kernel
theorem dX8_held_1 : decode cX8_held 1 = .ok (.iconst 2, 1) := by decide +kernel
theorem dX8_held_2 : decode cX8_held 2 = .ok (.if_icmp .ge 11, 3) := by decide +kernel
theorem dX8_held_5 : decode cX8_held 5 = .ok (.aload_n 0, 1) := by decide +kernel
theorem dX8_held_6 : decode cX8_held 6 = .ok (.iload_n 1, 1) := by decide +kernel
theorem dX8_held_7 : decode cX8_held 7 = .ok (.iload_n 2, 1) := by decide +kernel
theorem dX8_held_8 : decode cX8_held 8 = .ok (.iload_n 3, 1) := by decide +kernel
theorem dX8_held_9 : decode cX8_held 9 = .ok (.invokevirtual 167, 3) := by decide +kernel
theorem dX8_held_12 : decode cX8_held 12 = .ok (.ireturn, 1) := by decide +kernel
theorem dX8_held_13 : decode cX8_held 13 = .ok (.iconst 0, 1) := by decide +kernel
theorem dX8_held_14 : decode cX8_held 14 = .ok (.istore 4, 2) := by decide +kernel
theorem dX8_held_16 : decode cX8_held 16 = .ok (.iconst 1, 1) := by decide +kernel
theorem dX8_held_17 : decode cX8_held 17 = .ok (.istore 5, 2) := by decide +kernel
theorem dX8_held_19 : decode cX8_held 19 = .ok (.iload 5, 2) := by decide +kernel
theorem dX8_held_21 : decode cX8_held 21 = .ok (.iconst 2, 1) := by decide +kernel
theorem dX8_held_22 : decode cX8_held 22 = .ok (.if_icmp .gt 60, 3) := by decide +kernel
theorem dX8_held_25 : decode cX8_held 25 = .ok (.iconst 1, 1) := by decide +kernel
theorem dX8_held_26 : decode cX8_held 26 = .ok (.istore 6, 2) := by decide +kernel
theorem dX8_held_28 : decode cX8_held 28 = .ok (.iload 6, 2) := by decide +kernel
theorem dX8_held_30 : decode cX8_held 30 = .ok (.iconst 2, 1) := by decide +kernel
theorem dX8_held_31 : decode cX8_held 31 = .ok (.if_icmp .gt 45, 3) := by decide +kernel
theorem dX8_held_34 : decode cX8_held 34 = .ok (.aload_n 0, 1) := by decide +kernel
theorem dX8_held_35 : decode cX8_held 35 = .ok (.iload_n 1, 1) := by decide +kernel
theorem dX8_held_36 : decode cX8_held 36 = .ok (.iload 5, 2) := by decide +kernel
theorem dX8_held_38 : decode cX8_held 38 = .ok (.iload 6, 2) := by decide +kernel
theorem dX8_held_40 : decode cX8_held 40 = .ok (.iload_n 3, 1) := by decide +kernel
theorem dX8_held_41 : decode cX8_held 41 = .ok (.invokevirtual 171, 3) := by decide +kernel
theorem dX8_held_44 : decode cX8_held 44 = .ok (.istore 7, 2) := by decide +kernel
theorem dX8_held_46 : decode cX8_held 46 = .ok (.iload 7, 2) := by decide +kernel
theorem dX8_held_48 : decode cX8_held 48 = .ok (.iconst 2, 1) := by decide +kernel
theorem dX8_held_49 : decode cX8_held 49 = .ok (.if_icmp .ne 5, 3) := by decide +kernel
theorem dX8_held_52 : decode cX8_held 52 = .ok (.iconst 2, 1) := by decide +kernel
theorem dX8_held_53 : decode cX8_held 53 = .ok (.ireturn, 1) := by decide +kernel
theorem dX8_held_54 : decode cX8_held 54 = .ok (.iload 7, 2) := by decide +kernel
theorem dX8_held_56 : decode cX8_held 56 = .ok (.iload 4, 2) := by decide +kernel
theorem dX8_held_58 : decode cX8_held 58 = .ok (.if_icmp .le 8, 3) := by decide +kernel
theorem dX8_held_61 : decode cX8_held 61 = .ok (.iload 7, 2) := by decide +kernel
theorem dX8_held_63 : decode cX8_held 63 = .ok (.goto 5, 3) := by decide +kernel
theorem dX8_held_66 : decode cX8_held 66 = .ok (.iload 4, 2) := by decide +kernel
theorem dX8_held_68 : decode cX8_held 68 = .ok (.istore 4, 2) := by decide +kernel
theorem dX8_held_70 : decode cX8_held 70 = .ok (.iinc 6 1, 3) := by decide +kernel
theorem dX8_held_73 : decode cX8_held 73 = .ok (.goto (-45), 3) := by decide +kernel
theorem dX8_held_76 : decode cX8_held 76 = .ok (.iinc 5 1, 3) := by decide +kernel
theorem dX8_held_79 : decode cX8_held 79 = .ok (.goto (-60), 3) := by decide +kernel
theorem dX8_held_82 : decode cX8_held 82 = .ok (.iload 4, 2) := by decide +kernel
theorem dX8_held_84 : decode cX8_held 84 = .ok (.ireturn, 1) := by decide +kernel
theorem dX8_countsNow_0 : decode cX8_countsNow 0 = .ok (.aload_n 0, 1) := by decide +kernel
theorem dX8_countsNow_1 : decode cX8_countsNow 1 = .ok (.iload_n 1, 1) := by decide +kernel
theorem dX8_countsNow_2 : decode cX8_countsNow 2 = .ok (.iload_n 2, 1) := by decide +kernel
theorem dX8_countsNow_3 : decode cX8_countsNow 3 = .ok (.aload_n 0, 1) := by decide +kernel
theorem dX8_countsNow_4 : decode cX8_countsNow 4 = .ok (.getfield 98, 3) := by decide +kernel
theorem dX8_countsNow_7 : decode cX8_countsNow 7 = .ok (.invokevirtual 175, 3) := by decide +kernel
theorem dX8_countsNow_10 : decode cX8_countsNow 10 = .ok (.iconst 2, 1) := by decide +kernel
theorem dX8_countsNow_11 : decode cX8_countsNow 11 = .ok (.if_icmp .ne 35, 3) := by decide +kernel
theorem dX8_countsNow_14 : decode cX8_countsNow 14 = .ok (.aload_n 0, 1) := by decide +kernel
theorem dX8_countsNow_15 : decode cX8_countsNow 15 = .ok (.getfield 124, 3) := by decide +kernel
theorem dX8_countsNow_18 : decode cX8_countsNow 18 = .ok (.aload_n 0, 1) := by decide +kernel
theorem dX8_countsNow_19 : decode cX8_countsNow 19 = .ok (.getfield 44, 3) := by decide +kernel
theorem dX8_countsNow_22 : decode cX8_countsNow 22 = .ok (.iload_n 2, 1) := by decide +kernel
theorem dX8_countsNow_23 : decode cX8_countsNow 23 = .ok (.laload, 1) := by decide +kernel
theorem dX8_countsNow_24 : decode cX8_countsNow 24 = .ok (.lcmp, 1) := by decide +kernel
theorem dX8_countsNow_25 : decode cX8_countsNow 25 = .ok (.ifCond .lt 21, 3) := by decide +kernel
theorem dX8_countsNow_28 : decode cX8_countsNow 28 = .ok (.aload_n 0, 1) := by decide +kernel
theorem dX8_countsNow_29 : decode cX8_countsNow 29 = .ok (.getfield 124, 3) := by decide +kernel
theorem dX8_countsNow_32 : decode cX8_countsNow 32 = .ok (.aload_n 0, 1) := by decide +kernel
theorem dX8_countsNow_33 : decode cX8_countsNow 33 = .ok (.getfield 48, 3) := by decide +kernel
theorem dX8_countsNow_36 : decode cX8_countsNow 36 = .ok (.iload_n 2, 1) := by decide +kernel
theorem dX8_countsNow_37 : decode cX8_countsNow 37 = .ok (.laload, 1) := by decide +kernel
theorem dX8_countsNow_38 : decode cX8_countsNow 38 = .ok (.lcmp, 1) := by decide +kernel
theorem dX8_countsNow_39 : decode cX8_countsNow 39 = .ok (.ifCond .gt 7, 3) := by decide +kernel
theorem dX8_countsNow_42 : decode cX8_countsNow 42 = .ok (.iconst 1, 1) := by decide +kernel
theorem dX8_countsNow_43 : decode cX8_countsNow 43 = .ok (.goto 4, 3) := by decide +kernel
theorem dX8_countsNow_46 : decode cX8_countsNow 46 = .ok (.iconst 0, 1) := by decide +kernel
theorem dX8_countsNow_47 : decode cX8_countsNow 47 = .ok (.ireturn, 1) := by decide +kernel
theorem dX8_value_0 : decode cX8_value 0 = .ok (.aload_n 0, 1) := by decide +kernel
theorem dX8_value_1 : decode cX8_value 1 = .ok (.iconst 0, 1) := by decide +kernel
theorem dX8_value_2 : decode cX8_value 2 = .ok (.putfield 86, 3) := by decide +kernel
theorem dX8_value_5 : decode cX8_value 5 = .ok (.aload_n 0, 1) := by decide +kernel
theorem dX8_value_6 : decode cX8_value 6 = .ok (.iload_n 1, 1) := by decide +kernel
theorem dX8_value_7 : decode cX8_value 7 = .ok (.invokevirtual 178, 3) := by decide +kernel
theorem dX8_value_10 : decode cX8_value 10 = .ok (.ifCond .eq 12, 3) := by decide +kernel
theorem dX8_value_13 : decode cX8_value 13 = .ok (.iload_n 2, 1) := by decide +kernel
theorem dX8_value_14 : decode cX8_value 14 = .ok (.iconst 0, 1) := by decide +kernel
theorem dX8_value_15 : decode cX8_value 15 = .ok (.iconst 2, 1) := by decide +kernel
theorem dX8_value_16 : decode cX8_value 16 = .ok (.invokestatic 94, 3) := by decide +kernel
theorem dX8_value_19 : decode cX8_value 19 = .ok (.ifCond .ne 7, 3) := by decide +kernel
theorem dX8_value_22 : decode cX8_value 22 = .ok (.ldc2_w 82, 3) := by decide +kernel
theorem dX8_value_25 : decode cX8_value 25 = .ok (.lreturn, 1) := by decide +kernel
theorem dX8_value_26 : decode cX8_value 26 = .ok (.aload_n 0, 1) := by decide +kernel
theorem dX8_value_27 : decode cX8_value 27 = .ok (.invokevirtual 181, 3) := by decide +kernel
theorem dX8_value_30 : decode cX8_value 30 = .ok (.aload_n 0, 1) := by decide +kernel
theorem dX8_value_31 : decode cX8_value 31 = .ok (.iload_n 1, 1) := by decide +kernel
theorem dX8_value_32 : decode cX8_value 32 = .ok (.iload_n 2, 1) := by decide +kernel
theorem dX8_value_33 : decode cX8_value 33 = .ok (.invokevirtual 184, 3) := by decide +kernel
theorem dX8_value_36 : decode cX8_value 36 = .ok (.ifCond .eq 10, 3) := by decide +kernel
theorem dX8_value_39 : decode cX8_value 39 = .ok (.aload_n 0, 1) := by decide +kernel
theorem dX8_value_40 : decode cX8_value 40 = .ok (.getfield 124, 3) := by decide +kernel
theorem dX8_value_43 : decode cX8_value 43 = .ok (.goto 6, 3) := by decide +kernel
theorem dX8_value_46 : decode cX8_value 46 = .ok (.ldc2_w 82, 3) := by decide +kernel
theorem dX8_value_49 : decode cX8_value 49 = .ok (.lreturn, 1) := by decide +kernel
theorem dX8_open_0 : decode cX8_open 0 = .ok (.aload_n 0, 1) := by decide +kernel
theorem dX8_open_1 : decode cX8_open 1 = .ok (.iconst 0, 1) := by decide +kernel
theorem dX8_open_2 : decode cX8_open 2 = .ok (.putfield 86, 3) := by decide +kernel
theorem dX8_open_5 : decode cX8_open 5 = .ok (.aload_n 0, 1) := by decide +kernel
theorem dX8_open_6 : decode cX8_open 6 = .ok (.invokevirtual 181, 3) := by decide +kernel
theorem dX8_open_9 : decode cX8_open 9 = .ok (.aload_n 0, 1) := by decide +kernel
theorem dX8_open_10 : decode cX8_open 10 = .ok (.iload_n 1, 1) := by decide +kernel
theorem dX8_open_11 : decode cX8_open 11 = .ok (.invokevirtual 178, 3) := by decide +kernel
theorem dX8_open_14 : decode cX8_open 14 = .ok (.ifCond .eq 30, 3) := by decide +kernel
theorem dX8_open_17 : decode cX8_open 17 = .ok (.iload_n 2, 1) := by decide +kernel
theorem dX8_open_18 : decode cX8_open 18 = .ok (.iconst 0, 1) := by decide +kernel
theorem dX8_open_19 : decode cX8_open 19 = .ok (.iconst 2, 1) := by decide +kernel
theorem dX8_open_20 : decode cX8_open 20 = .ok (.invokestatic 94, 3) := by decide +kernel
theorem dX8_open_23 : decode cX8_open 23 = .ok (.ifCond .eq 21, 3) := by decide +kernel
theorem dX8_open_26 : decode cX8_open 26 = .ok (.aload_n 0, 1) := by decide +kernel
theorem dX8_open_27 : decode cX8_open 27 = .ok (.iload_n 1, 1) := by decide +kernel
theorem dX8_open_28 : decode cX8_open 28 = .ok (.iload_n 2, 1) := by decide +kernel
theorem dX8_open_29 : decode cX8_open 29 = .ok (.aload_n 0, 1) := by decide +kernel
theorem dX8_open_30 : decode cX8_open 30 = .ok (.getfield 98, 3) := by decide +kernel
theorem dX8_open_33 : decode cX8_open 33 = .ok (.invokevirtual 175, 3) := by decide +kernel
theorem dX8_open_36 : decode cX8_open 36 = .ok (.iconst 1, 1) := by decide +kernel
theorem dX8_open_37 : decode cX8_open 37 = .ok (.if_icmp .ne 7, 3) := by decide +kernel
theorem dX8_open_40 : decode cX8_open 40 = .ok (.iconst 1, 1) := by decide +kernel
theorem dX8_open_41 : decode cX8_open 41 = .ok (.goto 4, 3) := by decide +kernel
theorem dX8_open_44 : decode cX8_open 44 = .ok (.iconst 0, 1) := by decide +kernel
theorem dX8_open_45 : decode cX8_open 45 = .ok (.ireturn, 1) := by decide +kernel
end
section
theorem dX8_good_0 : decode cX8_good 0 = .ok (.aload_n 0, 1) := by decide +kernel
theorem dX8_good_1 : decode cX8_good 1 = .ok (.iconst 0, 1) := by decide +kernel
theorem dX8_good_2 : decode cX8_good 2 = .ok (.putfield 86, 3) := by decide +kernel
theorem dX8_good_5 : decode cX8_good 5 = .ok (.aload_n 0, 1) := by decide +kernel
theorem dX8_good_6 : decode cX8_good 6 = .ok (.iload_n 1, 1) := by decide +kernel
theorem dX8_good_7 : decode cX8_good 7 = .ok (.invokevirtual 178, 3) := by decide +kernel
theorem dX8_good_10 : decode cX8_good 10 = .ok (.ifCond .eq 12, 3) := by decide +kernel
theorem dX8_good_13 : decode cX8_good 13 = .ok (.iload_n 2, 1) := by decide +kernel
theorem dX8_good_14 : decode cX8_good 14 = .ok (.iconst 0, 1) := by decide +kernel
theorem dX8_good_15 : decode cX8_good 15 = .ok (.iconst 2, 1) := by decide +kernel
theorem dX8_good_16 : decode cX8_good 16 = .ok (.invokestatic 94, 3) := by decide +kernel
theorem dX8_good_19 : decode cX8_good 19 = .ok (.ifCond .ne 5, 3) := by decide +kernel
theorem dX8_good_22 : decode cX8_good 22 = .ok (.iconst (-1), 1) := by decide +kernel
theorem dX8_good_23 : decode cX8_good 23 = .ok (.ireturn, 1) := by decide +kernel
theorem dX8_good_24 : decode cX8_good 24 = .ok (.aload_n 0, 1) := by decide +kernel
theorem dX8_good_25 : decode cX8_good 25 = .ok (.invokevirtual 181, 3) := by decide +kernel
theorem dX8_good_28 : decode cX8_good 28 = .ok (.iconst 0, 1) := by decide +kernel
theorem dX8_good_29 : decode cX8_good 29 = .ok (.istore_n 3, 1) := by decide +kernel
theorem dX8_good_30 : decode cX8_good 30 = .ok (.iload_n 3, 1) := by decide +kernel
theorem dX8_good_31 : decode cX8_good 31 = .ok (.aload_n 0, 1) := by decide +kernel
theorem dX8_good_32 : decode cX8_good 32 = .ok (.getfield 98, 3) := by decide +kernel
theorem dX8_good_35 : decode cX8_good 35 = .ok (.if_icmp .ge 21, 3) := by decide +kernel
theorem dX8_good_38 : decode cX8_good 38 = .ok (.aload_n 0, 1) := by decide +kernel
theorem dX8_good_39 : decode cX8_good 39 = .ok (.iload_n 1, 1) := by decide +kernel
theorem dX8_good_40 : decode cX8_good 40 = .ok (.iload_n 2, 1) := by decide +kernel
theorem dX8_good_41 : decode cX8_good 41 = .ok (.iload_n 3, 1) := by decide +kernel
theorem dX8_good_42 : decode cX8_good 42 = .ok (.iconst 1, 1) := by decide +kernel
theorem dX8_good_43 : decode cX8_good 43 = .ok (.iadd, 1) := by decide +kernel
theorem dX8_good_44 : decode cX8_good 44 = .ok (.invokevirtual 175, 3) := by decide +kernel
theorem dX8_good_47 : decode cX8_good 47 = .ok (.ifCond .le 9, 3) := by decide +kernel
theorem dX8_good_50 : decode cX8_good 50 = .ok (.iinc 3 1, 3) := by decide +kernel
theorem dX8_good_53 : decode cX8_good 53 = .ok (.goto (-23), 3) := by decide +kernel
theorem dX8_good_56 : decode cX8_good 56 = .ok (.iload_n 3, 1) := by decide +kernel
theorem dX8_good_57 : decode cX8_good 57 = .ok (.ireturn, 1) := by decide +kernel
theorem dX8_state_0 : decode cX8_state 0 = .ok (.aload_n 0, 1) := by decide +kernel
theorem dX8_state_1 : decode cX8_state 1 = .ok (.iconst 0, 1) := by decide +kernel
theorem dX8_state_2 : decode cX8_state 2 = .ok (.putfield 86, 3) := by decide +kernel
theorem dX8_state_5 : decode cX8_state 5 = .ok (.iload_n 2, 1) := by decide +kernel
theorem dX8_state_6 : decode cX8_state 6 = .ok (.iconst 0, 1) := by decide +kernel
theorem dX8_state_7 : decode cX8_state 7 = .ok (.iconst 2, 1) := by decide +kernel
theorem dX8_state_8 : decode cX8_state 8 = .ok (.invokestatic 94, 3) := by decide +kernel
theorem dX8_state_11 : decode cX8_state 11 = .ok (.ifCond .ne 5, 3) := by decide +kernel
theorem dX8_state_14 : decode cX8_state 14 = .ok (.iconst (-1), 1) := by decide +kernel
theorem dX8_state_15 : decode cX8_state 15 = .ok (.ireturn, 1) := by decide +kernel
theorem dX8_state_16 : decode cX8_state 16 = .ok (.aload_n 0, 1) := by decide +kernel
theorem dX8_state_17 : decode cX8_state 17 = .ok (.invokevirtual 181, 3) := by decide +kernel
theorem dX8_state_20 : decode cX8_state 20 = .ok (.iconst 0, 1) := by decide +kernel
theorem dX8_state_21 : decode cX8_state 21 = .ok (.istore_n 3, 1) := by decide +kernel
theorem dX8_state_22 : decode cX8_state 22 = .ok (.iconst 0, 1) := by decide +kernel
theorem dX8_state_23 : decode cX8_state 23 = .ok (.istore 4, 2) := by decide +kernel
theorem dX8_state_25 : decode cX8_state 25 = .ok (.iconst 0, 1) := by decide +kernel
theorem dX8_state_26 : decode cX8_state 26 = .ok (.istore 5, 2) := by decide +kernel
theorem dX8_state_28 : decode cX8_state 28 = .ok (.lconst 0, 1) := by decide +kernel
theorem dX8_state_29 : decode cX8_state 29 = .ok (.lstore 6, 2) := by decide +kernel
theorem dX8_state_31 : decode cX8_state 31 = .ok (.iconst 0, 1) := by decide +kernel
theorem dX8_state_32 : decode cX8_state 32 = .ok (.istore 8, 2) := by decide +kernel
theorem dX8_state_34 : decode cX8_state 34 = .ok (.iload 8, 2) := by decide +kernel
theorem dX8_state_36 : decode cX8_state 36 = .ok (.aload_n 0, 1) := by decide +kernel
theorem dX8_state_37 : decode cX8_state 37 = .ok (.getfield 7, 3) := by decide +kernel
theorem dX8_state_40 : decode cX8_state 40 = .ok (.iconst 0, 1) := by decide +kernel
theorem dX8_state_41 : decode cX8_state 41 = .ok (.iaload, 1) := by decide +kernel
theorem dX8_state_42 : decode cX8_state 42 = .ok (.if_icmp .ge 140, 3) := by decide +kernel
theorem dX8_state_45 : decode cX8_state 45 = .ok (.iload_n 1, 1) := by decide +kernel
theorem dX8_state_46 : decode cX8_state 46 = .ok (.iload 8, 2) := by decide +kernel
theorem dX8_state_48 : decode cX8_state 48 = .ok (.ishr, 1) := by decide +kernel
theorem dX8_state_49 : decode cX8_state 49 = .ok (.iconst 1, 1) := by decide +kernel
theorem dX8_state_50 : decode cX8_state 50 = .ok (.iand, 1) := by decide +kernel
theorem dX8_state_51 : decode cX8_state 51 = .ok (.ifCond .ne 6, 3) := by decide +kernel
theorem dX8_state_54 : decode cX8_state 54 = .ok (.goto 122, 3) := by decide +kernel
theorem dX8_state_57 : decode cX8_state 57 = .ok (.aload_n 0, 1) := by decide +kernel
theorem dX8_state_58 : decode cX8_state 58 = .ok (.iload 8, 2) := by decide +kernel
theorem dX8_state_60 : decode cX8_state 60 = .ok (.iload_n 2, 1) := by decide +kernel
theorem dX8_state_61 : decode cX8_state 61 = .ok (.aload_n 0, 1) := by decide +kernel
theorem dX8_state_62 : decode cX8_state 62 = .ok (.getfield 98, 3) := by decide +kernel
theorem dX8_state_65 : decode cX8_state 65 = .ok (.invokevirtual 175, 3) := by decide +kernel
theorem dX8_state_68 : decode cX8_state 68 = .ok (.istore 9, 2) := by decide +kernel
theorem dX8_state_70 : decode cX8_state 70 = .ok (.iload 9, 2) := by decide +kernel
theorem dX8_state_72 : decode cX8_state 72 = .ok (.iconst 2, 1) := by decide +kernel
theorem dX8_state_73 : decode cX8_state 73 = .ok (.if_icmp .ne 35, 3) := by decide +kernel
theorem dX8_state_76 : decode cX8_state 76 = .ok (.aload_n 0, 1) := by decide +kernel
theorem dX8_state_77 : decode cX8_state 77 = .ok (.getfield 124, 3) := by decide +kernel
theorem dX8_state_80 : decode cX8_state 80 = .ok (.aload_n 0, 1) := by decide +kernel
theorem dX8_state_81 : decode cX8_state 81 = .ok (.getfield 44, 3) := by decide +kernel
theorem dX8_state_84 : decode cX8_state 84 = .ok (.iload_n 2, 1) := by decide +kernel
theorem dX8_state_85 : decode cX8_state 85 = .ok (.laload, 1) := by decide +kernel
theorem dX8_state_86 : decode cX8_state 86 = .ok (.lcmp, 1) := by decide +kernel
theorem dX8_state_87 : decode cX8_state 87 = .ok (.ifCond .lt 21, 3) := by decide +kernel
theorem dX8_state_90 : decode cX8_state 90 = .ok (.aload_n 0, 1) := by decide +kernel
theorem dX8_state_91 : decode cX8_state 91 = .ok (.getfield 124, 3) := by decide +kernel
theorem dX8_state_94 : decode cX8_state 94 = .ok (.aload_n 0, 1) := by decide +kernel
theorem dX8_state_95 : decode cX8_state 95 = .ok (.getfield 48, 3) := by decide +kernel
theorem dX8_state_98 : decode cX8_state 98 = .ok (.iload_n 2, 1) := by decide +kernel
theorem dX8_state_99 : decode cX8_state 99 = .ok (.laload, 1) := by decide +kernel
theorem dX8_state_100 : decode cX8_state 100 = .ok (.lcmp, 1) := by decide +kernel
theorem dX8_state_101 : decode cX8_state 101 = .ok (.ifCond .gt 7, 3) := by decide +kernel
theorem dX8_state_104 : decode cX8_state 104 = .ok (.iconst 1, 1) := by decide +kernel
theorem dX8_state_105 : decode cX8_state 105 = .ok (.goto 4, 3) := by decide +kernel
theorem dX8_state_108 : decode cX8_state 108 = .ok (.iconst 0, 1) := by decide +kernel
theorem dX8_state_109 : decode cX8_state 109 = .ok (.istore 10, 2) := by decide +kernel
theorem dX8_state_111 : decode cX8_state 111 = .ok (.iload 5, 2) := by decide +kernel
theorem dX8_state_113 : decode cX8_state 113 = .ok (.ifCond .ne 8, 3) := by decide +kernel
theorem dX8_state_116 : decode cX8_state 116 = .ok (.iload 9, 2) := by decide +kernel
theorem dX8_state_118 : decode cX8_state 118 = .ok (.ifCond .le 7, 3) := by decide +kernel
theorem dX8_state_121 : decode cX8_state 121 = .ok (.iconst 1, 1) := by decide +kernel
theorem dX8_state_122 : decode cX8_state 122 = .ok (.goto 4, 3) := by decide +kernel
theorem dX8_state_125 : decode cX8_state 125 = .ok (.iconst 0, 1) := by decide +kernel
theorem dX8_state_126 : decode cX8_state 126 = .ok (.istore 5, 2) := by decide +kernel
theorem dX8_state_128 : decode cX8_state 128 = .ok (.iload 10, 2) := by decide +kernel
theorem dX8_state_130 : decode cX8_state 130 = .ok (.ifCond .eq 46, 3) := by decide +kernel
theorem dX8_state_133 : decode cX8_state 133 = .ok (.iload 4, 2) := by decide +kernel
theorem dX8_state_135 : decode cX8_state 135 = .ok (.ifCond .ne 17, 3) := by decide +kernel
theorem dX8_state_138 : decode cX8_state 138 = .ok (.iload_n 3, 1) := by decide +kernel
theorem dX8_state_139 : decode cX8_state 139 = .ok (.ifCond .eq 17, 3) := by decide +kernel
theorem dX8_state_142 : decode cX8_state 142 = .ok (.aload_n 0, 1) := by decide +kernel
theorem dX8_state_143 : decode cX8_state 143 = .ok (.getfield 124, 3) := by decide +kernel
theorem dX8_state_146 : decode cX8_state 146 = .ok (.lload 6, 2) := by decide +kernel
theorem dX8_state_148 : decode cX8_state 148 = .ok (.lcmp, 1) := by decide +kernel
theorem dX8_state_149 : decode cX8_state 149 = .ok (.ifCond .eq 7, 3) := by decide +kernel
theorem dX8_state_152 : decode cX8_state 152 = .ok (.iconst 1, 1) := by decide +kernel
theorem dX8_state_153 : decode cX8_state 153 = .ok (.goto 4, 3) := by decide +kernel
theorem dX8_state_156 : decode cX8_state 156 = .ok (.iconst 0, 1) := by decide +kernel
theorem dX8_state_157 : decode cX8_state 157 = .ok (.istore 4, 2) := by decide +kernel
theorem dX8_state_159 : decode cX8_state 159 = .ok (.iload_n 3, 1) := by decide +kernel
theorem dX8_state_160 : decode cX8_state 160 = .ok (.ifCond .eq 8, 3) := by decide +kernel
theorem dX8_state_163 : decode cX8_state 163 = .ok (.lload 6, 2) := by decide +kernel
theorem dX8_state_165 : decode cX8_state 165 = .ok (.goto 7, 3) := by decide +kernel
theorem dX8_state_168 : decode cX8_state 168 = .ok (.aload_n 0, 1) := by decide +kernel
theorem dX8_state_169 : decode cX8_state 169 = .ok (.getfield 124, 3) := by decide +kernel
theorem dX8_state_172 : decode cX8_state 172 = .ok (.lstore 6, 2) := by decide +kernel
theorem dX8_state_174 : decode cX8_state 174 = .ok (.iconst 1, 1) := by decide +kernel
theorem dX8_state_175 : decode cX8_state 175 = .ok (.istore_n 3, 1) := by decide +kernel
theorem dX8_state_176 : decode cX8_state 176 = .ok (.iinc 8 1, 3) := by decide +kernel
theorem dX8_state_179 : decode cX8_state 179 = .ok (.goto (-145), 3) := by decide +kernel
theorem dX8_state_182 : decode cX8_state 182 = .ok (.iload_n 3, 1) := by decide +kernel
theorem dX8_state_183 : decode cX8_state 183 = .ok (.ifCond .eq 16, 3) := by decide +kernel
theorem dX8_state_186 : decode cX8_state 186 = .ok (.iload 4, 2) := by decide +kernel
theorem dX8_state_188 : decode cX8_state 188 = .ok (.ifCond .eq 7, 3) := by decide +kernel
theorem dX8_state_191 : decode cX8_state 191 = .ok (.iconst 2, 1) := by decide +kernel
theorem dX8_state_192 : decode cX8_state 192 = .ok (.goto 17, 3) := by decide +kernel
theorem dX8_state_195 : decode cX8_state 195 = .ok (.iconst 0, 1) := by decide +kernel
theorem dX8_state_196 : decode cX8_state 196 = .ok (.goto 13, 3) := by decide +kernel
theorem dX8_state_199 : decode cX8_state 199 = .ok (.iload 5, 2) := by decide +kernel
theorem dX8_state_201 : decode cX8_state 201 = .ok (.ifCond .eq 7, 3) := by decide +kernel
theorem dX8_state_204 : decode cX8_state 204 = .ok (.iconst 1, 1) := by decide +kernel
theorem dX8_state_205 : decode cX8_state 205 = .ok (.goto 4, 3) := by decide +kernel
theorem dX8_state_208 : decode cX8_state 208 = .ok (.iconst 3, 1) := by decide +kernel
theorem dX8_state_209 : decode cX8_state 209 = .ok (.ireturn, 1) := by decide +kernel
theorem dX8_say_0 : decode cX8_say 0 = .ok (.aload_n 0, 1) := by decide +kernel
theorem dX8_say_1 : decode cX8_say 1 = .ok (.getfield 76, 3) := by decide +kernel
theorem dX8_say_4 : decode cX8_say 4 = .ok (.aload_n 0, 1) := by decide +kernel
theorem dX8_say_5 : decode cX8_say 5 = .ok (.getfield 187, 3) := by decide +kernel
theorem dX8_say_8 : decode cX8_say 8 = .ok (.iload_n 1, 1) := by decide +kernel
theorem dX8_say_9 : decode cX8_say 9 = .ok (.iastore, 1) := by decide +kernel
theorem dX8_say_10 : decode cX8_say 10 = .ok (.aload_n 0, 1) := by decide +kernel
theorem dX8_say_11 : decode cX8_say 11 = .ok (.dup, 1) := by decide +kernel
theorem dX8_say_12 : decode cX8_say 12 = .ok (.getfield 187, 3) := by decide +kernel
theorem dX8_say_15 : decode cX8_say 15 = .ok (.iconst 1, 1) := by decide +kernel
theorem dX8_say_16 : decode cX8_say 16 = .ok (.iadd, 1) := by decide +kernel
theorem dX8_say_17 : decode cX8_say 17 = .ok (.putfield 187, 3) := by decide +kernel
theorem dX8_say_20 : decode cX8_say 20 = .ok (.return_, 1) := by decide +kernel
theorem dX8_sayMark_0 : decode cX8_sayMark 0 = .ok (.aload_n 0, 1) := by decide +kernel
theorem dX8_sayMark_1 : decode cX8_sayMark 1 = .ok (.aload_n 0, 1) := by decide +kernel
theorem dX8_sayMark_2 : decode cX8_sayMark 2 = .ok (.getfield 25, 3) := by decide +kernel
theorem dX8_sayMark_5 : decode cX8_sayMark 5 = .ok (.iload_n 1, 1) := by decide +kernel
theorem dX8_sayMark_6 : decode cX8_sayMark 6 = .ok (.iaload, 1) := by decide +kernel
theorem dX8_sayMark_7 : decode cX8_sayMark 7 = .ok (.bipush 16, 2) := by decide +kernel
theorem dX8_sayMark_9 : decode cX8_sayMark 9 = .ok (.ishr, 1) := by decide +kernel
theorem dX8_sayMark_10 : decode cX8_sayMark 10 = .ok (.sipush 255, 3) := by decide +kernel
theorem dX8_sayMark_13 : decode cX8_sayMark 13 = .ok (.iand, 1) := by decide +kernel
theorem dX8_sayMark_14 : decode cX8_sayMark 14 = .ok (.invokevirtual 190, 3) := by decide +kernel
theorem dX8_sayMark_17 : decode cX8_sayMark 17 = .ok (.aload_n 0, 1) := by decide +kernel
theorem dX8_sayMark_18 : decode cX8_sayMark 18 = .ok (.aload_n 0, 1) := by decide +kernel
theorem dX8_sayMark_19 : decode cX8_sayMark 19 = .ok (.getfield 25, 3) := by decide +kernel
theorem dX8_sayMark_22 : decode cX8_sayMark 22 = .ok (.iload_n 1, 1) := by decide +kernel
theorem dX8_sayMark_23 : decode cX8_sayMark 23 = .ok (.iaload, 1) := by decide +kernel
theorem dX8_sayMark_24 : decode cX8_sayMark 24 = .ok (.bipush 8, 2) := by decide +kernel
theorem dX8_sayMark_26 : decode cX8_sayMark 26 = .ok (.ishr, 1) := by decide +kernel
theorem dX8_sayMark_27 : decode cX8_sayMark 27 = .ok (.sipush 255, 3) := by decide +kernel
theorem dX8_sayMark_30 : decode cX8_sayMark 30 = .ok (.iand, 1) := by decide +kernel
theorem dX8_sayMark_31 : decode cX8_sayMark 31 = .ok (.invokevirtual 190, 3) := by decide +kernel
theorem dX8_sayMark_34 : decode cX8_sayMark 34 = .ok (.aload_n 0, 1) := by decide +kernel
theorem dX8_sayMark_35 : decode cX8_sayMark 35 = .ok (.aload_n 0, 1) := by decide +kernel
theorem dX8_sayMark_36 : decode cX8_sayMark 36 = .ok (.getfield 25, 3) := by decide +kernel
theorem dX8_sayMark_39 : decode cX8_sayMark 39 = .ok (.iload_n 1, 1) := by decide +kernel
theorem dX8_sayMark_40 : decode cX8_sayMark 40 = .ok (.iaload, 1) := by decide +kernel
theorem dX8_sayMark_41 : decode cX8_sayMark 41 = .ok (.sipush 255, 3) := by decide +kernel
theorem dX8_sayMark_44 : decode cX8_sayMark 44 = .ok (.iand, 1) := by decide +kernel
theorem dX8_sayMark_45 : decode cX8_sayMark 45 = .ok (.invokevirtual 190, 3) := by decide +kernel
theorem dX8_sayMark_48 : decode cX8_sayMark 48 = .ok (.return_, 1) := by decide +kernel
theorem dX8_sayDigits_0 : decode cX8_sayDigits 0 = .ok (.iconst 1, 1) := by decide +kernel
theorem dX8_sayDigits_1 : decode cX8_sayDigits 1 = .ok (.istore_n 3, 1) := by decide +kernel
theorem dX8_sayDigits_2 : decode cX8_sayDigits 2 = .ok (.iconst 1, 1) := by decide +kernel
theorem dX8_sayDigits_3 : decode cX8_sayDigits 3 = .ok (.istore 4, 2) := by decide +kernel
theorem dX8_sayDigits_5 : decode cX8_sayDigits 5 = .ok (.iload 4, 2) := by decide +kernel
theorem dX8_sayDigits_7 : decode cX8_sayDigits 7 = .ok (.iload_n 2, 1) := by decide +kernel
theorem dX8_sayDigits_8 : decode cX8_sayDigits 8 = .ok (.if_icmp .ge 14, 3) := by decide +kernel
theorem dX8_sayDigits_11 : decode cX8_sayDigits 11 = .ok (.iload_n 3, 1) := by decide +kernel
theorem dX8_sayDigits_12 : decode cX8_sayDigits 12 = .ok (.bipush 10, 2) := by decide +kernel
theorem dX8_sayDigits_14 : decode cX8_sayDigits 14 = .ok (.imul, 1) := by decide +kernel
theorem dX8_sayDigits_15 : decode cX8_sayDigits 15 = .ok (.istore_n 3, 1) := by decide +kernel
theorem dX8_sayDigits_16 : decode cX8_sayDigits 16 = .ok (.iinc 4 1, 3) := by decide +kernel
theorem dX8_sayDigits_19 : decode cX8_sayDigits 19 = .ok (.goto (-14), 3) := by decide +kernel
theorem dX8_sayDigits_22 : decode cX8_sayDigits 22 = .ok (.iconst 0, 1) := by decide +kernel
theorem dX8_sayDigits_23 : decode cX8_sayDigits 23 = .ok (.istore 4, 2) := by decide +kernel
theorem dX8_sayDigits_25 : decode cX8_sayDigits 25 = .ok (.iload 4, 2) := by decide +kernel
theorem dX8_sayDigits_27 : decode cX8_sayDigits 27 = .ok (.iload_n 2, 1) := by decide +kernel
theorem dX8_sayDigits_28 : decode cX8_sayDigits 28 = .ok (.if_icmp .ge 27, 3) := by decide +kernel
theorem dX8_sayDigits_31 : decode cX8_sayDigits 31 = .ok (.aload_n 0, 1) := by decide +kernel
theorem dX8_sayDigits_32 : decode cX8_sayDigits 32 = .ok (.bipush 48, 2) := by decide +kernel
theorem dX8_sayDigits_34 : decode cX8_sayDigits 34 = .ok (.iload_n 1, 1) := by decide +kernel
theorem dX8_sayDigits_35 : decode cX8_sayDigits 35 = .ok (.iload_n 3, 1) := by decide +kernel
theorem dX8_sayDigits_36 : decode cX8_sayDigits 36 = .ok (.idiv, 1) := by decide +kernel
theorem dX8_sayDigits_37 : decode cX8_sayDigits 37 = .ok (.bipush 10, 2) := by decide +kernel
theorem dX8_sayDigits_39 : decode cX8_sayDigits 39 = .ok (.irem, 1) := by decide +kernel
theorem dX8_sayDigits_40 : decode cX8_sayDigits 40 = .ok (.iadd, 1) := by decide +kernel
theorem dX8_sayDigits_41 : decode cX8_sayDigits 41 = .ok (.invokevirtual 190, 3) := by decide +kernel
theorem dX8_sayDigits_44 : decode cX8_sayDigits 44 = .ok (.iload_n 3, 1) := by decide +kernel
theorem dX8_sayDigits_45 : decode cX8_sayDigits 45 = .ok (.bipush 10, 2) := by decide +kernel
theorem dX8_sayDigits_47 : decode cX8_sayDigits 47 = .ok (.idiv, 1) := by decide +kernel
theorem dX8_sayDigits_48 : decode cX8_sayDigits 48 = .ok (.istore_n 3, 1) := by decide +kernel
theorem dX8_sayDigits_49 : decode cX8_sayDigits 49 = .ok (.iinc 4 1, 3) := by decide +kernel
theorem dX8_sayDigits_52 : decode cX8_sayDigits 52 = .ok (.goto (-27), 3) := by decide +kernel
theorem dX8_sayDigits_55 : decode cX8_sayDigits 55 = .ok (.return_, 1) := by decide +kernel
theorem dX8_makeAmount_0 : decode cX8_makeAmount 0 = .ok (.iload 5, 2) := by decide +kernel
theorem dX8_makeAmount_2 : decode cX8_makeAmount 2 = .ok (.iconst 0, 1) := by decide +kernel
theorem dX8_makeAmount_3 : decode cX8_makeAmount 3 = .ok (.bipush 6, 2) := by decide +kernel
theorem dX8_makeAmount_5 : decode cX8_makeAmount 5 = .ok (.invokestatic 94, 3) := by decide +kernel
theorem dX8_makeAmount_8 : decode cX8_makeAmount 8 = .ok (.ifCond .eq 19, 3) := by decide +kernel
theorem dX8_makeAmount_11 : decode cX8_makeAmount 11 = .ok (.lload_n 3, 1) := by decide +kernel
theorem dX8_makeAmount_12 : decode cX8_makeAmount 12 = .ok (.ldc2_w 193, 3) := by decide +kernel
theorem dX8_makeAmount_15 : decode cX8_makeAmount 15 = .ok (.lcmp, 1) := by decide +kernel
theorem dX8_makeAmount_16 : decode cX8_makeAmount 16 = .ok (.ifCond .gt 11, 3) := by decide +kernel
theorem dX8_makeAmount_19 : decode cX8_makeAmount 19 = .ok (.lload_n 3, 1) := by decide +kernel
theorem dX8_makeAmount_20 : decode cX8_makeAmount 20 = .ok (.ldc2_w 195, 3) := by decide +kernel
theorem dX8_makeAmount_23 : decode cX8_makeAmount 23 = .ok (.lcmp, 1) := by decide +kernel
theorem dX8_makeAmount_24 : decode cX8_makeAmount 24 = .ok (.ifCond .ge 5, 3) := by decide +kernel
theorem dX8_makeAmount_27 : decode cX8_makeAmount 27 = .ok (.iconst 0, 1) := by decide +kernel
theorem dX8_makeAmount_28 : decode cX8_makeAmount 28 = .ok (.ireturn, 1) := by decide +kernel
theorem dX8_makeAmount_29 : decode cX8_makeAmount 29 = .ok (.lconst 1, 1) := by decide +kernel
theorem dX8_makeAmount_30 : decode cX8_makeAmount 30 = .ok (.lstore 6, 2) := by decide +kernel
theorem dX8_makeAmount_32 : decode cX8_makeAmount 32 = .ok (.iload 5, 2) := by decide +kernel
theorem dX8_makeAmount_34 : decode cX8_makeAmount 34 = .ok (.istore 8, 2) := by decide +kernel
theorem dX8_makeAmount_36 : decode cX8_makeAmount 36 = .ok (.iload 8, 2) := by decide +kernel
theorem dX8_makeAmount_38 : decode cX8_makeAmount 38 = .ok (.bipush 6, 2) := by decide +kernel
theorem dX8_makeAmount_40 : decode cX8_makeAmount 40 = .ok (.if_icmp .ge 17, 3) := by decide +kernel
theorem dX8_makeAmount_43 : decode cX8_makeAmount 43 = .ok (.lload 6, 2) := by decide +kernel
theorem dX8_makeAmount_45 : decode cX8_makeAmount 45 = .ok (.ldc2_w 122, 3) := by decide +kernel
theorem dX8_makeAmount_48 : decode cX8_makeAmount 48 = .ok (.lmul, 1) := by decide +kernel
theorem dX8_makeAmount_49 : decode cX8_makeAmount 49 = .ok (.lstore 6, 2) := by decide +kernel
theorem dX8_makeAmount_51 : decode cX8_makeAmount 51 = .ok (.iinc 8 1, 3) := by decide +kernel
theorem dX8_makeAmount_54 : decode cX8_makeAmount 54 = .ok (.goto (-18), 3) := by decide +kernel
theorem dX8_makeAmount_57 : decode cX8_makeAmount 57 = .ok (.lload_n 3, 1) := by decide +kernel
theorem dX8_makeAmount_58 : decode cX8_makeAmount 58 = .ok (.lconst 0, 1) := by decide +kernel
theorem dX8_makeAmount_59 : decode cX8_makeAmount 59 = .ok (.lcmp, 1) := by decide +kernel
theorem dX8_makeAmount_60 : decode cX8_makeAmount 60 = .ok (.ifCond .ge 8, 3) := by decide +kernel
theorem dX8_makeAmount_63 : decode cX8_makeAmount 63 = .ok (.lload_n 3, 1) := by decide +kernel
theorem dX8_makeAmount_64 : decode cX8_makeAmount 64 = .ok (.lneg, 1) := by decide +kernel
theorem dX8_makeAmount_65 : decode cX8_makeAmount 65 = .ok (.goto 4, 3) := by decide +kernel
theorem dX8_makeAmount_68 : decode cX8_makeAmount 68 = .ok (.lload_n 3, 1) := by decide +kernel
theorem dX8_makeAmount_69 : decode cX8_makeAmount 69 = .ok (.lstore 8, 2) := by decide +kernel
theorem dX8_makeAmount_71 : decode cX8_makeAmount 71 = .ok (.lload 8, 2) := by decide +kernel
theorem dX8_makeAmount_73 : decode cX8_makeAmount 73 = .ok (.lload 6, 2) := by decide +kernel
theorem dX8_makeAmount_75 : decode cX8_makeAmount 75 = .ok (.ldc2_w 197, 3) := by decide +kernel
theorem dX8_makeAmount_78 : decode cX8_makeAmount 78 = .ok (.ldiv, 1) := by decide +kernel
theorem dX8_makeAmount_79 : decode cX8_makeAmount 79 = .ok (.ladd, 1) := by decide +kernel
theorem dX8_makeAmount_80 : decode cX8_makeAmount 80 = .ok (.lload 6, 2) := by decide +kernel
theorem dX8_makeAmount_82 : decode cX8_makeAmount 82 = .ok (.ldiv, 1) := by decide +kernel
theorem dX8_makeAmount_83 : decode cX8_makeAmount 83 = .ok (.lload 6, 2) := by decide +kernel
theorem dX8_makeAmount_85 : decode cX8_makeAmount 85 = .ok (.lmul, 1) := by decide +kernel
theorem dX8_makeAmount_86 : decode cX8_makeAmount 86 = .ok (.lstore 8, 2) := by decide +kernel
theorem dX8_makeAmount_88 : decode cX8_makeAmount 88 = .ok (.lload 8, 2) := by decide +kernel
theorem dX8_makeAmount_90 : decode cX8_makeAmount 90 = .ok (.ldc2_w 193, 3) := by decide +kernel
theorem dX8_makeAmount_93 : decode cX8_makeAmount 93 = .ok (.lcmp, 1) := by decide +kernel
theorem dX8_makeAmount_94 : decode cX8_makeAmount 94 = .ok (.ifCond .le 5, 3) := by decide +kernel
theorem dX8_makeAmount_97 : decode cX8_makeAmount 97 = .ok (.iconst 0, 1) := by decide +kernel
theorem dX8_makeAmount_98 : decode cX8_makeAmount 98 = .ok (.ireturn, 1) := by decide +kernel
theorem dX8_makeAmount_99 : decode cX8_makeAmount 99 = .ok (.lload_n 3, 1) := by decide +kernel
theorem dX8_makeAmount_100 : decode cX8_makeAmount 100 = .ok (.lconst 0, 1) := by decide +kernel
theorem dX8_makeAmount_101 : decode cX8_makeAmount 101 = .ok (.lcmp, 1) := by decide +kernel
theorem dX8_makeAmount_102 : decode cX8_makeAmount 102 = .ok (.ifCond .ge 14, 3) := by decide +kernel
theorem dX8_makeAmount_105 : decode cX8_makeAmount 105 = .ok (.lload 8, 2) := by decide +kernel
theorem dX8_makeAmount_107 : decode cX8_makeAmount 107 = .ok (.lconst 0, 1) := by decide +kernel
theorem dX8_makeAmount_108 : decode cX8_makeAmount 108 = .ok (.lcmp, 1) := by decide +kernel
theorem dX8_makeAmount_109 : decode cX8_makeAmount 109 = .ok (.ifCond .le 7, 3) := by decide +kernel
theorem dX8_makeAmount_112 : decode cX8_makeAmount 112 = .ok (.iconst 1, 1) := by decide +kernel
theorem dX8_makeAmount_113 : decode cX8_makeAmount 113 = .ok (.goto 4, 3) := by decide +kernel
theorem dX8_makeAmount_116 : decode cX8_makeAmount 116 = .ok (.iconst 0, 1) := by decide +kernel
theorem dX8_makeAmount_117 : decode cX8_makeAmount 117 = .ok (.istore 10, 2) := by decide +kernel
theorem dX8_makeAmount_119 : decode cX8_makeAmount 119 = .ok (.lload 8, 2) := by decide +kernel
theorem dX8_makeAmount_121 : decode cX8_makeAmount 121 = .ok (.ldc2_w 120, 3) := by decide +kernel
theorem dX8_makeAmount_124 : decode cX8_makeAmount 124 = .ok (.ldiv, 1) := by decide +kernel
theorem dX8_makeAmount_125 : decode cX8_makeAmount 125 = .ok (.l2i, 1) := by decide +kernel
theorem dX8_makeAmount_126 : decode cX8_makeAmount 126 = .ok (.istore 11, 2) := by decide +kernel
theorem dX8_makeAmount_128 : decode cX8_makeAmount 128 = .ok (.lload 8, 2) := by decide +kernel
theorem dX8_makeAmount_130 : decode cX8_makeAmount 130 = .ok (.ldc2_w 120, 3) := by decide +kernel
theorem dX8_makeAmount_133 : decode cX8_makeAmount 133 = .ok (.lrem, 1) := by decide +kernel
theorem dX8_makeAmount_134 : decode cX8_makeAmount 134 = .ok (.l2i, 1) := by decide +kernel
theorem dX8_makeAmount_135 : decode cX8_makeAmount 135 = .ok (.istore 12, 2) := by decide +kernel
theorem dX8_makeAmount_137 : decode cX8_makeAmount 137 = .ok (.iconst 1, 1) := by decide +kernel
theorem dX8_makeAmount_138 : decode cX8_makeAmount 138 = .ok (.istore 13, 2) := by decide +kernel
theorem dX8_makeAmount_140 : decode cX8_makeAmount 140 = .ok (.iload 11, 2) := by decide +kernel
theorem dX8_makeAmount_142 : decode cX8_makeAmount 142 = .ok (.bipush 10, 2) := by decide +kernel
theorem dX8_makeAmount_144 : decode cX8_makeAmount 144 = .ok (.idiv, 1) := by decide +kernel
theorem dX8_makeAmount_145 : decode cX8_makeAmount 145 = .ok (.istore 14, 2) := by decide +kernel
theorem dX8_makeAmount_147 : decode cX8_makeAmount 147 = .ok (.iload 14, 2) := by decide +kernel
theorem dX8_makeAmount_149 : decode cX8_makeAmount 149 = .ok (.ifCond .le 16, 3) := by decide +kernel
theorem dX8_makeAmount_152 : decode cX8_makeAmount 152 = .ok (.iinc 13 1, 3) := by decide +kernel
theorem dX8_makeAmount_155 : decode cX8_makeAmount 155 = .ok (.iload 14, 2) := by decide +kernel
theorem dX8_makeAmount_157 : decode cX8_makeAmount 157 = .ok (.bipush 10, 2) := by decide +kernel
theorem dX8_makeAmount_159 : decode cX8_makeAmount 159 = .ok (.idiv, 1) := by decide +kernel
theorem dX8_makeAmount_160 : decode cX8_makeAmount 160 = .ok (.istore 14, 2) := by decide +kernel
theorem dX8_makeAmount_162 : decode cX8_makeAmount 162 = .ok (.goto (-15), 3) := by decide +kernel
theorem dX8_makeAmount_165 : decode cX8_makeAmount 165 = .ok (.iload 10, 2) := by decide +kernel
theorem dX8_makeAmount_167 : decode cX8_makeAmount 167 = .ok (.ifCond .eq 33, 3) := by decide +kernel
theorem dX8_makeAmount_170 : decode cX8_makeAmount 170 = .ok (.aload_n 0, 1) := by decide +kernel
theorem dX8_makeAmount_171 : decode cX8_makeAmount 171 = .ok (.getfield 22, 3) := by decide +kernel
theorem dX8_makeAmount_174 : decode cX8_makeAmount 174 = .ok (.iload_n 1, 1) := by decide +kernel
theorem dX8_makeAmount_175 : decode cX8_makeAmount 175 = .ok (.iaload, 1) := by decide +kernel
theorem dX8_makeAmount_176 : decode cX8_makeAmount 176 = .ok (.iconst 1, 1) := by decide +kernel
theorem dX8_makeAmount_177 : decode cX8_makeAmount 177 = .ok (.if_icmp .eq 23, 3) := by decide +kernel
theorem dX8_makeAmount_180 : decode cX8_makeAmount 180 = .ok (.aload_n 0, 1) := by decide +kernel
theorem dX8_makeAmount_181 : decode cX8_makeAmount 181 = .ok (.aload_n 0, 1) := by decide +kernel
theorem dX8_makeAmount_182 : decode cX8_makeAmount 182 = .ok (.getfield 22, 3) := by decide +kernel
theorem dX8_makeAmount_185 : decode cX8_makeAmount 185 = .ok (.iload_n 1, 1) := by decide +kernel
theorem dX8_makeAmount_186 : decode cX8_makeAmount 186 = .ok (.iaload, 1) := by decide +kernel
theorem dX8_makeAmount_187 : decode cX8_makeAmount 187 = .ok (.ifCond .ne 8, 3) := by decide +kernel
theorem dX8_makeAmount_190 : decode cX8_makeAmount 190 = .ok (.bipush 45, 2) := by decide +kernel
theorem dX8_makeAmount_192 : decode cX8_makeAmount 192 = .ok (.goto 5, 3) := by decide +kernel
theorem dX8_makeAmount_195 : decode cX8_makeAmount 195 = .ok (.bipush 40, 2) := by decide +kernel
theorem dX8_makeAmount_197 : decode cX8_makeAmount 197 = .ok (.invokevirtual 190, 3) := by decide +kernel
theorem dX8_makeAmount_200 : decode cX8_makeAmount 200 = .ok (.iload_n 2, 1) := by decide +kernel
theorem dX8_makeAmount_201 : decode cX8_makeAmount 201 = .ok (.iconst 1, 1) := by decide +kernel
theorem dX8_makeAmount_202 : decode cX8_makeAmount 202 = .ok (.if_icmp .ne 17, 3) := by decide +kernel
theorem dX8_makeAmount_205 : decode cX8_makeAmount 205 = .ok (.aload_n 0, 1) := by decide +kernel
theorem dX8_makeAmount_206 : decode cX8_makeAmount 206 = .ok (.getfield 28, 3) := by decide +kernel
theorem dX8_makeAmount_209 : decode cX8_makeAmount 209 = .ok (.iload_n 1, 1) := by decide +kernel
theorem dX8_makeAmount_210 : decode cX8_makeAmount 210 = .ok (.baload, 1) := by decide +kernel
theorem dX8_makeAmount_211 : decode cX8_makeAmount 211 = .ok (.ifCond .ne 8, 3) := by decide +kernel
theorem dX8_makeAmount_214 : decode cX8_makeAmount 214 = .ok (.aload_n 0, 1) := by decide +kernel
theorem dX8_makeAmount_215 : decode cX8_makeAmount 215 = .ok (.iload_n 1, 1) := by decide +kernel
theorem dX8_makeAmount_216 : decode cX8_makeAmount 216 = .ok (.invokevirtual 199, 3) := by decide +kernel
theorem dX8_makeAmount_219 : decode cX8_makeAmount 219 = .ok (.iconst 1, 1) := by decide +kernel
theorem dX8_makeAmount_220 : decode cX8_makeAmount 220 = .ok (.istore 14, 2) := by decide +kernel
theorem dX8_makeAmount_222 : decode cX8_makeAmount 222 = .ok (.iconst 1, 1) := by decide +kernel
theorem dX8_makeAmount_223 : decode cX8_makeAmount 223 = .ok (.istore 15, 2) := by decide +kernel
theorem dX8_makeAmount_225 : decode cX8_makeAmount 225 = .ok (.iload 15, 2) := by decide +kernel
theorem dX8_makeAmount_227 : decode cX8_makeAmount 227 = .ok (.iload 13, 2) := by decide +kernel
theorem dX8_makeAmount_229 : decode cX8_makeAmount 229 = .ok (.if_icmp .ge 16, 3) := by decide +kernel
theorem dX8_makeAmount_232 : decode cX8_makeAmount 232 = .ok (.iload 14, 2) := by decide +kernel
theorem dX8_makeAmount_234 : decode cX8_makeAmount 234 = .ok (.bipush 10, 2) := by decide +kernel
theorem dX8_makeAmount_236 : decode cX8_makeAmount 236 = .ok (.imul, 1) := by decide +kernel
theorem dX8_makeAmount_237 : decode cX8_makeAmount 237 = .ok (.istore 14, 2) := by decide +kernel
theorem dX8_makeAmount_239 : decode cX8_makeAmount 239 = .ok (.iinc 15 1, 3) := by decide +kernel
theorem dX8_makeAmount_242 : decode cX8_makeAmount 242 = .ok (.goto (-17), 3) := by decide +kernel
theorem dX8_makeAmount_245 : decode cX8_makeAmount 245 = .ok (.iconst 0, 1) := by decide +kernel
theorem dX8_makeAmount_246 : decode cX8_makeAmount 246 = .ok (.istore 15, 2) := by decide +kernel
theorem dX8_makeAmount_248 : decode cX8_makeAmount 248 = .ok (.iload 15, 2) := by decide +kernel
theorem dX8_makeAmount_250 : decode cX8_makeAmount 250 = .ok (.iload 13, 2) := by decide +kernel
theorem dX8_makeAmount_252 : decode cX8_makeAmount 252 = .ok (.if_icmp .ge 71, 3) := by decide +kernel
theorem dX8_makeAmount_255 : decode cX8_makeAmount 255 = .ok (.aload_n 0, 1) := by decide +kernel
theorem dX8_makeAmount_256 : decode cX8_makeAmount 256 = .ok (.bipush 48, 2) := by decide +kernel
theorem dX8_makeAmount_258 : decode cX8_makeAmount 258 = .ok (.iload 11, 2) := by decide +kernel
theorem dX8_makeAmount_260 : decode cX8_makeAmount 260 = .ok (.iload 14, 2) := by decide +kernel
theorem dX8_makeAmount_262 : decode cX8_makeAmount 262 = .ok (.idiv, 1) := by decide +kernel
theorem dX8_makeAmount_263 : decode cX8_makeAmount 263 = .ok (.bipush 10, 2) := by decide +kernel
theorem dX8_makeAmount_265 : decode cX8_makeAmount 265 = .ok (.irem, 1) := by decide +kernel
theorem dX8_makeAmount_266 : decode cX8_makeAmount 266 = .ok (.iadd, 1) := by decide +kernel
theorem dX8_makeAmount_267 : decode cX8_makeAmount 267 = .ok (.invokevirtual 190, 3) := by decide +kernel
theorem dX8_makeAmount_270 : decode cX8_makeAmount 270 = .ok (.iload 14, 2) := by decide +kernel
theorem dX8_makeAmount_272 : decode cX8_makeAmount 272 = .ok (.bipush 10, 2) := by decide +kernel
theorem dX8_makeAmount_274 : decode cX8_makeAmount 274 = .ok (.idiv, 1) := by decide +kernel
theorem dX8_makeAmount_275 : decode cX8_makeAmount 275 = .ok (.istore 14, 2) := by decide +kernel
theorem dX8_makeAmount_277 : decode cX8_makeAmount 277 = .ok (.aload_n 0, 1) := by decide +kernel
theorem dX8_makeAmount_278 : decode cX8_makeAmount 278 = .ok (.getfield 16, 3) := by decide +kernel
theorem dX8_makeAmount_281 : decode cX8_makeAmount 281 = .ok (.iload_n 1, 1) := by decide +kernel
theorem dX8_makeAmount_282 : decode cX8_makeAmount 282 = .ok (.iaload, 1) := by decide +kernel
theorem dX8_makeAmount_283 : decode cX8_makeAmount 283 = .ok (.ifCond .eq 34, 3) := by decide +kernel
theorem dX8_makeAmount_286 : decode cX8_makeAmount 286 = .ok (.iload 13, 2) := by decide +kernel
theorem dX8_makeAmount_288 : decode cX8_makeAmount 288 = .ok (.iconst 3, 1) := by decide +kernel
theorem dX8_makeAmount_289 : decode cX8_makeAmount 289 = .ok (.if_icmp .le 28, 3) := by decide +kernel
theorem dX8_makeAmount_292 : decode cX8_makeAmount 292 = .ok (.aload_n 0, 1) := by decide +kernel
theorem dX8_makeAmount_293 : decode cX8_makeAmount 293 = .ok (.iload_n 1, 1) := by decide +kernel
theorem dX8_makeAmount_294 : decode cX8_makeAmount 294 = .ok (.iload 13, 2) := by decide +kernel
theorem dX8_makeAmount_296 : decode cX8_makeAmount 296 = .ok (.iconst 1, 1) := by decide +kernel
theorem dX8_makeAmount_297 : decode cX8_makeAmount 297 = .ok (.isub, 1) := by decide +kernel
theorem dX8_makeAmount_298 : decode cX8_makeAmount 298 = .ok (.iload 15, 2) := by decide +kernel
theorem dX8_makeAmount_300 : decode cX8_makeAmount 300 = .ok (.isub, 1) := by decide +kernel
theorem dX8_makeAmount_301 : decode cX8_makeAmount 301 = .ok (.invokevirtual 108, 3) := by decide +kernel
theorem dX8_makeAmount_304 : decode cX8_makeAmount 304 = .ok (.ifCond .eq 13, 3) := by decide +kernel
theorem dX8_makeAmount_307 : decode cX8_makeAmount 307 = .ok (.aload_n 0, 1) := by decide +kernel
theorem dX8_makeAmount_308 : decode cX8_makeAmount 308 = .ok (.aload_n 0, 1) := by decide +kernel
theorem dX8_makeAmount_309 : decode cX8_makeAmount 309 = .ok (.getfield 16, 3) := by decide +kernel
theorem dX8_makeAmount_312 : decode cX8_makeAmount 312 = .ok (.iload_n 1, 1) := by decide +kernel
theorem dX8_makeAmount_313 : decode cX8_makeAmount 313 = .ok (.iaload, 1) := by decide +kernel
theorem dX8_makeAmount_314 : decode cX8_makeAmount 314 = .ok (.invokevirtual 190, 3) := by decide +kernel
theorem dX8_makeAmount_317 : decode cX8_makeAmount 317 = .ok (.iinc 15 1, 3) := by decide +kernel
theorem dX8_makeAmount_320 : decode cX8_makeAmount 320 = .ok (.goto (-72), 3) := by decide +kernel
theorem dX8_makeAmount_323 : decode cX8_makeAmount 323 = .ok (.iload 5, 2) := by decide +kernel
theorem dX8_makeAmount_325 : decode cX8_makeAmount 325 = .ok (.ifCond .le 51, 3) := by decide +kernel
theorem dX8_makeAmount_328 : decode cX8_makeAmount 328 = .ok (.aload_n 0, 1) := by decide +kernel
theorem dX8_makeAmount_329 : decode cX8_makeAmount 329 = .ok (.aload_n 0, 1) := by decide +kernel
theorem dX8_makeAmount_330 : decode cX8_makeAmount 330 = .ok (.getfield 13, 3) := by decide +kernel
theorem dX8_makeAmount_333 : decode cX8_makeAmount 333 = .ok (.iload_n 1, 1) := by decide +kernel
theorem dX8_makeAmount_334 : decode cX8_makeAmount 334 = .ok (.iaload, 1) := by decide +kernel
theorem dX8_makeAmount_335 : decode cX8_makeAmount 335 = .ok (.invokevirtual 190, 3) := by decide +kernel
theorem dX8_makeAmount_338 : decode cX8_makeAmount 338 = .ok (.iconst 0, 1) := by decide +kernel
theorem dX8_makeAmount_339 : decode cX8_makeAmount 339 = .ok (.istore 15, 2) := by decide +kernel
theorem dX8_makeAmount_341 : decode cX8_makeAmount 341 = .ok (.iload 15, 2) := by decide +kernel
theorem dX8_makeAmount_343 : decode cX8_makeAmount 343 = .ok (.iload 5, 2) := by decide +kernel
theorem dX8_makeAmount_345 : decode cX8_makeAmount 345 = .ok (.if_icmp .ge 31, 3) := by decide +kernel
theorem dX8_makeAmount_348 : decode cX8_makeAmount 348 = .ok (.aload_n 0, 1) := by decide +kernel
theorem dX8_makeAmount_349 : decode cX8_makeAmount 349 = .ok (.bipush 48, 2) := by decide +kernel
theorem dX8_makeAmount_351 : decode cX8_makeAmount 351 = .ok (.iload 12, 2) := by decide +kernel
theorem dX8_makeAmount_353 : decode cX8_makeAmount 353 = .ok (.ldc 202, 2) := by decide +kernel
theorem dX8_makeAmount_355 : decode cX8_makeAmount 355 = .ok (.idiv, 1) := by decide +kernel
theorem dX8_makeAmount_356 : decode cX8_makeAmount 356 = .ok (.iadd, 1) := by decide +kernel
theorem dX8_makeAmount_357 : decode cX8_makeAmount 357 = .ok (.invokevirtual 190, 3) := by decide +kernel
theorem dX8_makeAmount_360 : decode cX8_makeAmount 360 = .ok (.iload 12, 2) := by decide +kernel
theorem dX8_makeAmount_362 : decode cX8_makeAmount 362 = .ok (.ldc 202, 2) := by decide +kernel
theorem dX8_makeAmount_364 : decode cX8_makeAmount 364 = .ok (.irem, 1) := by decide +kernel
theorem dX8_makeAmount_365 : decode cX8_makeAmount 365 = .ok (.bipush 10, 2) := by decide +kernel
theorem dX8_makeAmount_367 : decode cX8_makeAmount 367 = .ok (.imul, 1) := by decide +kernel
theorem dX8_makeAmount_368 : decode cX8_makeAmount 368 = .ok (.istore 12, 2) := by decide +kernel
theorem dX8_makeAmount_370 : decode cX8_makeAmount 370 = .ok (.iinc 15 1, 3) := by decide +kernel
theorem dX8_makeAmount_373 : decode cX8_makeAmount 373 = .ok (.goto (-32), 3) := by decide +kernel
theorem dX8_makeAmount_376 : decode cX8_makeAmount 376 = .ok (.iload_n 2, 1) := by decide +kernel
theorem dX8_makeAmount_377 : decode cX8_makeAmount 377 = .ok (.iconst 1, 1) := by decide +kernel
theorem dX8_makeAmount_378 : decode cX8_makeAmount 378 = .ok (.if_icmp .ne 23, 3) := by decide +kernel
theorem dX8_makeAmount_381 : decode cX8_makeAmount 381 = .ok (.aload_n 0, 1) := by decide +kernel
theorem dX8_makeAmount_382 : decode cX8_makeAmount 382 = .ok (.getfield 28, 3) := by decide +kernel
theorem dX8_makeAmount_385 : decode cX8_makeAmount 385 = .ok (.iload_n 1, 1) := by decide +kernel
theorem dX8_makeAmount_386 : decode cX8_makeAmount 386 = .ok (.baload, 1) := by decide +kernel
theorem dX8_makeAmount_387 : decode cX8_makeAmount 387 = .ok (.ifCond .eq 14, 3) := by decide +kernel
theorem dX8_makeAmount_390 : decode cX8_makeAmount 390 = .ok (.aload_n 0, 1) := by decide +kernel
theorem dX8_makeAmount_391 : decode cX8_makeAmount 391 = .ok (.bipush 32, 2) := by decide +kernel
theorem dX8_makeAmount_393 : decode cX8_makeAmount 393 = .ok (.invokevirtual 190, 3) := by decide +kernel
theorem dX8_makeAmount_396 : decode cX8_makeAmount 396 = .ok (.aload_n 0, 1) := by decide +kernel
theorem dX8_makeAmount_397 : decode cX8_makeAmount 397 = .ok (.iload_n 1, 1) := by decide +kernel
theorem dX8_makeAmount_398 : decode cX8_makeAmount 398 = .ok (.invokevirtual 199, 3) := by decide +kernel
theorem dX8_makeAmount_401 : decode cX8_makeAmount 401 = .ok (.iload 10, 2) := by decide +kernel
theorem dX8_makeAmount_403 : decode cX8_makeAmount 403 = .ok (.ifCond .eq 33, 3) := by decide +kernel
theorem dX8_makeAmount_406 : decode cX8_makeAmount 406 = .ok (.aload_n 0, 1) := by decide +kernel
theorem dX8_makeAmount_407 : decode cX8_makeAmount 407 = .ok (.getfield 22, 3) := by decide +kernel
theorem dX8_makeAmount_410 : decode cX8_makeAmount 410 = .ok (.iload_n 1, 1) := by decide +kernel
theorem dX8_makeAmount_411 : decode cX8_makeAmount 411 = .ok (.iaload, 1) := by decide +kernel
theorem dX8_makeAmount_412 : decode cX8_makeAmount 412 = .ok (.ifCond .eq 24, 3) := by decide +kernel
theorem dX8_makeAmount_415 : decode cX8_makeAmount 415 = .ok (.aload_n 0, 1) := by decide +kernel
theorem dX8_makeAmount_416 : decode cX8_makeAmount 416 = .ok (.aload_n 0, 1) := by decide +kernel
theorem dX8_makeAmount_417 : decode cX8_makeAmount 417 = .ok (.getfield 22, 3) := by decide +kernel
theorem dX8_makeAmount_420 : decode cX8_makeAmount 420 = .ok (.iload_n 1, 1) := by decide +kernel
theorem dX8_makeAmount_421 : decode cX8_makeAmount 421 = .ok (.iaload, 1) := by decide +kernel
theorem dX8_makeAmount_422 : decode cX8_makeAmount 422 = .ok (.iconst 1, 1) := by decide +kernel
theorem dX8_makeAmount_423 : decode cX8_makeAmount 423 = .ok (.if_icmp .ne 8, 3) := by decide +kernel
theorem dX8_makeAmount_426 : decode cX8_makeAmount 426 = .ok (.bipush 45, 2) := by decide +kernel
theorem dX8_makeAmount_428 : decode cX8_makeAmount 428 = .ok (.goto 5, 3) := by decide +kernel
theorem dX8_makeAmount_431 : decode cX8_makeAmount 431 = .ok (.bipush 41, 2) := by decide +kernel
theorem dX8_makeAmount_433 : decode cX8_makeAmount 433 = .ok (.invokevirtual 190, 3) := by decide +kernel
theorem dX8_makeAmount_436 : decode cX8_makeAmount 436 = .ok (.iconst 1, 1) := by decide +kernel
theorem dX8_makeAmount_437 : decode cX8_makeAmount 437 = .ok (.ireturn, 1) := by decide +kernel
theorem dX8_makeDay_0 : decode cX8_makeDay 0 = .ok (.lload_n 2, 1) := by decide +kernel
theorem dX8_makeDay_1 : decode cX8_makeDay 1 = .ok (.lconst 0, 1) := by decide +kernel
theorem dX8_makeDay_2 : decode cX8_makeDay 2 = .ok (.lcmp, 1) := by decide +kernel
theorem dX8_makeDay_3 : decode cX8_makeDay 3 = .ok (.ifCond .lt 18, 3) := by decide +kernel
theorem dX8_makeDay_6 : decode cX8_makeDay 6 = .ok (.lload_n 2, 1) := by decide +kernel
theorem dX8_makeDay_7 : decode cX8_makeDay 7 = .ok (.bipush 31, 2) := by decide +kernel
theorem dX8_makeDay_9 : decode cX8_makeDay 9 = .ok (.bipush 12, 2) := by decide +kernel
theorem dX8_makeDay_11 : decode cX8_makeDay 11 = .ok (.sipush 9999, 3) := by decide +kernel
theorem dX8_makeDay_14 : decode cX8_makeDay 14 = .ok (.invokestatic 163, 3) := by decide +kernel
theorem dX8_makeDay_17 : decode cX8_makeDay 17 = .ok (.lcmp, 1) := by decide +kernel
theorem dX8_makeDay_18 : decode cX8_makeDay 18 = .ok (.ifCond .le 5, 3) := by decide +kernel
theorem dX8_makeDay_21 : decode cX8_makeDay 21 = .ok (.iconst 0, 1) := by decide +kernel
theorem dX8_makeDay_22 : decode cX8_makeDay 22 = .ok (.ireturn, 1) := by decide +kernel
theorem dX8_makeDay_23 : decode cX8_makeDay 23 = .ok (.lload_n 2, 1) := by decide +kernel
theorem dX8_makeDay_24 : decode cX8_makeDay 24 = .ok (.ldc2_w 203, 3) := by decide +kernel
theorem dX8_makeDay_27 : decode cX8_makeDay 27 = .ok (.ldiv, 1) := by decide +kernel
theorem dX8_makeDay_28 : decode cX8_makeDay 28 = .ok (.l2i, 1) := by decide +kernel
theorem dX8_makeDay_29 : decode cX8_makeDay 29 = .ok (.iconst 1, 1) := by decide +kernel
theorem dX8_makeDay_30 : decode cX8_makeDay 30 = .ok (.iadd, 1) := by decide +kernel
theorem dX8_makeDay_31 : decode cX8_makeDay 31 = .ok (.istore 4, 2) := by decide +kernel
theorem dX8_makeDay_33 : decode cX8_makeDay 33 = .ok (.iload 4, 2) := by decide +kernel
theorem dX8_makeDay_35 : decode cX8_makeDay 35 = .ok (.sipush 9999, 3) := by decide +kernel
theorem dX8_makeDay_38 : decode cX8_makeDay 38 = .ok (.if_icmp .ge 23, 3) := by decide +kernel
theorem dX8_makeDay_41 : decode cX8_makeDay 41 = .ok (.iconst 1, 1) := by decide +kernel
theorem dX8_makeDay_42 : decode cX8_makeDay 42 = .ok (.iconst 1, 1) := by decide +kernel
theorem dX8_makeDay_43 : decode cX8_makeDay 43 = .ok (.iload 4, 2) := by decide +kernel
theorem dX8_makeDay_45 : decode cX8_makeDay 45 = .ok (.iconst 1, 1) := by decide +kernel
theorem dX8_makeDay_46 : decode cX8_makeDay 46 = .ok (.iadd, 1) := by decide +kernel
theorem dX8_makeDay_47 : decode cX8_makeDay 47 = .ok (.invokestatic 163, 3) := by decide +kernel
theorem dX8_makeDay_50 : decode cX8_makeDay 50 = .ok (.lload_n 2, 1) := by decide +kernel
theorem dX8_makeDay_51 : decode cX8_makeDay 51 = .ok (.lcmp, 1) := by decide +kernel
theorem dX8_makeDay_52 : decode cX8_makeDay 52 = .ok (.ifCond .gt 9, 3) := by decide +kernel
theorem dX8_makeDay_55 : decode cX8_makeDay 55 = .ok (.iinc 4 1, 3) := by decide +kernel
theorem dX8_makeDay_58 : decode cX8_makeDay 58 = .ok (.goto (-25), 3) := by decide +kernel
theorem dX8_makeDay_61 : decode cX8_makeDay 61 = .ok (.iconst 1, 1) := by decide +kernel
theorem dX8_makeDay_62 : decode cX8_makeDay 62 = .ok (.istore 5, 2) := by decide +kernel
theorem dX8_makeDay_64 : decode cX8_makeDay 64 = .ok (.iload 5, 2) := by decide +kernel
theorem dX8_makeDay_66 : decode cX8_makeDay 66 = .ok (.bipush 12, 2) := by decide +kernel
theorem dX8_makeDay_68 : decode cX8_makeDay 68 = .ok (.if_icmp .ge 24, 3) := by decide +kernel
theorem dX8_makeDay_71 : decode cX8_makeDay 71 = .ok (.iconst 1, 1) := by decide +kernel
theorem dX8_makeDay_72 : decode cX8_makeDay 72 = .ok (.iload 5, 2) := by decide +kernel
theorem dX8_makeDay_74 : decode cX8_makeDay 74 = .ok (.iconst 1, 1) := by decide +kernel
theorem dX8_makeDay_75 : decode cX8_makeDay 75 = .ok (.iadd, 1) := by decide +kernel
theorem dX8_makeDay_76 : decode cX8_makeDay 76 = .ok (.iload 4, 2) := by decide +kernel
theorem dX8_makeDay_78 : decode cX8_makeDay 78 = .ok (.invokestatic 163, 3) := by decide +kernel
theorem dX8_makeDay_81 : decode cX8_makeDay 81 = .ok (.lload_n 2, 1) := by decide +kernel
theorem dX8_makeDay_82 : decode cX8_makeDay 82 = .ok (.lcmp, 1) := by decide +kernel
theorem dX8_makeDay_83 : decode cX8_makeDay 83 = .ok (.ifCond .gt 9, 3) := by decide +kernel
theorem dX8_makeDay_86 : decode cX8_makeDay 86 = .ok (.iinc 5 1, 3) := by decide +kernel
theorem dX8_makeDay_89 : decode cX8_makeDay 89 = .ok (.goto (-25), 3) := by decide +kernel
theorem dX8_makeDay_92 : decode cX8_makeDay 92 = .ok (.lload_n 2, 1) := by decide +kernel
theorem dX8_makeDay_93 : decode cX8_makeDay 93 = .ok (.iconst 1, 1) := by decide +kernel
theorem dX8_makeDay_94 : decode cX8_makeDay 94 = .ok (.iload 5, 2) := by decide +kernel
theorem dX8_makeDay_96 : decode cX8_makeDay 96 = .ok (.iload 4, 2) := by decide +kernel
theorem dX8_makeDay_98 : decode cX8_makeDay 98 = .ok (.invokestatic 163, 3) := by decide +kernel
theorem dX8_makeDay_101 : decode cX8_makeDay 101 = .ok (.lsub, 1) := by decide +kernel
theorem dX8_makeDay_102 : decode cX8_makeDay 102 = .ok (.l2i, 1) := by decide +kernel
theorem dX8_makeDay_103 : decode cX8_makeDay 103 = .ok (.iconst 1, 1) := by decide +kernel
theorem dX8_makeDay_104 : decode cX8_makeDay 104 = .ok (.iadd, 1) := by decide +kernel
theorem dX8_makeDay_105 : decode cX8_makeDay 105 = .ok (.istore 6, 2) := by decide +kernel
theorem dX8_makeDay_107 : decode cX8_makeDay 107 = .ok (.aload_n 0, 1) := by decide +kernel
theorem dX8_makeDay_108 : decode cX8_makeDay 108 = .ok (.getfield 32, 3) := by decide +kernel
theorem dX8_makeDay_111 : decode cX8_makeDay 111 = .ok (.iload_n 1, 1) := by decide +kernel
theorem dX8_makeDay_112 : decode cX8_makeDay 112 = .ok (.iaload, 1) := by decide +kernel
theorem dX8_makeDay_113 : decode cX8_makeDay 113 = .ok (.iconst 2, 1) := by decide +kernel
theorem dX8_makeDay_114 : decode cX8_makeDay 114 = .ok (.if_icmp .ne 46, 3) := by decide +kernel
theorem dX8_makeDay_117 : decode cX8_makeDay 117 = .ok (.aload_n 0, 1) := by decide +kernel
theorem dX8_makeDay_118 : decode cX8_makeDay 118 = .ok (.iload 4, 2) := by decide +kernel
theorem dX8_makeDay_120 : decode cX8_makeDay 120 = .ok (.iconst 4, 1) := by decide +kernel
theorem dX8_makeDay_121 : decode cX8_makeDay 121 = .ok (.invokevirtual 205, 3) := by decide +kernel
theorem dX8_makeDay_124 : decode cX8_makeDay 124 = .ok (.aload_n 0, 1) := by decide +kernel
theorem dX8_makeDay_125 : decode cX8_makeDay 125 = .ok (.aload_n 0, 1) := by decide +kernel
theorem dX8_makeDay_126 : decode cX8_makeDay 126 = .ok (.getfield 35, 3) := by decide +kernel
theorem dX8_makeDay_129 : decode cX8_makeDay 129 = .ok (.iload_n 1, 1) := by decide +kernel
theorem dX8_makeDay_130 : decode cX8_makeDay 130 = .ok (.iaload, 1) := by decide +kernel
theorem dX8_makeDay_131 : decode cX8_makeDay 131 = .ok (.invokevirtual 190, 3) := by decide +kernel
theorem dX8_makeDay_134 : decode cX8_makeDay 134 = .ok (.aload_n 0, 1) := by decide +kernel
theorem dX8_makeDay_135 : decode cX8_makeDay 135 = .ok (.iload 5, 2) := by decide +kernel
theorem dX8_makeDay_137 : decode cX8_makeDay 137 = .ok (.iconst 2, 1) := by decide +kernel
theorem dX8_makeDay_138 : decode cX8_makeDay 138 = .ok (.invokevirtual 205, 3) := by decide +kernel
theorem dX8_makeDay_141 : decode cX8_makeDay 141 = .ok (.aload_n 0, 1) := by decide +kernel
theorem dX8_makeDay_142 : decode cX8_makeDay 142 = .ok (.aload_n 0, 1) := by decide +kernel
theorem dX8_makeDay_143 : decode cX8_makeDay 143 = .ok (.getfield 35, 3) := by decide +kernel
theorem dX8_makeDay_146 : decode cX8_makeDay 146 = .ok (.iload_n 1, 1) := by decide +kernel
theorem dX8_makeDay_147 : decode cX8_makeDay 147 = .ok (.iaload, 1) := by decide +kernel
theorem dX8_makeDay_148 : decode cX8_makeDay 148 = .ok (.invokevirtual 190, 3) := by decide +kernel
theorem dX8_makeDay_151 : decode cX8_makeDay 151 = .ok (.aload_n 0, 1) := by decide +kernel
theorem dX8_makeDay_152 : decode cX8_makeDay 152 = .ok (.iload 6, 2) := by decide +kernel
theorem dX8_makeDay_154 : decode cX8_makeDay 154 = .ok (.iconst 2, 1) := by decide +kernel
theorem dX8_makeDay_155 : decode cX8_makeDay 155 = .ok (.invokevirtual 205, 3) := by decide +kernel
theorem dX8_makeDay_158 : decode cX8_makeDay 158 = .ok (.iconst 1, 1) := by decide +kernel
theorem dX8_makeDay_159 : decode cX8_makeDay 159 = .ok (.ireturn, 1) := by decide +kernel
theorem dX8_makeDay_160 : decode cX8_makeDay 160 = .ok (.aload_n 0, 1) := by decide +kernel
theorem dX8_makeDay_161 : decode cX8_makeDay 161 = .ok (.aload_n 0, 1) := by decide +kernel
theorem dX8_makeDay_162 : decode cX8_makeDay 162 = .ok (.getfield 32, 3) := by decide +kernel
theorem dX8_makeDay_165 : decode cX8_makeDay 165 = .ok (.iload_n 1, 1) := by decide +kernel
theorem dX8_makeDay_166 : decode cX8_makeDay 166 = .ok (.iaload, 1) := by decide +kernel
theorem dX8_makeDay_167 : decode cX8_makeDay 167 = .ok (.ifCond .ne 8, 3) := by decide +kernel
theorem dX8_makeDay_170 : decode cX8_makeDay 170 = .ok (.iload 6, 2) := by decide +kernel
theorem dX8_makeDay_172 : decode cX8_makeDay 172 = .ok (.goto 5, 3) := by decide +kernel
theorem dX8_makeDay_175 : decode cX8_makeDay 175 = .ok (.iload 5, 2) := by decide +kernel
theorem dX8_makeDay_177 : decode cX8_makeDay 177 = .ok (.iconst 2, 1) := by decide +kernel
theorem dX8_makeDay_178 : decode cX8_makeDay 178 = .ok (.invokevirtual 205, 3) := by decide +kernel
theorem dX8_makeDay_181 : decode cX8_makeDay 181 = .ok (.aload_n 0, 1) := by decide +kernel
theorem dX8_makeDay_182 : decode cX8_makeDay 182 = .ok (.aload_n 0, 1) := by decide +kernel
theorem dX8_makeDay_183 : decode cX8_makeDay 183 = .ok (.getfield 35, 3) := by decide +kernel
theorem dX8_makeDay_186 : decode cX8_makeDay 186 = .ok (.iload_n 1, 1) := by decide +kernel
theorem dX8_makeDay_187 : decode cX8_makeDay 187 = .ok (.iaload, 1) := by decide +kernel
theorem dX8_makeDay_188 : decode cX8_makeDay 188 = .ok (.invokevirtual 190, 3) := by decide +kernel
theorem dX8_makeDay_191 : decode cX8_makeDay 191 = .ok (.aload_n 0, 1) := by decide +kernel
theorem dX8_makeDay_192 : decode cX8_makeDay 192 = .ok (.aload_n 0, 1) := by decide +kernel
theorem dX8_makeDay_193 : decode cX8_makeDay 193 = .ok (.getfield 32, 3) := by decide +kernel
theorem dX8_makeDay_196 : decode cX8_makeDay 196 = .ok (.iload_n 1, 1) := by decide +kernel
theorem dX8_makeDay_197 : decode cX8_makeDay 197 = .ok (.iaload, 1) := by decide +kernel
theorem dX8_makeDay_198 : decode cX8_makeDay 198 = .ok (.ifCond .ne 8, 3) := by decide +kernel
theorem dX8_makeDay_201 : decode cX8_makeDay 201 = .ok (.iload 5, 2) := by decide +kernel
theorem dX8_makeDay_203 : decode cX8_makeDay 203 = .ok (.goto 5, 3) := by decide +kernel
theorem dX8_makeDay_206 : decode cX8_makeDay 206 = .ok (.iload 6, 2) := by decide +kernel
theorem dX8_makeDay_208 : decode cX8_makeDay 208 = .ok (.iconst 2, 1) := by decide +kernel
theorem dX8_makeDay_209 : decode cX8_makeDay 209 = .ok (.invokevirtual 205, 3) := by decide +kernel
theorem dX8_makeDay_212 : decode cX8_makeDay 212 = .ok (.aload_n 0, 1) := by decide +kernel
theorem dX8_makeDay_213 : decode cX8_makeDay 213 = .ok (.aload_n 0, 1) := by decide +kernel
theorem dX8_makeDay_214 : decode cX8_makeDay 214 = .ok (.getfield 35, 3) := by decide +kernel
theorem dX8_makeDay_217 : decode cX8_makeDay 217 = .ok (.iload_n 1, 1) := by decide +kernel
theorem dX8_makeDay_218 : decode cX8_makeDay 218 = .ok (.iaload, 1) := by decide +kernel
theorem dX8_makeDay_219 : decode cX8_makeDay 219 = .ok (.invokevirtual 190, 3) := by decide +kernel
theorem dX8_makeDay_222 : decode cX8_makeDay 222 = .ok (.aload_n 0, 1) := by decide +kernel
theorem dX8_makeDay_223 : decode cX8_makeDay 223 = .ok (.iload 4, 2) := by decide +kernel
theorem dX8_makeDay_225 : decode cX8_makeDay 225 = .ok (.iconst 4, 1) := by decide +kernel
theorem dX8_makeDay_226 : decode cX8_makeDay 226 = .ok (.invokevirtual 205, 3) := by decide +kernel
theorem dX8_makeDay_229 : decode cX8_makeDay 229 = .ok (.iconst 1, 1) := by decide +kernel
theorem dX8_makeDay_230 : decode cX8_makeDay 230 = .ok (.ireturn, 1) := by decide +kernel
theorem dX8_make_0 : decode cX8_make 0 = .ok (.aload_n 0, 1) := by decide +kernel
theorem dX8_make_1 : decode cX8_make 1 = .ok (.iconst 0, 1) := by decide +kernel
theorem dX8_make_2 : decode cX8_make 2 = .ok (.putfield 187, 3) := by decide +kernel
theorem dX8_make_5 : decode cX8_make 5 = .ok (.aload_n 0, 1) := by decide +kernel
theorem dX8_make_6 : decode cX8_make 6 = .ok (.iload_n 1, 1) := by decide +kernel
theorem dX8_make_7 : decode cX8_make 7 = .ok (.invokevirtual 178, 3) := by decide +kernel
theorem dX8_make_10 : decode cX8_make 10 = .ok (.ifCond .eq 45, 3) := by decide +kernel
theorem dX8_make_13 : decode cX8_make 13 = .ok (.iload_n 2, 1) := by decide +kernel
theorem dX8_make_14 : decode cX8_make 14 = .ok (.iconst 0, 1) := by decide +kernel
theorem dX8_make_15 : decode cX8_make 15 = .ok (.iconst 2, 1) := by decide +kernel
theorem dX8_make_16 : decode cX8_make 16 = .ok (.invokestatic 94, 3) := by decide +kernel
theorem dX8_make_19 : decode cX8_make 19 = .ok (.ifCond .eq 36, 3) := by decide +kernel
theorem dX8_make_22 : decode cX8_make 22 = .ok (.iload_n 2, 1) := by decide +kernel
theorem dX8_make_23 : decode cX8_make 23 = .ok (.iconst 2, 1) := by decide +kernel
theorem dX8_make_24 : decode cX8_make 24 = .ok (.if_icmp .ne 15, 3) := by decide +kernel
theorem dX8_make_27 : decode cX8_make 27 = .ok (.aload_n 0, 1) := by decide +kernel
theorem dX8_make_28 : decode cX8_make 28 = .ok (.iload_n 1, 1) := by decide +kernel
theorem dX8_make_29 : decode cX8_make 29 = .ok (.lload_n 3, 1) := by decide +kernel
theorem dX8_make_30 : decode cX8_make 30 = .ok (.invokevirtual 208, 3) := by decide +kernel
theorem dX8_make_33 : decode cX8_make 33 = .ok (.ifCond .eq 22, 3) := by decide +kernel
theorem dX8_make_36 : decode cX8_make 36 = .ok (.goto 15, 3) := by decide +kernel
theorem dX8_make_39 : decode cX8_make 39 = .ok (.aload_n 0, 1) := by decide +kernel
theorem dX8_make_40 : decode cX8_make 40 = .ok (.iload_n 1, 1) := by decide +kernel
theorem dX8_make_41 : decode cX8_make 41 = .ok (.iload_n 2, 1) := by decide +kernel
theorem dX8_make_42 : decode cX8_make 42 = .ok (.lload_n 3, 1) := by decide +kernel
theorem dX8_make_43 : decode cX8_make 43 = .ok (.iload 5, 2) := by decide +kernel
theorem dX8_make_45 : decode cX8_make 45 = .ok (.invokevirtual 212, 3) := by decide +kernel
theorem dX8_make_48 : decode cX8_make 48 = .ok (.ifCond .eq 7, 3) := by decide +kernel
theorem dX8_make_51 : decode cX8_make 51 = .ok (.iconst 1, 1) := by decide +kernel
theorem dX8_make_52 : decode cX8_make 52 = .ok (.goto 4, 3) := by decide +kernel
theorem dX8_make_55 : decode cX8_make 55 = .ok (.iconst 0, 1) := by decide +kernel
theorem dX8_make_56 : decode cX8_make 56 = .ok (.ireturn, 1) := by decide +kernel
theorem dX8_keep_0 : decode cX8_keep 0 = .ok (.aload_n 0, 1) := by decide +kernel
theorem dX8_keep_1 : decode cX8_keep 1 = .ok (.getfield 61, 3) := by decide +kernel
theorem dX8_keep_4 : decode cX8_keep 4 = .ok (.iconst 0, 1) := by decide +kernel
theorem dX8_keep_5 : decode cX8_keep 5 = .ok (.aload_n 0, 1) := by decide +kernel
theorem dX8_keep_6 : decode cX8_keep 6 = .ok (.getfield 187, 3) := by decide +kernel
theorem dX8_keep_9 : decode cX8_keep 9 = .ok (.iastore, 1) := by decide +kernel
theorem dX8_keep_10 : decode cX8_keep 10 = .ok (.iconst 0, 1) := by decide +kernel
theorem dX8_keep_11 : decode cX8_keep 11 = .ok (.istore_n 1, 1) := by decide +kernel
theorem dX8_keep_12 : decode cX8_keep 12 = .ok (.iload_n 1, 1) := by decide +kernel
theorem dX8_keep_13 : decode cX8_keep 13 = .ok (.aload_n 0, 1) := by decide +kernel
theorem dX8_keep_14 : decode cX8_keep 14 = .ok (.getfield 187, 3) := by decide +kernel
theorem dX8_keep_17 : decode cX8_keep 17 = .ok (.if_icmp .ge 21, 3) := by decide +kernel
theorem dX8_keep_20 : decode cX8_keep 20 = .ok (.aload_n 0, 1) := by decide +kernel
theorem dX8_keep_21 : decode cX8_keep 21 = .ok (.getfield 64, 3) := by decide +kernel
theorem dX8_keep_24 : decode cX8_keep 24 = .ok (.iload_n 1, 1) := by decide +kernel
theorem dX8_keep_25 : decode cX8_keep 25 = .ok (.aload_n 0, 1) := by decide +kernel
theorem dX8_keep_26 : decode cX8_keep 26 = .ok (.getfield 76, 3) := by decide +kernel
theorem dX8_keep_29 : decode cX8_keep 29 = .ok (.iload_n 1, 1) := by decide +kernel
theorem dX8_keep_30 : decode cX8_keep 30 = .ok (.iaload, 1) := by decide +kernel
theorem dX8_keep_31 : decode cX8_keep 31 = .ok (.iastore, 1) := by decide +kernel
theorem dX8_keep_32 : decode cX8_keep 32 = .ok (.iinc 1 1, 3) := by decide +kernel
theorem dX8_keep_35 : decode cX8_keep 35 = .ok (.goto (-23), 3) := by decide +kernel
theorem dX8_keep_38 : decode cX8_keep 38 = .ok (.aload_n 0, 1) := by decide +kernel
theorem dX8_keep_39 : decode cX8_keep 39 = .ok (.getfield 187, 3) := by decide +kernel
theorem dX8_keep_42 : decode cX8_keep 42 = .ok (.ireturn, 1) := by decide +kernel
theorem dX8_show_0 : decode cX8_show 0 = .ok (.aload_n 0, 1) := by decide +kernel
theorem dX8_show_1 : decode cX8_show 1 = .ok (.iconst 0, 1) := by decide +kernel
theorem dX8_show_2 : decode cX8_show 2 = .ok (.putfield 86, 3) := by decide +kernel
theorem dX8_show_5 : decode cX8_show 5 = .ok (.aload_n 0, 1) := by decide +kernel
theorem dX8_show_6 : decode cX8_show 6 = .ok (.iload_n 1, 1) := by decide +kernel
theorem dX8_show_7 : decode cX8_show 7 = .ok (.iload_n 2, 1) := by decide +kernel
theorem dX8_show_8 : decode cX8_show 8 = .ok (.lload_n 3, 1) := by decide +kernel
theorem dX8_show_9 : decode cX8_show 9 = .ok (.iload 5, 2) := by decide +kernel
theorem dX8_show_11 : decode cX8_show 11 = .ok (.invokevirtual 216, 3) := by decide +kernel
theorem dX8_show_14 : decode cX8_show 14 = .ok (.ifCond .eq 10, 3) := by decide +kernel
theorem dX8_show_17 : decode cX8_show 17 = .ok (.aload_n 0, 1) := by decide +kernel
theorem dX8_show_18 : decode cX8_show 18 = .ok (.invokevirtual 219, 3) := by decide +kernel
theorem dX8_show_21 : decode cX8_show 21 = .ok (.goto 4, 3) := by decide +kernel
theorem dX8_show_24 : decode cX8_show 24 = .ok (.iconst (-1), 1) := by decide +kernel
theorem dX8_show_25 : decode cX8_show 25 = .ok (.ireturn, 1) := by decide +kernel
theorem dX8_sayWord_0 : decode cX8_sayWord 0 = .ok (.aload_n 0, 1) := by decide +kernel
theorem dX8_sayWord_1 : decode cX8_sayWord 1 = .ok (.getfield 187, 3) := by decide +kernel
theorem dX8_sayWord_4 : decode cX8_sayWord 4 = .ok (.ifCond .le 9, 3) := by decide +kernel
theorem dX8_sayWord_7 : decode cX8_sayWord 7 = .ok (.aload_n 0, 1) := by decide +kernel
theorem dX8_sayWord_8 : decode cX8_sayWord 8 = .ok (.bipush 32, 2) := by decide +kernel
theorem dX8_sayWord_10 : decode cX8_sayWord 10 = .ok (.invokevirtual 190, 3) := by decide +kernel
theorem dX8_sayWord_13 : decode cX8_sayWord 13 = .ok (.bipush 56, 2) := by decide +kernel
theorem dX8_sayWord_15 : decode cX8_sayWord 15 = .ok (.istore_n 3, 1) := by decide +kernel
theorem dX8_sayWord_16 : decode cX8_sayWord 16 = .ok (.iload_n 3, 1) := by decide +kernel
theorem dX8_sayWord_17 : decode cX8_sayWord 17 = .ok (.ifCond .lt 30, 3) := by decide +kernel
theorem dX8_sayWord_20 : decode cX8_sayWord 20 = .ok (.lload_n 1, 1) := by decide +kernel
theorem dX8_sayWord_21 : decode cX8_sayWord 21 = .ok (.iload_n 3, 1) := by decide +kernel
theorem dX8_sayWord_22 : decode cX8_sayWord 22 = .ok (.lshr, 1) := by decide +kernel
theorem dX8_sayWord_23 : decode cX8_sayWord 23 = .ok (.ldc2_w 223, 3) := by decide +kernel
theorem dX8_sayWord_26 : decode cX8_sayWord 26 = .ok (.land, 1) := by decide +kernel
theorem dX8_sayWord_27 : decode cX8_sayWord 27 = .ok (.l2i, 1) := by decide +kernel
theorem dX8_sayWord_28 : decode cX8_sayWord 28 = .ok (.istore 4, 2) := by decide +kernel
theorem dX8_sayWord_30 : decode cX8_sayWord 30 = .ok (.iload 4, 2) := by decide +kernel
theorem dX8_sayWord_32 : decode cX8_sayWord 32 = .ok (.ifCond .eq 9, 3) := by decide +kernel
theorem dX8_sayWord_35 : decode cX8_sayWord 35 = .ok (.aload_n 0, 1) := by decide +kernel
theorem dX8_sayWord_36 : decode cX8_sayWord 36 = .ok (.iload 4, 2) := by decide +kernel
theorem dX8_sayWord_38 : decode cX8_sayWord 38 = .ok (.invokevirtual 190, 3) := by decide +kernel
theorem dX8_sayWord_41 : decode cX8_sayWord 41 = .ok (.iinc 3 (-8), 3) := by decide +kernel
theorem dX8_sayWord_44 : decode cX8_sayWord 44 = .ok (.goto (-28), 3) := by decide +kernel
theorem dX8_sayWord_47 : decode cX8_sayWord 47 = .ok (.return_, 1) := by decide +kernel
theorem dX8_sayBelow20_0 : decode cX8_sayBelow20 0 = .ok (.iload_n 1, 1) := by decide +kernel
theorem dX8_sayBelow20_1 : decode cX8_sayBelow20 1 = .ok (.tableswitch 287 1 19 #[91, 101, 111, 121, 131, 141, 151, 161, 171, 181, 191, 201, 211, 221, 231, 241, 251, 267, 277], 91) := by decide +kernel
theorem dX8_sayBelow20_92 : decode cX8_sayBelow20 92 = .ok (.aload_n 0, 1) := by decide +kernel
theorem dX8_sayBelow20_93 : decode cX8_sayBelow20 93 = .ok (.ldc2_w 225, 3) := by decide +kernel
theorem dX8_sayBelow20_96 : decode cX8_sayBelow20 96 = .ok (.invokevirtual 227, 3) := by decide +kernel
theorem dX8_sayBelow20_99 : decode cX8_sayBelow20 99 = .ok (.goto 189, 3) := by decide +kernel
theorem dX8_sayBelow20_102 : decode cX8_sayBelow20 102 = .ok (.aload_n 0, 1) := by decide +kernel
theorem dX8_sayBelow20_103 : decode cX8_sayBelow20 103 = .ok (.ldc2_w 231, 3) := by decide +kernel
theorem dX8_sayBelow20_106 : decode cX8_sayBelow20 106 = .ok (.invokevirtual 227, 3) := by decide +kernel
theorem dX8_sayBelow20_109 : decode cX8_sayBelow20 109 = .ok (.goto 179, 3) := by decide +kernel
theorem dX8_sayBelow20_112 : decode cX8_sayBelow20 112 = .ok (.aload_n 0, 1) := by decide +kernel
theorem dX8_sayBelow20_113 : decode cX8_sayBelow20 113 = .ok (.ldc2_w 233, 3) := by decide +kernel
theorem dX8_sayBelow20_116 : decode cX8_sayBelow20 116 = .ok (.invokevirtual 227, 3) := by decide +kernel
theorem dX8_sayBelow20_119 : decode cX8_sayBelow20 119 = .ok (.goto 169, 3) := by decide +kernel
theorem dX8_sayBelow20_122 : decode cX8_sayBelow20 122 = .ok (.aload_n 0, 1) := by decide +kernel
theorem dX8_sayBelow20_123 : decode cX8_sayBelow20 123 = .ok (.ldc2_w 235, 3) := by decide +kernel
theorem dX8_sayBelow20_126 : decode cX8_sayBelow20 126 = .ok (.invokevirtual 227, 3) := by decide +kernel
theorem dX8_sayBelow20_129 : decode cX8_sayBelow20 129 = .ok (.goto 159, 3) := by decide +kernel
theorem dX8_sayBelow20_132 : decode cX8_sayBelow20 132 = .ok (.aload_n 0, 1) := by decide +kernel
theorem dX8_sayBelow20_133 : decode cX8_sayBelow20 133 = .ok (.ldc2_w 237, 3) := by decide +kernel
theorem dX8_sayBelow20_136 : decode cX8_sayBelow20 136 = .ok (.invokevirtual 227, 3) := by decide +kernel
theorem dX8_sayBelow20_139 : decode cX8_sayBelow20 139 = .ok (.goto 149, 3) := by decide +kernel
theorem dX8_sayBelow20_142 : decode cX8_sayBelow20 142 = .ok (.aload_n 0, 1) := by decide +kernel
theorem dX8_sayBelow20_143 : decode cX8_sayBelow20 143 = .ok (.ldc2_w 239, 3) := by decide +kernel
theorem dX8_sayBelow20_146 : decode cX8_sayBelow20 146 = .ok (.invokevirtual 227, 3) := by decide +kernel
theorem dX8_sayBelow20_149 : decode cX8_sayBelow20 149 = .ok (.goto 139, 3) := by decide +kernel
theorem dX8_sayBelow20_152 : decode cX8_sayBelow20 152 = .ok (.aload_n 0, 1) := by decide +kernel
theorem dX8_sayBelow20_153 : decode cX8_sayBelow20 153 = .ok (.ldc2_w 241, 3) := by decide +kernel
theorem dX8_sayBelow20_156 : decode cX8_sayBelow20 156 = .ok (.invokevirtual 227, 3) := by decide +kernel
theorem dX8_sayBelow20_159 : decode cX8_sayBelow20 159 = .ok (.goto 129, 3) := by decide +kernel
theorem dX8_sayBelow20_162 : decode cX8_sayBelow20 162 = .ok (.aload_n 0, 1) := by decide +kernel
theorem dX8_sayBelow20_163 : decode cX8_sayBelow20 163 = .ok (.ldc2_w 243, 3) := by decide +kernel
theorem dX8_sayBelow20_166 : decode cX8_sayBelow20 166 = .ok (.invokevirtual 227, 3) := by decide +kernel
theorem dX8_sayBelow20_169 : decode cX8_sayBelow20 169 = .ok (.goto 119, 3) := by decide +kernel
theorem dX8_sayBelow20_172 : decode cX8_sayBelow20 172 = .ok (.aload_n 0, 1) := by decide +kernel
theorem dX8_sayBelow20_173 : decode cX8_sayBelow20 173 = .ok (.ldc2_w 245, 3) := by decide +kernel
theorem dX8_sayBelow20_176 : decode cX8_sayBelow20 176 = .ok (.invokevirtual 227, 3) := by decide +kernel
theorem dX8_sayBelow20_179 : decode cX8_sayBelow20 179 = .ok (.goto 109, 3) := by decide +kernel
theorem dX8_sayBelow20_182 : decode cX8_sayBelow20 182 = .ok (.aload_n 0, 1) := by decide +kernel
theorem dX8_sayBelow20_183 : decode cX8_sayBelow20 183 = .ok (.ldc2_w 247, 3) := by decide +kernel
theorem dX8_sayBelow20_186 : decode cX8_sayBelow20 186 = .ok (.invokevirtual 227, 3) := by decide +kernel
theorem dX8_sayBelow20_189 : decode cX8_sayBelow20 189 = .ok (.goto 99, 3) := by decide +kernel
theorem dX8_sayBelow20_192 : decode cX8_sayBelow20 192 = .ok (.aload_n 0, 1) := by decide +kernel
theorem dX8_sayBelow20_193 : decode cX8_sayBelow20 193 = .ok (.ldc2_w 249, 3) := by decide +kernel
theorem dX8_sayBelow20_196 : decode cX8_sayBelow20 196 = .ok (.invokevirtual 227, 3) := by decide +kernel
theorem dX8_sayBelow20_199 : decode cX8_sayBelow20 199 = .ok (.goto 89, 3) := by decide +kernel
theorem dX8_sayBelow20_202 : decode cX8_sayBelow20 202 = .ok (.aload_n 0, 1) := by decide +kernel
theorem dX8_sayBelow20_203 : decode cX8_sayBelow20 203 = .ok (.ldc2_w 251, 3) := by decide +kernel
theorem dX8_sayBelow20_206 : decode cX8_sayBelow20 206 = .ok (.invokevirtual 227, 3) := by decide +kernel
theorem dX8_sayBelow20_209 : decode cX8_sayBelow20 209 = .ok (.goto 79, 3) := by decide +kernel
theorem dX8_sayBelow20_212 : decode cX8_sayBelow20 212 = .ok (.aload_n 0, 1) := by decide +kernel
theorem dX8_sayBelow20_213 : decode cX8_sayBelow20 213 = .ok (.ldc2_w 253, 3) := by decide +kernel
theorem dX8_sayBelow20_216 : decode cX8_sayBelow20 216 = .ok (.invokevirtual 227, 3) := by decide +kernel
theorem dX8_sayBelow20_219 : decode cX8_sayBelow20 219 = .ok (.goto 69, 3) := by decide +kernel
theorem dX8_sayBelow20_222 : decode cX8_sayBelow20 222 = .ok (.aload_n 0, 1) := by decide +kernel
theorem dX8_sayBelow20_223 : decode cX8_sayBelow20 223 = .ok (.ldc2_w 255, 3) := by decide +kernel
theorem dX8_sayBelow20_226 : decode cX8_sayBelow20 226 = .ok (.invokevirtual 227, 3) := by decide +kernel
theorem dX8_sayBelow20_229 : decode cX8_sayBelow20 229 = .ok (.goto 59, 3) := by decide +kernel
theorem dX8_sayBelow20_232 : decode cX8_sayBelow20 232 = .ok (.aload_n 0, 1) := by decide +kernel
theorem dX8_sayBelow20_233 : decode cX8_sayBelow20 233 = .ok (.ldc2_w 257, 3) := by decide +kernel
theorem dX8_sayBelow20_236 : decode cX8_sayBelow20 236 = .ok (.invokevirtual 227, 3) := by decide +kernel
theorem dX8_sayBelow20_239 : decode cX8_sayBelow20 239 = .ok (.goto 49, 3) := by decide +kernel
theorem dX8_sayBelow20_242 : decode cX8_sayBelow20 242 = .ok (.aload_n 0, 1) := by decide +kernel
theorem dX8_sayBelow20_243 : decode cX8_sayBelow20 243 = .ok (.ldc2_w 259, 3) := by decide +kernel
theorem dX8_sayBelow20_246 : decode cX8_sayBelow20 246 = .ok (.invokevirtual 227, 3) := by decide +kernel
theorem dX8_sayBelow20_249 : decode cX8_sayBelow20 249 = .ok (.goto 39, 3) := by decide +kernel
theorem dX8_sayBelow20_252 : decode cX8_sayBelow20 252 = .ok (.aload_n 0, 1) := by decide +kernel
theorem dX8_sayBelow20_253 : decode cX8_sayBelow20 253 = .ok (.ldc2_w 261, 3) := by decide +kernel
theorem dX8_sayBelow20_256 : decode cX8_sayBelow20 256 = .ok (.invokevirtual 227, 3) := by decide +kernel
theorem dX8_sayBelow20_259 : decode cX8_sayBelow20 259 = .ok (.aload_n 0, 1) := by decide +kernel
theorem dX8_sayBelow20_260 : decode cX8_sayBelow20 260 = .ok (.bipush 110, 2) := by decide +kernel
theorem dX8_sayBelow20_262 : decode cX8_sayBelow20 262 = .ok (.invokevirtual 190, 3) := by decide +kernel
theorem dX8_sayBelow20_265 : decode cX8_sayBelow20 265 = .ok (.goto 23, 3) := by decide +kernel
theorem dX8_sayBelow20_268 : decode cX8_sayBelow20 268 = .ok (.aload_n 0, 1) := by decide +kernel
theorem dX8_sayBelow20_269 : decode cX8_sayBelow20 269 = .ok (.ldc2_w 263, 3) := by decide +kernel
theorem dX8_sayBelow20_272 : decode cX8_sayBelow20 272 = .ok (.invokevirtual 227, 3) := by decide +kernel
theorem dX8_sayBelow20_275 : decode cX8_sayBelow20 275 = .ok (.goto 13, 3) := by decide +kernel
theorem dX8_sayBelow20_278 : decode cX8_sayBelow20 278 = .ok (.aload_n 0, 1) := by decide +kernel
theorem dX8_sayBelow20_279 : decode cX8_sayBelow20 279 = .ok (.ldc2_w 265, 3) := by decide +kernel
theorem dX8_sayBelow20_282 : decode cX8_sayBelow20 282 = .ok (.invokevirtual 227, 3) := by decide +kernel
theorem dX8_sayBelow20_285 : decode cX8_sayBelow20 285 = .ok (.goto 3, 3) := by decide +kernel
theorem dX8_sayBelow20_288 : decode cX8_sayBelow20 288 = .ok (.return_, 1) := by decide +kernel
theorem dX8_sayTens_0 : decode cX8_sayTens 0 = .ok (.iload_n 1, 1) := by decide +kernel
theorem dX8_sayTens_1 : decode cX8_sayTens 1 = .ok (.tableswitch 127 2 9 #[47, 57, 67, 77, 87, 97, 107, 117], 47) := by decide +kernel
theorem dX8_sayTens_48 : decode cX8_sayTens 48 = .ok (.aload_n 0, 1) := by decide +kernel
theorem dX8_sayTens_49 : decode cX8_sayTens 49 = .ok (.ldc2_w 267, 3) := by decide +kernel
theorem dX8_sayTens_52 : decode cX8_sayTens 52 = .ok (.invokevirtual 227, 3) := by decide +kernel
theorem dX8_sayTens_55 : decode cX8_sayTens 55 = .ok (.goto 73, 3) := by decide +kernel
theorem dX8_sayTens_58 : decode cX8_sayTens 58 = .ok (.aload_n 0, 1) := by decide +kernel
theorem dX8_sayTens_59 : decode cX8_sayTens 59 = .ok (.ldc2_w 269, 3) := by decide +kernel
theorem dX8_sayTens_62 : decode cX8_sayTens 62 = .ok (.invokevirtual 227, 3) := by decide +kernel
theorem dX8_sayTens_65 : decode cX8_sayTens 65 = .ok (.goto 63, 3) := by decide +kernel
theorem dX8_sayTens_68 : decode cX8_sayTens 68 = .ok (.aload_n 0, 1) := by decide +kernel
theorem dX8_sayTens_69 : decode cX8_sayTens 69 = .ok (.ldc2_w 271, 3) := by decide +kernel
theorem dX8_sayTens_72 : decode cX8_sayTens 72 = .ok (.invokevirtual 227, 3) := by decide +kernel
theorem dX8_sayTens_75 : decode cX8_sayTens 75 = .ok (.goto 53, 3) := by decide +kernel
theorem dX8_sayTens_78 : decode cX8_sayTens 78 = .ok (.aload_n 0, 1) := by decide +kernel
theorem dX8_sayTens_79 : decode cX8_sayTens 79 = .ok (.ldc2_w 273, 3) := by decide +kernel
theorem dX8_sayTens_82 : decode cX8_sayTens 82 = .ok (.invokevirtual 227, 3) := by decide +kernel
theorem dX8_sayTens_85 : decode cX8_sayTens 85 = .ok (.goto 43, 3) := by decide +kernel
theorem dX8_sayTens_88 : decode cX8_sayTens 88 = .ok (.aload_n 0, 1) := by decide +kernel
theorem dX8_sayTens_89 : decode cX8_sayTens 89 = .ok (.ldc2_w 275, 3) := by decide +kernel
theorem dX8_sayTens_92 : decode cX8_sayTens 92 = .ok (.invokevirtual 227, 3) := by decide +kernel
theorem dX8_sayTens_95 : decode cX8_sayTens 95 = .ok (.goto 33, 3) := by decide +kernel
theorem dX8_sayTens_98 : decode cX8_sayTens 98 = .ok (.aload_n 0, 1) := by decide +kernel
theorem dX8_sayTens_99 : decode cX8_sayTens 99 = .ok (.ldc2_w 277, 3) := by decide +kernel
theorem dX8_sayTens_102 : decode cX8_sayTens 102 = .ok (.invokevirtual 227, 3) := by decide +kernel
theorem dX8_sayTens_105 : decode cX8_sayTens 105 = .ok (.goto 23, 3) := by decide +kernel
theorem dX8_sayTens_108 : decode cX8_sayTens 108 = .ok (.aload_n 0, 1) := by decide +kernel
theorem dX8_sayTens_109 : decode cX8_sayTens 109 = .ok (.ldc2_w 279, 3) := by decide +kernel
theorem dX8_sayTens_112 : decode cX8_sayTens 112 = .ok (.invokevirtual 227, 3) := by decide +kernel
theorem dX8_sayTens_115 : decode cX8_sayTens 115 = .ok (.goto 13, 3) := by decide +kernel
theorem dX8_sayTens_118 : decode cX8_sayTens 118 = .ok (.aload_n 0, 1) := by decide +kernel
theorem dX8_sayTens_119 : decode cX8_sayTens 119 = .ok (.ldc2_w 281, 3) := by decide +kernel
theorem dX8_sayTens_122 : decode cX8_sayTens 122 = .ok (.invokevirtual 227, 3) := by decide +kernel
theorem dX8_sayTens_125 : decode cX8_sayTens 125 = .ok (.goto 3, 3) := by decide +kernel
theorem dX8_sayTens_128 : decode cX8_sayTens 128 = .ok (.return_, 1) := by decide +kernel
theorem dX8_sayBelow1000_0 : decode cX8_sayBelow1000 0 = .ok (.iload_n 1, 1) := by decide +kernel
theorem dX8_sayBelow1000_1 : decode cX8_sayBelow1000 1 = .ok (.bipush 99, 2) := by decide +kernel
theorem dX8_sayBelow1000_3 : decode cX8_sayBelow1000 3 = .ok (.if_icmp .le 18, 3) := by decide +kernel
theorem dX8_sayBelow1000_6 : decode cX8_sayBelow1000 6 = .ok (.aload_n 0, 1) := by decide +kernel
theorem dX8_sayBelow1000_7 : decode cX8_sayBelow1000 7 = .ok (.iload_n 1, 1) := by decide +kernel
theorem dX8_sayBelow1000_8 : decode cX8_sayBelow1000 8 = .ok (.bipush 100, 2) := by decide +kernel
theorem dX8_sayBelow1000_10 : decode cX8_sayBelow1000 10 = .ok (.idiv, 1) := by decide +kernel
theorem dX8_sayBelow1000_11 : decode cX8_sayBelow1000 11 = .ok (.invokevirtual 283, 3) := by decide +kernel
theorem dX8_sayBelow1000_14 : decode cX8_sayBelow1000 14 = .ok (.aload_n 0, 1) := by decide +kernel
theorem dX8_sayBelow1000_15 : decode cX8_sayBelow1000 15 = .ok (.ldc2_w 286, 3) := by decide +kernel
theorem dX8_sayBelow1000_18 : decode cX8_sayBelow1000 18 = .ok (.invokevirtual 227, 3) := by decide +kernel
theorem dX8_sayBelow1000_21 : decode cX8_sayBelow1000 21 = .ok (.iload_n 1, 1) := by decide +kernel
theorem dX8_sayBelow1000_22 : decode cX8_sayBelow1000 22 = .ok (.bipush 100, 2) := by decide +kernel
theorem dX8_sayBelow1000_24 : decode cX8_sayBelow1000 24 = .ok (.irem, 1) := by decide +kernel
theorem dX8_sayBelow1000_25 : decode cX8_sayBelow1000 25 = .ok (.istore_n 2, 1) := by decide +kernel
theorem dX8_sayBelow1000_26 : decode cX8_sayBelow1000 26 = .ok (.iload_n 2, 1) := by decide +kernel
theorem dX8_sayBelow1000_27 : decode cX8_sayBelow1000 27 = .ok (.bipush 20, 2) := by decide +kernel
theorem dX8_sayBelow1000_29 : decode cX8_sayBelow1000 29 = .ok (.if_icmp .ge 11, 3) := by decide +kernel
theorem dX8_sayBelow1000_32 : decode cX8_sayBelow1000 32 = .ok (.aload_n 0, 1) := by decide +kernel
theorem dX8_sayBelow1000_33 : decode cX8_sayBelow1000 33 = .ok (.iload_n 2, 1) := by decide +kernel
theorem dX8_sayBelow1000_34 : decode cX8_sayBelow1000 34 = .ok (.invokevirtual 283, 3) := by decide +kernel
theorem dX8_sayBelow1000_37 : decode cX8_sayBelow1000 37 = .ok (.goto 19, 3) := by decide +kernel
theorem dX8_sayBelow1000_40 : decode cX8_sayBelow1000 40 = .ok (.aload_n 0, 1) := by decide +kernel
theorem dX8_sayBelow1000_41 : decode cX8_sayBelow1000 41 = .ok (.iload_n 2, 1) := by decide +kernel
theorem dX8_sayBelow1000_42 : decode cX8_sayBelow1000 42 = .ok (.bipush 10, 2) := by decide +kernel
theorem dX8_sayBelow1000_44 : decode cX8_sayBelow1000 44 = .ok (.idiv, 1) := by decide +kernel
theorem dX8_sayBelow1000_45 : decode cX8_sayBelow1000 45 = .ok (.invokevirtual 288, 3) := by decide +kernel
theorem dX8_sayBelow1000_48 : decode cX8_sayBelow1000 48 = .ok (.aload_n 0, 1) := by decide +kernel
theorem dX8_sayBelow1000_49 : decode cX8_sayBelow1000 49 = .ok (.iload_n 2, 1) := by decide +kernel
theorem dX8_sayBelow1000_50 : decode cX8_sayBelow1000 50 = .ok (.bipush 10, 2) := by decide +kernel
theorem dX8_sayBelow1000_52 : decode cX8_sayBelow1000 52 = .ok (.irem, 1) := by decide +kernel
theorem dX8_sayBelow1000_53 : decode cX8_sayBelow1000 53 = .ok (.invokevirtual 283, 3) := by decide +kernel
theorem dX8_sayBelow1000_56 : decode cX8_sayBelow1000 56 = .ok (.return_, 1) := by decide +kernel
theorem dX8_makeWords_0 : decode cX8_makeWords 0 = .ok (.aload_n 0, 1) := by decide +kernel
theorem dX8_makeWords_1 : decode cX8_makeWords 1 = .ok (.iconst 0, 1) := by decide +kernel
theorem dX8_makeWords_2 : decode cX8_makeWords 2 = .ok (.putfield 187, 3) := by decide +kernel
theorem dX8_makeWords_5 : decode cX8_makeWords 5 = .ok (.iload_n 1, 1) := by decide +kernel
theorem dX8_makeWords_6 : decode cX8_makeWords 6 = .ok (.ifCond .ne 10, 3) := by decide +kernel
theorem dX8_makeWords_9 : decode cX8_makeWords 9 = .ok (.aload_n 0, 1) := by decide +kernel
theorem dX8_makeWords_10 : decode cX8_makeWords 10 = .ok (.ldc2_w 291, 3) := by decide +kernel
theorem dX8_makeWords_13 : decode cX8_makeWords 13 = .ok (.invokevirtual 227, 3) := by decide +kernel
theorem dX8_makeWords_16 : decode cX8_makeWords 16 = .ok (.iload_n 1, 1) := by decide +kernel
theorem dX8_makeWords_17 : decode cX8_makeWords 17 = .ok (.ldc_w 293, 3) := by decide +kernel
theorem dX8_makeWords_20 : decode cX8_makeWords 20 = .ok (.if_icmp .le 19, 3) := by decide +kernel
theorem dX8_makeWords_23 : decode cX8_makeWords 23 = .ok (.aload_n 0, 1) := by decide +kernel
theorem dX8_makeWords_24 : decode cX8_makeWords 24 = .ok (.iload_n 1, 1) := by decide +kernel
theorem dX8_makeWords_25 : decode cX8_makeWords 25 = .ok (.ldc_w 294, 3) := by decide +kernel
theorem dX8_makeWords_28 : decode cX8_makeWords 28 = .ok (.idiv, 1) := by decide +kernel
theorem dX8_makeWords_29 : decode cX8_makeWords 29 = .ok (.invokevirtual 295, 3) := by decide +kernel
theorem dX8_makeWords_32 : decode cX8_makeWords 32 = .ok (.aload_n 0, 1) := by decide +kernel
theorem dX8_makeWords_33 : decode cX8_makeWords 33 = .ok (.ldc2_w 298, 3) := by decide +kernel
theorem dX8_makeWords_36 : decode cX8_makeWords 36 = .ok (.invokevirtual 227, 3) := by decide +kernel
theorem dX8_makeWords_39 : decode cX8_makeWords 39 = .ok (.iload_n 1, 1) := by decide +kernel
theorem dX8_makeWords_40 : decode cX8_makeWords 40 = .ok (.sipush 1000, 3) := by decide +kernel
theorem dX8_makeWords_43 : decode cX8_makeWords 43 = .ok (.idiv, 1) := by decide +kernel
theorem dX8_makeWords_44 : decode cX8_makeWords 44 = .ok (.sipush 1000, 3) := by decide +kernel
theorem dX8_makeWords_47 : decode cX8_makeWords 47 = .ok (.irem, 1) := by decide +kernel
theorem dX8_makeWords_48 : decode cX8_makeWords 48 = .ok (.ifCond .le 23, 3) := by decide +kernel
theorem dX8_makeWords_51 : decode cX8_makeWords 51 = .ok (.aload_n 0, 1) := by decide +kernel
theorem dX8_makeWords_52 : decode cX8_makeWords 52 = .ok (.iload_n 1, 1) := by decide +kernel
theorem dX8_makeWords_53 : decode cX8_makeWords 53 = .ok (.sipush 1000, 3) := by decide +kernel
theorem dX8_makeWords_56 : decode cX8_makeWords 56 = .ok (.idiv, 1) := by decide +kernel
theorem dX8_makeWords_57 : decode cX8_makeWords 57 = .ok (.sipush 1000, 3) := by decide +kernel
theorem dX8_makeWords_60 : decode cX8_makeWords 60 = .ok (.irem, 1) := by decide +kernel
theorem dX8_makeWords_61 : decode cX8_makeWords 61 = .ok (.invokevirtual 295, 3) := by decide +kernel
theorem dX8_makeWords_64 : decode cX8_makeWords 64 = .ok (.aload_n 0, 1) := by decide +kernel
theorem dX8_makeWords_65 : decode cX8_makeWords 65 = .ok (.ldc2_w 300, 3) := by decide +kernel
theorem dX8_makeWords_68 : decode cX8_makeWords 68 = .ok (.invokevirtual 227, 3) := by decide +kernel
theorem dX8_makeWords_71 : decode cX8_makeWords 71 = .ok (.aload_n 0, 1) := by decide +kernel
theorem dX8_makeWords_72 : decode cX8_makeWords 72 = .ok (.iload_n 1, 1) := by decide +kernel
theorem dX8_makeWords_73 : decode cX8_makeWords 73 = .ok (.sipush 1000, 3) := by decide +kernel
theorem dX8_makeWords_76 : decode cX8_makeWords 76 = .ok (.irem, 1) := by decide +kernel
theorem dX8_makeWords_77 : decode cX8_makeWords 77 = .ok (.invokevirtual 295, 3) := by decide +kernel
theorem dX8_makeWords_80 : decode cX8_makeWords 80 = .ok (.return_, 1) := by decide +kernel
theorem dX8_words_0 : decode cX8_words 0 = .ok (.aload_n 0, 1) := by decide +kernel
theorem dX8_words_1 : decode cX8_words 1 = .ok (.iconst 0, 1) := by decide +kernel
theorem dX8_words_2 : decode cX8_words 2 = .ok (.putfield 86, 3) := by decide +kernel
theorem dX8_words_5 : decode cX8_words 5 = .ok (.iload_n 1, 1) := by decide +kernel
theorem dX8_words_6 : decode cX8_words 6 = .ok (.iconst 0, 1) := by decide +kernel
theorem dX8_words_7 : decode cX8_words 7 = .ok (.ldc_w 302, 3) := by decide +kernel
theorem dX8_words_10 : decode cX8_words 10 = .ok (.invokestatic 94, 3) := by decide +kernel
theorem dX8_words_13 : decode cX8_words 13 = .ok (.ifCond .ne 5, 3) := by decide +kernel
theorem dX8_words_16 : decode cX8_words 16 = .ok (.iconst (-1), 1) := by decide +kernel
theorem dX8_words_17 : decode cX8_words 17 = .ok (.ireturn, 1) := by decide +kernel
theorem dX8_words_18 : decode cX8_words 18 = .ok (.aload_n 0, 1) := by decide +kernel
theorem dX8_words_19 : decode cX8_words 19 = .ok (.iload_n 1, 1) := by decide +kernel
theorem dX8_words_20 : decode cX8_words 20 = .ok (.invokevirtual 303, 3) := by decide +kernel
theorem dX8_words_23 : decode cX8_words 23 = .ok (.aload_n 0, 1) := by decide +kernel
theorem dX8_words_24 : decode cX8_words 24 = .ok (.invokevirtual 219, 3) := by decide +kernel
theorem dX8_words_27 : decode cX8_words 27 = .ok (.ireturn, 1) := by decide +kernel
end
section
theorem dX8_shown_0 : decode cX8_shown 0 = .ok (.aload_n 0, 1) := by decide +kernel
theorem dX8_shown_1 : decode cX8_shown 1 = .ok (.iconst 0, 1) := by decide +kernel
theorem dX8_shown_2 : decode cX8_shown 2 = .ok (.putfield 86, 3) := by decide +kernel
theorem dX8_shown_5 : decode cX8_shown 5 = .ok (.iload_n 1, 1) := by decide +kernel
theorem dX8_shown_6 : decode cX8_shown 6 = .ok (.iconst 0, 1) := by decide +kernel
theorem dX8_shown_7 : decode cX8_shown 7 = .ok (.aload_n 0, 1) := by decide +kernel
theorem dX8_shown_8 : decode cX8_shown 8 = .ok (.getfield 61, 3) := by decide +kernel
theorem dX8_shown_11 : decode cX8_shown 11 = .ok (.iconst 0, 1) := by decide +kernel
theorem dX8_shown_12 : decode cX8_shown 12 = .ok (.iaload, 1) := by decide +kernel
theorem dX8_shown_13 : decode cX8_shown 13 = .ok (.iconst 1, 1) := by decide +kernel
theorem dX8_shown_14 : decode cX8_shown 14 = .ok (.isub, 1) := by decide +kernel
theorem dX8_shown_15 : decode cX8_shown 15 = .ok (.invokestatic 94, 3) := by decide +kernel
theorem dX8_shown_18 : decode cX8_shown 18 = .ok (.ifCond .eq 12, 3) := by decide +kernel
theorem dX8_shown_21 : decode cX8_shown 21 = .ok (.aload_n 0, 1) := by decide +kernel
theorem dX8_shown_22 : decode cX8_shown 22 = .ok (.getfield 64, 3) := by decide +kernel
theorem dX8_shown_25 : decode cX8_shown 25 = .ok (.iload_n 1, 1) := by decide +kernel
theorem dX8_shown_26 : decode cX8_shown 26 = .ok (.iaload, 1) := by decide +kernel
theorem dX8_shown_27 : decode cX8_shown 27 = .ok (.goto 4, 3) := by decide +kernel
theorem dX8_shown_30 : decode cX8_shown 30 = .ok (.iconst (-1), 1) := by decide +kernel
theorem dX8_shown_31 : decode cX8_shown 31 = .ok (.ireturn, 1) := by decide +kernel
theorem dX8_take_0 : decode cX8_take 0 = .ok (.aload_n 0, 1) := by decide +kernel
theorem dX8_take_1 : decode cX8_take 1 = .ok (.iconst 0, 1) := by decide +kernel
theorem dX8_take_2 : decode cX8_take 2 = .ok (.putfield 86, 3) := by decide +kernel
theorem dX8_take_5 : decode cX8_take 5 = .ok (.aload_n 0, 1) := by decide +kernel
theorem dX8_take_6 : decode cX8_take 6 = .ok (.getfield 61, 3) := by decide +kernel
theorem dX8_take_9 : decode cX8_take 9 = .ok (.iconst 0, 1) := by decide +kernel
theorem dX8_take_10 : decode cX8_take 10 = .ok (.iaload, 1) := by decide +kernel
theorem dX8_take_11 : decode cX8_take 11 = .ok (.ifCond .eq 14, 3) := by decide +kernel
theorem dX8_take_14 : decode cX8_take 14 = .ok (.aload_n 0, 1) := by decide +kernel
theorem dX8_take_15 : decode cX8_take 15 = .ok (.getfield 61, 3) := by decide +kernel
theorem dX8_take_18 : decode cX8_take 18 = .ok (.iconst 0, 1) := by decide +kernel
theorem dX8_take_19 : decode cX8_take 19 = .ok (.iaload, 1) := by decide +kernel
theorem dX8_take_20 : decode cX8_take 20 = .ok (.bipush 60, 2) := by decide +kernel
theorem dX8_take_22 : decode cX8_take 22 = .ok (.if_icmp .le 5, 3) := by decide +kernel
theorem dX8_take_25 : decode cX8_take 25 = .ok (.iconst (-1), 1) := by decide +kernel
theorem dX8_take_26 : decode cX8_take 26 = .ok (.ireturn, 1) := by decide +kernel
theorem dX8_take_27 : decode cX8_take 27 = .ok (.aload_n 0, 1) := by decide +kernel
theorem dX8_take_28 : decode cX8_take 28 = .ok (.getfield 38, 3) := by decide +kernel
theorem dX8_take_31 : decode cX8_take 31 = .ok (.iconst 0, 1) := by decide +kernel
theorem dX8_take_32 : decode cX8_take 32 = .ok (.aload_n 0, 1) := by decide +kernel
theorem dX8_take_33 : decode cX8_take 33 = .ok (.getfield 61, 3) := by decide +kernel
theorem dX8_take_36 : decode cX8_take 36 = .ok (.iconst 0, 1) := by decide +kernel
theorem dX8_take_37 : decode cX8_take 37 = .ok (.iaload, 1) := by decide +kernel
theorem dX8_take_38 : decode cX8_take 38 = .ok (.iastore, 1) := by decide +kernel
theorem dX8_take_39 : decode cX8_take 39 = .ok (.iconst 0, 1) := by decide +kernel
theorem dX8_take_40 : decode cX8_take 40 = .ok (.istore_n 1, 1) := by decide +kernel
theorem dX8_take_41 : decode cX8_take 41 = .ok (.iload_n 1, 1) := by decide +kernel
theorem dX8_take_42 : decode cX8_take 42 = .ok (.aload_n 0, 1) := by decide +kernel
theorem dX8_take_43 : decode cX8_take 43 = .ok (.getfield 38, 3) := by decide +kernel
theorem dX8_take_46 : decode cX8_take 46 = .ok (.iconst 0, 1) := by decide +kernel
theorem dX8_take_47 : decode cX8_take 47 = .ok (.iaload, 1) := by decide +kernel
theorem dX8_take_48 : decode cX8_take 48 = .ok (.if_icmp .ge 21, 3) := by decide +kernel
theorem dX8_take_51 : decode cX8_take 51 = .ok (.aload_n 0, 1) := by decide +kernel
theorem dX8_take_52 : decode cX8_take 52 = .ok (.getfield 41, 3) := by decide +kernel
theorem dX8_take_55 : decode cX8_take 55 = .ok (.iload_n 1, 1) := by decide +kernel
theorem dX8_take_56 : decode cX8_take 56 = .ok (.aload_n 0, 1) := by decide +kernel
theorem dX8_take_57 : decode cX8_take 57 = .ok (.getfield 64, 3) := by decide +kernel
theorem dX8_take_60 : decode cX8_take 60 = .ok (.iload_n 1, 1) := by decide +kernel
theorem dX8_take_61 : decode cX8_take 61 = .ok (.iaload, 1) := by decide +kernel
theorem dX8_take_62 : decode cX8_take 62 = .ok (.iastore, 1) := by decide +kernel
theorem dX8_take_63 : decode cX8_take 63 = .ok (.iinc 1 1, 3) := by decide +kernel
theorem dX8_take_66 : decode cX8_take 66 = .ok (.goto (-25), 3) := by decide +kernel
theorem dX8_take_69 : decode cX8_take 69 = .ok (.aload_n 0, 1) := by decide +kernel
theorem dX8_take_70 : decode cX8_take 70 = .ok (.getfield 38, 3) := by decide +kernel
theorem dX8_take_73 : decode cX8_take 73 = .ok (.iconst 0, 1) := by decide +kernel
theorem dX8_take_74 : decode cX8_take 74 = .ok (.iaload, 1) := by decide +kernel
theorem dX8_take_75 : decode cX8_take 75 = .ok (.ireturn, 1) := by decide +kernel
theorem dX8_isAt_0 : decode cX8_isAt 0 = .ok (.iload_n 1, 1) := by decide +kernel
theorem dX8_isAt_1 : decode cX8_isAt 1 = .ok (.aload_n 0, 1) := by decide +kernel
theorem dX8_isAt_2 : decode cX8_isAt 2 = .ok (.getfield 187, 3) := by decide +kernel
theorem dX8_isAt_5 : decode cX8_isAt 5 = .ok (.iadd, 1) := by decide +kernel
theorem dX8_isAt_6 : decode cX8_isAt 6 = .ok (.aload_n 0, 1) := by decide +kernel
theorem dX8_isAt_7 : decode cX8_isAt 7 = .ok (.getfield 38, 3) := by decide +kernel
theorem dX8_isAt_10 : decode cX8_isAt 10 = .ok (.iconst 0, 1) := by decide +kernel
theorem dX8_isAt_11 : decode cX8_isAt 11 = .ok (.iaload, 1) := by decide +kernel
theorem dX8_isAt_12 : decode cX8_isAt 12 = .ok (.if_icmp .le 5, 3) := by decide +kernel
theorem dX8_isAt_15 : decode cX8_isAt 15 = .ok (.iconst 0, 1) := by decide +kernel
theorem dX8_isAt_16 : decode cX8_isAt 16 = .ok (.ireturn, 1) := by decide +kernel
theorem dX8_isAt_17 : decode cX8_isAt 17 = .ok (.iconst 0, 1) := by decide +kernel
theorem dX8_isAt_18 : decode cX8_isAt 18 = .ok (.istore_n 2, 1) := by decide +kernel
theorem dX8_isAt_19 : decode cX8_isAt 19 = .ok (.iload_n 2, 1) := by decide +kernel
theorem dX8_isAt_20 : decode cX8_isAt 20 = .ok (.aload_n 0, 1) := by decide +kernel
theorem dX8_isAt_21 : decode cX8_isAt 21 = .ok (.getfield 187, 3) := by decide +kernel
theorem dX8_isAt_24 : decode cX8_isAt 24 = .ok (.if_icmp .ge 28, 3) := by decide +kernel
theorem dX8_isAt_27 : decode cX8_isAt 27 = .ok (.aload_n 0, 1) := by decide +kernel
theorem dX8_isAt_28 : decode cX8_isAt 28 = .ok (.getfield 41, 3) := by decide +kernel
theorem dX8_isAt_31 : decode cX8_isAt 31 = .ok (.iload_n 1, 1) := by decide +kernel
theorem dX8_isAt_32 : decode cX8_isAt 32 = .ok (.iload_n 2, 1) := by decide +kernel
theorem dX8_isAt_33 : decode cX8_isAt 33 = .ok (.iadd, 1) := by decide +kernel
theorem dX8_isAt_34 : decode cX8_isAt 34 = .ok (.iaload, 1) := by decide +kernel
theorem dX8_isAt_35 : decode cX8_isAt 35 = .ok (.aload_n 0, 1) := by decide +kernel
theorem dX8_isAt_36 : decode cX8_isAt 36 = .ok (.getfield 76, 3) := by decide +kernel
theorem dX8_isAt_39 : decode cX8_isAt 39 = .ok (.iload_n 2, 1) := by decide +kernel
theorem dX8_isAt_40 : decode cX8_isAt 40 = .ok (.iaload, 1) := by decide +kernel
theorem dX8_isAt_41 : decode cX8_isAt 41 = .ok (.if_icmp .eq 5, 3) := by decide +kernel
theorem dX8_isAt_44 : decode cX8_isAt 44 = .ok (.iconst 0, 1) := by decide +kernel
theorem dX8_isAt_45 : decode cX8_isAt 45 = .ok (.ireturn, 1) := by decide +kernel
theorem dX8_isAt_46 : decode cX8_isAt 46 = .ok (.iinc 2 1, 3) := by decide +kernel
theorem dX8_isAt_49 : decode cX8_isAt 49 = .ok (.goto (-30), 3) := by decide +kernel
theorem dX8_isAt_52 : decode cX8_isAt 52 = .ok (.iload_n 1, 1) := by decide +kernel
theorem dX8_isAt_53 : decode cX8_isAt 53 = .ok (.aload_n 0, 1) := by decide +kernel
theorem dX8_isAt_54 : decode cX8_isAt 54 = .ok (.getfield 187, 3) := by decide +kernel
theorem dX8_isAt_57 : decode cX8_isAt 57 = .ok (.iadd, 1) := by decide +kernel
theorem dX8_isAt_58 : decode cX8_isAt 58 = .ok (.aload_n 0, 1) := by decide +kernel
theorem dX8_isAt_59 : decode cX8_isAt 59 = .ok (.getfield 38, 3) := by decide +kernel
theorem dX8_isAt_62 : decode cX8_isAt 62 = .ok (.iconst 0, 1) := by decide +kernel
theorem dX8_isAt_63 : decode cX8_isAt 63 = .ok (.iaload, 1) := by decide +kernel
theorem dX8_isAt_64 : decode cX8_isAt 64 = .ok (.if_icmp .eq 19, 3) := by decide +kernel
theorem dX8_isAt_67 : decode cX8_isAt 67 = .ok (.aload_n 0, 1) := by decide +kernel
theorem dX8_isAt_68 : decode cX8_isAt 68 = .ok (.getfield 41, 3) := by decide +kernel
theorem dX8_isAt_71 : decode cX8_isAt 71 = .ok (.iload_n 1, 1) := by decide +kernel
theorem dX8_isAt_72 : decode cX8_isAt 72 = .ok (.aload_n 0, 1) := by decide +kernel
theorem dX8_isAt_73 : decode cX8_isAt 73 = .ok (.getfield 187, 3) := by decide +kernel
theorem dX8_isAt_76 : decode cX8_isAt 76 = .ok (.iadd, 1) := by decide +kernel
theorem dX8_isAt_77 : decode cX8_isAt 77 = .ok (.iaload, 1) := by decide +kernel
theorem dX8_isAt_78 : decode cX8_isAt 78 = .ok (.bipush 32, 2) := by decide +kernel
theorem dX8_isAt_80 : decode cX8_isAt 80 = .ok (.if_icmp .ne 7, 3) := by decide +kernel
theorem dX8_isAt_83 : decode cX8_isAt 83 = .ok (.iconst 1, 1) := by decide +kernel
theorem dX8_isAt_84 : decode cX8_isAt 84 = .ok (.goto 4, 3) := by decide +kernel
theorem dX8_isAt_87 : decode cX8_isAt 87 = .ok (.iconst 0, 1) := by decide +kernel
theorem dX8_isAt_88 : decode cX8_isAt 88 = .ok (.ireturn, 1) := by decide +kernel
theorem dX8_below1000At_0 : decode cX8_below1000At 0 = .ok (.iconst 0, 1) := by decide +kernel
theorem dX8_below1000At_1 : decode cX8_below1000At 1 = .ok (.istore_n 2, 1) := by decide +kernel
theorem dX8_below1000At_2 : decode cX8_below1000At 2 = .ok (.iconst 0, 1) := by decide +kernel
theorem dX8_below1000At_3 : decode cX8_below1000At 3 = .ok (.istore_n 3, 1) := by decide +kernel
theorem dX8_below1000At_4 : decode cX8_below1000At 4 = .ok (.iconst 1, 1) := by decide +kernel
theorem dX8_below1000At_5 : decode cX8_below1000At 5 = .ok (.istore 4, 2) := by decide +kernel
theorem dX8_below1000At_7 : decode cX8_below1000At 7 = .ok (.iload 4, 2) := by decide +kernel
theorem dX8_below1000At_9 : decode cX8_below1000At 9 = .ok (.sipush 1000, 3) := by decide +kernel
theorem dX8_below1000At_12 : decode cX8_below1000At 12 = .ok (.if_icmp .ge 44, 3) := by decide +kernel
theorem dX8_below1000At_15 : decode cX8_below1000At 15 = .ok (.aload_n 0, 1) := by decide +kernel
theorem dX8_below1000At_16 : decode cX8_below1000At 16 = .ok (.iconst 0, 1) := by decide +kernel
theorem dX8_below1000At_17 : decode cX8_below1000At 17 = .ok (.putfield 187, 3) := by decide +kernel
theorem dX8_below1000At_20 : decode cX8_below1000At 20 = .ok (.aload_n 0, 1) := by decide +kernel
theorem dX8_below1000At_21 : decode cX8_below1000At 21 = .ok (.iload 4, 2) := by decide +kernel
theorem dX8_below1000At_23 : decode cX8_below1000At 23 = .ok (.invokevirtual 295, 3) := by decide +kernel
theorem dX8_below1000At_26 : decode cX8_below1000At 26 = .ok (.aload_n 0, 1) := by decide +kernel
theorem dX8_below1000At_27 : decode cX8_below1000At 27 = .ok (.getfield 187, 3) := by decide +kernel
theorem dX8_below1000At_30 : decode cX8_below1000At 30 = .ok (.iload_n 3, 1) := by decide +kernel
theorem dX8_below1000At_31 : decode cX8_below1000At 31 = .ok (.if_icmp .le 19, 3) := by decide +kernel
theorem dX8_below1000At_34 : decode cX8_below1000At 34 = .ok (.aload_n 0, 1) := by decide +kernel
theorem dX8_below1000At_35 : decode cX8_below1000At 35 = .ok (.iload_n 1, 1) := by decide +kernel
theorem dX8_below1000At_36 : decode cX8_below1000At 36 = .ok (.invokevirtual 306, 3) := by decide +kernel
theorem dX8_below1000At_39 : decode cX8_below1000At 39 = .ok (.ifCond .eq 11, 3) := by decide +kernel
theorem dX8_below1000At_42 : decode cX8_below1000At 42 = .ok (.iload 4, 2) := by decide +kernel
theorem dX8_below1000At_44 : decode cX8_below1000At 44 = .ok (.istore_n 2, 1) := by decide +kernel
theorem dX8_below1000At_45 : decode cX8_below1000At 45 = .ok (.aload_n 0, 1) := by decide +kernel
theorem dX8_below1000At_46 : decode cX8_below1000At 46 = .ok (.getfield 187, 3) := by decide +kernel
theorem dX8_below1000At_49 : decode cX8_below1000At 49 = .ok (.istore_n 3, 1) := by decide +kernel
theorem dX8_below1000At_50 : decode cX8_below1000At 50 = .ok (.iinc 4 1, 3) := by decide +kernel
theorem dX8_below1000At_53 : decode cX8_below1000At 53 = .ok (.goto (-46), 3) := by decide +kernel
theorem dX8_below1000At_56 : decode cX8_below1000At 56 = .ok (.aload_n 0, 1) := by decide +kernel
theorem dX8_below1000At_57 : decode cX8_below1000At 57 = .ok (.iload_n 1, 1) := by decide +kernel
theorem dX8_below1000At_58 : decode cX8_below1000At 58 = .ok (.iload_n 3, 1) := by decide +kernel
theorem dX8_below1000At_59 : decode cX8_below1000At 59 = .ok (.iadd, 1) := by decide +kernel
theorem dX8_below1000At_60 : decode cX8_below1000At 60 = .ok (.putfield 309, 3) := by decide +kernel
theorem dX8_below1000At_63 : decode cX8_below1000At 63 = .ok (.iload_n 2, 1) := by decide +kernel
theorem dX8_below1000At_64 : decode cX8_below1000At 64 = .ok (.ireturn, 1) := by decide +kernel
theorem dX8_wordAt_0 : decode cX8_wordAt 0 = .ok (.aload_n 0, 1) := by decide +kernel
theorem dX8_wordAt_1 : decode cX8_wordAt 1 = .ok (.iconst 0, 1) := by decide +kernel
theorem dX8_wordAt_2 : decode cX8_wordAt 2 = .ok (.putfield 187, 3) := by decide +kernel
theorem dX8_wordAt_5 : decode cX8_wordAt 5 = .ok (.aload_n 0, 1) := by decide +kernel
theorem dX8_wordAt_6 : decode cX8_wordAt 6 = .ok (.lload_n 2, 1) := by decide +kernel
theorem dX8_wordAt_7 : decode cX8_wordAt 7 = .ok (.invokevirtual 227, 3) := by decide +kernel
theorem dX8_wordAt_10 : decode cX8_wordAt 10 = .ok (.aload_n 0, 1) := by decide +kernel
theorem dX8_wordAt_11 : decode cX8_wordAt 11 = .ok (.iload_n 1, 1) := by decide +kernel
theorem dX8_wordAt_12 : decode cX8_wordAt 12 = .ok (.invokevirtual 306, 3) := by decide +kernel
theorem dX8_wordAt_15 : decode cX8_wordAt 15 = .ok (.ireturn, 1) := by decide +kernel
theorem dX8_spoken_0 : decode cX8_spoken 0 = .ok (.aload_n 0, 1) := by decide +kernel
theorem dX8_spoken_1 : decode cX8_spoken 1 = .ok (.iconst 0, 1) := by decide +kernel
theorem dX8_spoken_2 : decode cX8_spoken 2 = .ok (.putfield 86, 3) := by decide +kernel
theorem dX8_spoken_5 : decode cX8_spoken 5 = .ok (.aload_n 0, 1) := by decide +kernel
theorem dX8_spoken_6 : decode cX8_spoken 6 = .ok (.getfield 38, 3) := by decide +kernel
theorem dX8_spoken_9 : decode cX8_spoken 9 = .ok (.iconst 0, 1) := by decide +kernel
theorem dX8_spoken_10 : decode cX8_spoken 10 = .ok (.iaload, 1) := by decide +kernel
theorem dX8_spoken_11 : decode cX8_spoken 11 = .ok (.ifCond .ne 5, 3) := by decide +kernel
theorem dX8_spoken_14 : decode cX8_spoken 14 = .ok (.iconst (-1), 1) := by decide +kernel
theorem dX8_spoken_15 : decode cX8_spoken 15 = .ok (.ireturn, 1) := by decide +kernel
theorem dX8_spoken_16 : decode cX8_spoken 16 = .ok (.iconst 0, 1) := by decide +kernel
theorem dX8_spoken_17 : decode cX8_spoken 17 = .ok (.istore_n 1, 1) := by decide +kernel
theorem dX8_spoken_18 : decode cX8_spoken 18 = .ok (.iconst 0, 1) := by decide +kernel
theorem dX8_spoken_19 : decode cX8_spoken 19 = .ok (.istore_n 2, 1) := by decide +kernel
theorem dX8_spoken_20 : decode cX8_spoken 20 = .ok (.iconst 0, 1) := by decide +kernel
theorem dX8_spoken_21 : decode cX8_spoken 21 = .ok (.istore_n 3, 1) := by decide +kernel
theorem dX8_spoken_22 : decode cX8_spoken 22 = .ok (.iconst 0, 1) := by decide +kernel
theorem dX8_spoken_23 : decode cX8_spoken 23 = .ok (.istore 4, 2) := by decide +kernel
theorem dX8_spoken_25 : decode cX8_spoken 25 = .ok (.iconst 0, 1) := by decide +kernel
theorem dX8_spoken_26 : decode cX8_spoken 26 = .ok (.istore 5, 2) := by decide +kernel
theorem dX8_spoken_28 : decode cX8_spoken 28 = .ok (.iconst 0, 1) := by decide +kernel
theorem dX8_spoken_29 : decode cX8_spoken 29 = .ok (.istore 6, 2) := by decide +kernel
theorem dX8_spoken_31 : decode cX8_spoken 31 = .ok (.iload 6, 2) := by decide +kernel
theorem dX8_spoken_33 : decode cX8_spoken 33 = .ok (.iconst 3, 1) := by decide +kernel
theorem dX8_spoken_34 : decode cX8_spoken 34 = .ok (.if_icmp .ge 124, 3) := by decide +kernel
theorem dX8_spoken_37 : decode cX8_spoken 37 = .ok (.iload_n 1, 1) := by decide +kernel
theorem dX8_spoken_38 : decode cX8_spoken 38 = .ok (.aload_n 0, 1) := by decide +kernel
theorem dX8_spoken_39 : decode cX8_spoken 39 = .ok (.getfield 38, 3) := by decide +kernel
theorem dX8_spoken_42 : decode cX8_spoken 42 = .ok (.iconst 0, 1) := by decide +kernel
theorem dX8_spoken_43 : decode cX8_spoken 43 = .ok (.iaload, 1) := by decide +kernel
theorem dX8_spoken_44 : decode cX8_spoken 44 = .ok (.if_icmp .ge 114, 3) := by decide +kernel
theorem dX8_spoken_47 : decode cX8_spoken 47 = .ok (.aload_n 0, 1) := by decide +kernel
theorem dX8_spoken_48 : decode cX8_spoken 48 = .ok (.iload_n 1, 1) := by decide +kernel
theorem dX8_spoken_49 : decode cX8_spoken 49 = .ok (.invokevirtual 312, 3) := by decide +kernel
theorem dX8_spoken_52 : decode cX8_spoken 52 = .ok (.istore 7, 2) := by decide +kernel
theorem dX8_spoken_54 : decode cX8_spoken 54 = .ok (.aload_n 0, 1) := by decide +kernel
theorem dX8_spoken_55 : decode cX8_spoken 55 = .ok (.getfield 309, 3) := by decide +kernel
theorem dX8_spoken_58 : decode cX8_spoken 58 = .ok (.iconst 1, 1) := by decide +kernel
theorem dX8_spoken_59 : decode cX8_spoken 59 = .ok (.iadd, 1) := by decide +kernel
theorem dX8_spoken_60 : decode cX8_spoken 60 = .ok (.istore 8, 2) := by decide +kernel
theorem dX8_spoken_62 : decode cX8_spoken 62 = .ok (.iload 7, 2) := by decide +kernel
theorem dX8_spoken_64 : decode cX8_spoken 64 = .ok (.ifCond .ne 6, 3) := by decide +kernel
theorem dX8_spoken_67 : decode cX8_spoken 67 = .ok (.goto 91, 3) := by decide +kernel
theorem dX8_spoken_70 : decode cX8_spoken 70 = .ok (.iload 8, 2) := by decide +kernel
theorem dX8_spoken_72 : decode cX8_spoken 72 = .ok (.aload_n 0, 1) := by decide +kernel
theorem dX8_spoken_73 : decode cX8_spoken 73 = .ok (.getfield 38, 3) := by decide +kernel
theorem dX8_spoken_76 : decode cX8_spoken 76 = .ok (.iconst 0, 1) := by decide +kernel
theorem dX8_spoken_77 : decode cX8_spoken 77 = .ok (.iaload, 1) := by decide +kernel
theorem dX8_spoken_78 : decode cX8_spoken 78 = .ok (.if_icmp .ge 27, 3) := by decide +kernel
theorem dX8_spoken_81 : decode cX8_spoken 81 = .ok (.aload_n 0, 1) := by decide +kernel
theorem dX8_spoken_82 : decode cX8_spoken 82 = .ok (.iload 8, 2) := by decide +kernel
theorem dX8_spoken_84 : decode cX8_spoken 84 = .ok (.ldc2_w 298, 3) := by decide +kernel
theorem dX8_spoken_87 : decode cX8_spoken 87 = .ok (.invokevirtual 315, 3) := by decide +kernel
theorem dX8_spoken_90 : decode cX8_spoken 90 = .ok (.ifCond .eq 15, 3) := by decide +kernel
theorem dX8_spoken_93 : decode cX8_spoken 93 = .ok (.iload 7, 2) := by decide +kernel
theorem dX8_spoken_95 : decode cX8_spoken 95 = .ok (.istore_n 3, 1) := by decide +kernel
theorem dX8_spoken_96 : decode cX8_spoken 96 = .ok (.iload 8, 2) := by decide +kernel
theorem dX8_spoken_98 : decode cX8_spoken 98 = .ok (.bipush 8, 2) := by decide +kernel
theorem dX8_spoken_100 : decode cX8_spoken 100 = .ok (.iadd, 1) := by decide +kernel
theorem dX8_spoken_101 : decode cX8_spoken 101 = .ok (.istore_n 1, 1) := by decide +kernel
theorem dX8_spoken_102 : decode cX8_spoken 102 = .ok (.goto 50, 3) := by decide +kernel
theorem dX8_spoken_105 : decode cX8_spoken 105 = .ok (.iload 8, 2) := by decide +kernel
theorem dX8_spoken_107 : decode cX8_spoken 107 = .ok (.aload_n 0, 1) := by decide +kernel
theorem dX8_spoken_108 : decode cX8_spoken 108 = .ok (.getfield 38, 3) := by decide +kernel
theorem dX8_spoken_111 : decode cX8_spoken 111 = .ok (.iconst 0, 1) := by decide +kernel
theorem dX8_spoken_112 : decode cX8_spoken 112 = .ok (.iaload, 1) := by decide +kernel
theorem dX8_spoken_113 : decode cX8_spoken 113 = .ok (.if_icmp .ge 28, 3) := by decide +kernel
theorem dX8_spoken_116 : decode cX8_spoken 116 = .ok (.aload_n 0, 1) := by decide +kernel
theorem dX8_spoken_117 : decode cX8_spoken 117 = .ok (.iload 8, 2) := by decide +kernel
theorem dX8_spoken_119 : decode cX8_spoken 119 = .ok (.ldc2_w 300, 3) := by decide +kernel
theorem dX8_spoken_122 : decode cX8_spoken 122 = .ok (.invokevirtual 315, 3) := by decide +kernel
theorem dX8_spoken_125 : decode cX8_spoken 125 = .ok (.ifCond .eq 16, 3) := by decide +kernel
theorem dX8_spoken_128 : decode cX8_spoken 128 = .ok (.iload 7, 2) := by decide +kernel
theorem dX8_spoken_130 : decode cX8_spoken 130 = .ok (.istore 4, 2) := by decide +kernel
theorem dX8_spoken_132 : decode cX8_spoken 132 = .ok (.iload 8, 2) := by decide +kernel
theorem dX8_spoken_134 : decode cX8_spoken 134 = .ok (.bipush 9, 2) := by decide +kernel
theorem dX8_spoken_136 : decode cX8_spoken 136 = .ok (.iadd, 1) := by decide +kernel
theorem dX8_spoken_137 : decode cX8_spoken 137 = .ok (.istore_n 1, 1) := by decide +kernel
theorem dX8_spoken_138 : decode cX8_spoken 138 = .ok (.goto 14, 3) := by decide +kernel
theorem dX8_spoken_141 : decode cX8_spoken 141 = .ok (.iload 7, 2) := by decide +kernel
theorem dX8_spoken_143 : decode cX8_spoken 143 = .ok (.istore 5, 2) := by decide +kernel
theorem dX8_spoken_145 : decode cX8_spoken 145 = .ok (.aload_n 0, 1) := by decide +kernel
theorem dX8_spoken_146 : decode cX8_spoken 146 = .ok (.getfield 38, 3) := by decide +kernel
theorem dX8_spoken_149 : decode cX8_spoken 149 = .ok (.iconst 0, 1) := by decide +kernel
theorem dX8_spoken_150 : decode cX8_spoken 150 = .ok (.iaload, 1) := by decide +kernel
theorem dX8_spoken_151 : decode cX8_spoken 151 = .ok (.istore_n 1, 1) := by decide +kernel
theorem dX8_spoken_152 : decode cX8_spoken 152 = .ok (.iinc 6 1, 3) := by decide +kernel
theorem dX8_spoken_155 : decode cX8_spoken 155 = .ok (.goto (-124), 3) := by decide +kernel
theorem dX8_spoken_158 : decode cX8_spoken 158 = .ok (.ldc_w 294, 3) := by decide +kernel
theorem dX8_spoken_161 : decode cX8_spoken 161 = .ok (.iload_n 3, 1) := by decide +kernel
theorem dX8_spoken_162 : decode cX8_spoken 162 = .ok (.imul, 1) := by decide +kernel
theorem dX8_spoken_163 : decode cX8_spoken 163 = .ok (.sipush 1000, 3) := by decide +kernel
theorem dX8_spoken_166 : decode cX8_spoken 166 = .ok (.iload 4, 2) := by decide +kernel
theorem dX8_spoken_168 : decode cX8_spoken 168 = .ok (.imul, 1) := by decide +kernel
theorem dX8_spoken_169 : decode cX8_spoken 169 = .ok (.iadd, 1) := by decide +kernel
theorem dX8_spoken_170 : decode cX8_spoken 170 = .ok (.iload 5, 2) := by decide +kernel
theorem dX8_spoken_172 : decode cX8_spoken 172 = .ok (.iadd, 1) := by decide +kernel
theorem dX8_spoken_173 : decode cX8_spoken 173 = .ok (.istore_n 2, 1) := by decide +kernel
theorem dX8_spoken_174 : decode cX8_spoken 174 = .ok (.aload_n 0, 1) := by decide +kernel
theorem dX8_spoken_175 : decode cX8_spoken 175 = .ok (.iload_n 2, 1) := by decide +kernel
theorem dX8_spoken_176 : decode cX8_spoken 176 = .ok (.invokevirtual 303, 3) := by decide +kernel
theorem dX8_spoken_179 : decode cX8_spoken 179 = .ok (.aload_n 0, 1) := by decide +kernel
theorem dX8_spoken_180 : decode cX8_spoken 180 = .ok (.getfield 187, 3) := by decide +kernel
theorem dX8_spoken_183 : decode cX8_spoken 183 = .ok (.aload_n 0, 1) := by decide +kernel
theorem dX8_spoken_184 : decode cX8_spoken 184 = .ok (.getfield 38, 3) := by decide +kernel
theorem dX8_spoken_187 : decode cX8_spoken 187 = .ok (.iconst 0, 1) := by decide +kernel
theorem dX8_spoken_188 : decode cX8_spoken 188 = .ok (.iaload, 1) := by decide +kernel
theorem dX8_spoken_189 : decode cX8_spoken 189 = .ok (.if_icmp .ne 15, 3) := by decide +kernel
theorem dX8_spoken_192 : decode cX8_spoken 192 = .ok (.aload_n 0, 1) := by decide +kernel
theorem dX8_spoken_193 : decode cX8_spoken 193 = .ok (.iconst 0, 1) := by decide +kernel
theorem dX8_spoken_194 : decode cX8_spoken 194 = .ok (.invokevirtual 306, 3) := by decide +kernel
theorem dX8_spoken_197 : decode cX8_spoken 197 = .ok (.ifCond .eq 7, 3) := by decide +kernel
theorem dX8_spoken_200 : decode cX8_spoken 200 = .ok (.iload_n 2, 1) := by decide +kernel
theorem dX8_spoken_201 : decode cX8_spoken 201 = .ok (.goto 4, 3) := by decide +kernel
theorem dX8_spoken_204 : decode cX8_spoken 204 = .ok (.iconst (-1), 1) := by decide +kernel
theorem dX8_spoken_205 : decode cX8_spoken 205 = .ok (.ireturn, 1) := by decide +kernel
theorem dX8_other_0 : decode cX8_other 0 = .ok (.aload_n 0, 1) := by decide +kernel
theorem dX8_other_1 : decode cX8_other 1 = .ok (.iconst 0, 1) := by decide +kernel
theorem dX8_other_2 : decode cX8_other 2 = .ok (.putfield 86, 3) := by decide +kernel
theorem dX8_other_5 : decode cX8_other 5 = .ok (.aload_n 0, 1) := by decide +kernel
theorem dX8_other_6 : decode cX8_other 6 = .ok (.iload_n 2, 1) := by decide +kernel
theorem dX8_other_7 : decode cX8_other 7 = .ok (.invokevirtual 178, 3) := by decide +kernel
theorem dX8_other_10 : decode cX8_other 10 = .ok (.ifCond .eq 16, 3) := by decide +kernel
theorem dX8_other_13 : decode cX8_other 13 = .ok (.aload_n 0, 1) := by decide +kernel
theorem dX8_other_14 : decode cX8_other 14 = .ok (.iload_n 1, 1) := by decide +kernel
theorem dX8_other_15 : decode cX8_other 15 = .ok (.iload_n 3, 1) := by decide +kernel
theorem dX8_other_16 : decode cX8_other 16 = .ok (.lload 4, 2) := by decide +kernel
theorem dX8_other_18 : decode cX8_other 18 = .ok (.iload 6, 2) := by decide +kernel
theorem dX8_other_20 : decode cX8_other 20 = .ok (.invokevirtual 216, 3) := by decide +kernel
theorem dX8_other_23 : decode cX8_other 23 = .ok (.ifCond .ne 7, 3) := by decide +kernel
theorem dX8_other_26 : decode cX8_other 26 = .ok (.ldc2_w 82, 3) := by decide +kernel
theorem dX8_other_29 : decode cX8_other 29 = .ok (.lreturn, 1) := by decide +kernel
theorem dX8_other_30 : decode cX8_other 30 = .ok (.aload_n 0, 1) := by decide +kernel
theorem dX8_other_31 : decode cX8_other 31 = .ok (.aload_n 0, 1) := by decide +kernel
theorem dX8_other_32 : decode cX8_other 32 = .ok (.getfield 187, 3) := by decide +kernel
theorem dX8_other_35 : decode cX8_other 35 = .ok (.putfield 98, 3) := by decide +kernel
theorem dX8_other_38 : decode cX8_other 38 = .ok (.iconst 0, 1) := by decide +kernel
theorem dX8_other_39 : decode cX8_other 39 = .ok (.istore 7, 2) := by decide +kernel
theorem dX8_other_41 : decode cX8_other 41 = .ok (.iload 7, 2) := by decide +kernel
theorem dX8_other_43 : decode cX8_other 43 = .ok (.aload_n 0, 1) := by decide +kernel
theorem dX8_other_44 : decode cX8_other 44 = .ok (.getfield 187, 3) := by decide +kernel
theorem dX8_other_47 : decode cX8_other 47 = .ok (.if_icmp .ge 23, 3) := by decide +kernel
theorem dX8_other_50 : decode cX8_other 50 = .ok (.aload_n 0, 1) := by decide +kernel
theorem dX8_other_51 : decode cX8_other 51 = .ok (.getfield 67, 3) := by decide +kernel
theorem dX8_other_54 : decode cX8_other 54 = .ok (.iload 7, 2) := by decide +kernel
theorem dX8_other_56 : decode cX8_other 56 = .ok (.aload_n 0, 1) := by decide +kernel
theorem dX8_other_57 : decode cX8_other 57 = .ok (.getfield 76, 3) := by decide +kernel
theorem dX8_other_60 : decode cX8_other 60 = .ok (.iload 7, 2) := by decide +kernel
theorem dX8_other_62 : decode cX8_other 62 = .ok (.iaload, 1) := by decide +kernel
theorem dX8_other_63 : decode cX8_other 63 = .ok (.iastore, 1) := by decide +kernel
theorem dX8_other_64 : decode cX8_other 64 = .ok (.iinc 7 1, 3) := by decide +kernel
theorem dX8_other_67 : decode cX8_other 67 = .ok (.goto (-26), 3) := by decide +kernel
theorem dX8_other_70 : decode cX8_other 70 = .ok (.aload_n 0, 1) := by decide +kernel
theorem dX8_other_71 : decode cX8_other 71 = .ok (.iload_n 2, 1) := by decide +kernel
theorem dX8_other_72 : decode cX8_other 72 = .ok (.iload_n 3, 1) := by decide +kernel
theorem dX8_other_73 : decode cX8_other 73 = .ok (.aload_n 0, 1) := by decide +kernel
theorem dX8_other_74 : decode cX8_other 74 = .ok (.getfield 98, 3) := by decide +kernel
theorem dX8_other_77 : decode cX8_other 77 = .ok (.invokevirtual 175, 3) := by decide +kernel
theorem dX8_other_80 : decode cX8_other 80 = .ok (.iconst 2, 1) := by decide +kernel
theorem dX8_other_81 : decode cX8_other 81 = .ok (.if_icmp .ne 10, 3) := by decide +kernel
theorem dX8_other_84 : decode cX8_other 84 = .ok (.aload_n 0, 1) := by decide +kernel
theorem dX8_other_85 : decode cX8_other 85 = .ok (.getfield 124, 3) := by decide +kernel
theorem dX8_other_88 : decode cX8_other 88 = .ok (.goto 6, 3) := by decide +kernel
theorem dX8_other_91 : decode cX8_other 91 = .ok (.ldc2_w 82, 3) := by decide +kernel
theorem dX8_other_94 : decode cX8_other 94 = .ok (.lreturn, 1) := by decide +kernel
theorem dX8_row_0 : decode cX8_row 0 = .ok (.aload_n 0, 1) := by decide +kernel
theorem dX8_row_1 : decode cX8_row 1 = .ok (.iconst 0, 1) := by decide +kernel
theorem dX8_row_2 : decode cX8_row 2 = .ok (.putfield 86, 3) := by decide +kernel
theorem dX8_row_5 : decode cX8_row 5 = .ok (.aload_n 0, 1) := by decide +kernel
theorem dX8_row_6 : decode cX8_row 6 = .ok (.getfield 51, 3) := by decide +kernel
theorem dX8_row_9 : decode cX8_row 9 = .ok (.iconst 0, 1) := by decide +kernel
theorem dX8_row_10 : decode cX8_row 10 = .ok (.iaload, 1) := by decide +kernel
theorem dX8_row_11 : decode cX8_row 11 = .ok (.bipush 30, 2) := by decide +kernel
theorem dX8_row_13 : decode cX8_row 13 = .ok (.if_icmp .ne 5, 3) := by decide +kernel
theorem dX8_row_16 : decode cX8_row 16 = .ok (.iconst (-1), 1) := by decide +kernel
theorem dX8_row_17 : decode cX8_row 17 = .ok (.ireturn, 1) := by decide +kernel
theorem dX8_row_18 : decode cX8_row 18 = .ok (.aload_n 0, 1) := by decide +kernel
theorem dX8_row_19 : decode cX8_row 19 = .ok (.getfield 51, 3) := by decide +kernel
theorem dX8_row_22 : decode cX8_row 22 = .ok (.iconst 0, 1) := by decide +kernel
theorem dX8_row_23 : decode cX8_row 23 = .ok (.iaload, 1) := by decide +kernel
theorem dX8_row_24 : decode cX8_row 24 = .ok (.istore_n 1, 1) := by decide +kernel
theorem dX8_row_25 : decode cX8_row 25 = .ok (.aload_n 0, 1) := by decide +kernel
theorem dX8_row_26 : decode cX8_row 26 = .ok (.getfield 51, 3) := by decide +kernel
theorem dX8_row_29 : decode cX8_row 29 = .ok (.iconst 0, 1) := by decide +kernel
theorem dX8_row_30 : decode cX8_row 30 = .ok (.dup2, 1) := by decide +kernel
theorem dX8_row_31 : decode cX8_row 31 = .ok (.iaload, 1) := by decide +kernel
theorem dX8_row_32 : decode cX8_row 32 = .ok (.iconst 1, 1) := by decide +kernel
theorem dX8_row_33 : decode cX8_row 33 = .ok (.iadd, 1) := by decide +kernel
theorem dX8_row_34 : decode cX8_row 34 = .ok (.iastore, 1) := by decide +kernel
theorem dX8_row_35 : decode cX8_row 35 = .ok (.aload_n 0, 1) := by decide +kernel
theorem dX8_row_36 : decode cX8_row 36 = .ok (.getfield 54, 3) := by decide +kernel
theorem dX8_row_39 : decode cX8_row 39 = .ok (.iload_n 1, 1) := by decide +kernel
theorem dX8_row_40 : decode cX8_row 40 = .ok (.aload_n 0, 1) := by decide +kernel
theorem dX8_row_41 : decode cX8_row 41 = .ok (.getfield 38, 3) := by decide +kernel
theorem dX8_row_44 : decode cX8_row 44 = .ok (.iconst 0, 1) := by decide +kernel
theorem dX8_row_45 : decode cX8_row 45 = .ok (.iaload, 1) := by decide +kernel
theorem dX8_row_46 : decode cX8_row 46 = .ok (.iastore, 1) := by decide +kernel
theorem dX8_row_47 : decode cX8_row 47 = .ok (.iconst 0, 1) := by decide +kernel
theorem dX8_row_48 : decode cX8_row 48 = .ok (.istore_n 2, 1) := by decide +kernel
theorem dX8_row_49 : decode cX8_row 49 = .ok (.iload_n 2, 1) := by decide +kernel
theorem dX8_row_50 : decode cX8_row 50 = .ok (.aload_n 0, 1) := by decide +kernel
theorem dX8_row_51 : decode cX8_row 51 = .ok (.getfield 38, 3) := by decide +kernel
theorem dX8_row_54 : decode cX8_row 54 = .ok (.iconst 0, 1) := by decide +kernel
theorem dX8_row_55 : decode cX8_row 55 = .ok (.iaload, 1) := by decide +kernel
theorem dX8_row_56 : decode cX8_row 56 = .ok (.if_icmp .ge 27, 3) := by decide +kernel
theorem dX8_row_59 : decode cX8_row 59 = .ok (.aload_n 0, 1) := by decide +kernel
theorem dX8_row_60 : decode cX8_row 60 = .ok (.getfield 57, 3) := by decide +kernel
theorem dX8_row_63 : decode cX8_row 63 = .ok (.bipush 60, 2) := by decide +kernel
theorem dX8_row_65 : decode cX8_row 65 = .ok (.iload_n 1, 1) := by decide +kernel
theorem dX8_row_66 : decode cX8_row 66 = .ok (.imul, 1) := by decide +kernel
theorem dX8_row_67 : decode cX8_row 67 = .ok (.iload_n 2, 1) := by decide +kernel
theorem dX8_row_68 : decode cX8_row 68 = .ok (.iadd, 1) := by decide +kernel
theorem dX8_row_69 : decode cX8_row 69 = .ok (.aload_n 0, 1) := by decide +kernel
theorem dX8_row_70 : decode cX8_row 70 = .ok (.getfield 41, 3) := by decide +kernel
theorem dX8_row_73 : decode cX8_row 73 = .ok (.iload_n 2, 1) := by decide +kernel
theorem dX8_row_74 : decode cX8_row 74 = .ok (.iaload, 1) := by decide +kernel
theorem dX8_row_75 : decode cX8_row 75 = .ok (.i2b, 1) := by decide +kernel
theorem dX8_row_76 : decode cX8_row 76 = .ok (.bastore, 1) := by decide +kernel
theorem dX8_row_77 : decode cX8_row 77 = .ok (.iinc 2 1, 3) := by decide +kernel
theorem dX8_row_80 : decode cX8_row 80 = .ok (.goto (-31), 3) := by decide +kernel
theorem dX8_row_83 : decode cX8_row 83 = .ok (.aload_n 0, 1) := by decide +kernel
theorem dX8_row_84 : decode cX8_row 84 = .ok (.getfield 38, 3) := by decide +kernel
theorem dX8_row_87 : decode cX8_row 87 = .ok (.iconst 0, 1) := by decide +kernel
theorem dX8_row_88 : decode cX8_row 88 = .ok (.iconst 0, 1) := by decide +kernel
theorem dX8_row_89 : decode cX8_row 89 = .ok (.iastore, 1) := by decide +kernel
theorem dX8_row_90 : decode cX8_row 90 = .ok (.iload_n 1, 1) := by decide +kernel
theorem dX8_row_91 : decode cX8_row 91 = .ok (.ireturn, 1) := by decide +kernel
theorem dX8_clear_0 : decode cX8_clear 0 = .ok (.aload_n 0, 1) := by decide +kernel
theorem dX8_clear_1 : decode cX8_clear 1 = .ok (.iconst 0, 1) := by decide +kernel
theorem dX8_clear_2 : decode cX8_clear 2 = .ok (.putfield 86, 3) := by decide +kernel
theorem dX8_clear_5 : decode cX8_clear 5 = .ok (.aload_n 0, 1) := by decide +kernel
theorem dX8_clear_6 : decode cX8_clear 6 = .ok (.getfield 51, 3) := by decide +kernel
theorem dX8_clear_9 : decode cX8_clear 9 = .ok (.iconst 0, 1) := by decide +kernel
theorem dX8_clear_10 : decode cX8_clear 10 = .ok (.iconst 0, 1) := by decide +kernel
theorem dX8_clear_11 : decode cX8_clear 11 = .ok (.iastore, 1) := by decide +kernel
theorem dX8_clear_12 : decode cX8_clear 12 = .ok (.return_, 1) := by decide +kernel
theorem dX8_firstMisfit_0 : decode cX8_firstMisfit 0 = .ok (.iconst 0, 1) := by decide +kernel
theorem dX8_firstMisfit_1 : decode cX8_firstMisfit 1 = .ok (.istore_n 3, 1) := by decide +kernel
theorem dX8_firstMisfit_2 : decode cX8_firstMisfit 2 = .ok (.iload_n 3, 1) := by decide +kernel
theorem dX8_firstMisfit_3 : decode cX8_firstMisfit 3 = .ok (.aload_n 0, 1) := by decide +kernel
theorem dX8_firstMisfit_4 : decode cX8_firstMisfit 4 = .ok (.getfield 51, 3) := by decide +kernel
theorem dX8_firstMisfit_7 : decode cX8_firstMisfit 7 = .ok (.iconst 0, 1) := by decide +kernel
theorem dX8_firstMisfit_8 : decode cX8_firstMisfit 8 = .ok (.iaload, 1) := by decide +kernel
theorem dX8_firstMisfit_9 : decode cX8_firstMisfit 9 = .ok (.if_icmp .ge 25, 3) := by decide +kernel
theorem dX8_firstMisfit_12 : decode cX8_firstMisfit 12 = .ok (.aload_n 0, 1) := by decide +kernel
theorem dX8_firstMisfit_13 : decode cX8_firstMisfit 13 = .ok (.iload_n 3, 1) := by decide +kernel
theorem dX8_firstMisfit_14 : decode cX8_firstMisfit 14 = .ok (.invokevirtual 318, 3) := by decide +kernel
theorem dX8_firstMisfit_17 : decode cX8_firstMisfit 17 = .ok (.aload_n 0, 1) := by decide +kernel
theorem dX8_firstMisfit_18 : decode cX8_firstMisfit 18 = .ok (.iload_n 1, 1) := by decide +kernel
theorem dX8_firstMisfit_19 : decode cX8_firstMisfit 19 = .ok (.iload_n 2, 1) := by decide +kernel
theorem dX8_firstMisfit_20 : decode cX8_firstMisfit 20 = .ok (.invokevirtual 184, 3) := by decide +kernel
theorem dX8_firstMisfit_23 : decode cX8_firstMisfit 23 = .ok (.ifCond .ne 5, 3) := by decide +kernel
theorem dX8_firstMisfit_26 : decode cX8_firstMisfit 26 = .ok (.iload_n 3, 1) := by decide +kernel
theorem dX8_firstMisfit_27 : decode cX8_firstMisfit 27 = .ok (.ireturn, 1) := by decide +kernel
theorem dX8_firstMisfit_28 : decode cX8_firstMisfit 28 = .ok (.iinc 3 1, 3) := by decide +kernel
theorem dX8_firstMisfit_31 : decode cX8_firstMisfit 31 = .ok (.goto (-29), 3) := by decide +kernel
theorem dX8_firstMisfit_34 : decode cX8_firstMisfit 34 = .ok (.iconst (-1), 1) := by decide +kernel
theorem dX8_firstMisfit_35 : decode cX8_firstMisfit 35 = .ok (.ireturn, 1) := by decide +kernel
theorem dX8_fit_0 : decode cX8_fit 0 = .ok (.aload_n 0, 1) := by decide +kernel
theorem dX8_fit_1 : decode cX8_fit 1 = .ok (.iconst 0, 1) := by decide +kernel
theorem dX8_fit_2 : decode cX8_fit 2 = .ok (.putfield 86, 3) := by decide +kernel
theorem dX8_fit_5 : decode cX8_fit 5 = .ok (.iload_n 1, 1) := by decide +kernel
theorem dX8_fit_6 : decode cX8_fit 6 = .ok (.iconst 0, 1) := by decide +kernel
theorem dX8_fit_7 : decode cX8_fit 7 = .ok (.iconst 2, 1) := by decide +kernel
theorem dX8_fit_8 : decode cX8_fit 8 = .ok (.invokestatic 94, 3) := by decide +kernel
theorem dX8_fit_11 : decode cX8_fit 11 = .ok (.ifCond .ne 5, 3) := by decide +kernel
theorem dX8_fit_14 : decode cX8_fit 14 = .ok (.iconst (-1), 1) := by decide +kernel
theorem dX8_fit_15 : decode cX8_fit 15 = .ok (.ireturn, 1) := by decide +kernel
theorem dX8_fit_16 : decode cX8_fit 16 = .ok (.iconst 0, 1) := by decide +kernel
theorem dX8_fit_17 : decode cX8_fit 17 = .ok (.istore_n 2, 1) := by decide +kernel
theorem dX8_fit_18 : decode cX8_fit 18 = .ok (.iconst 0, 1) := by decide +kernel
theorem dX8_fit_19 : decode cX8_fit 19 = .ok (.istore_n 3, 1) := by decide +kernel
theorem dX8_fit_20 : decode cX8_fit 20 = .ok (.iload_n 3, 1) := by decide +kernel
theorem dX8_fit_21 : decode cX8_fit 21 = .ok (.aload_n 0, 1) := by decide +kernel
theorem dX8_fit_22 : decode cX8_fit 22 = .ok (.getfield 7, 3) := by decide +kernel
theorem dX8_fit_25 : decode cX8_fit 25 = .ok (.iconst 0, 1) := by decide +kernel
theorem dX8_fit_26 : decode cX8_fit 26 = .ok (.iaload, 1) := by decide +kernel
theorem dX8_fit_27 : decode cX8_fit 27 = .ok (.if_icmp .ge 29, 3) := by decide +kernel
theorem dX8_fit_30 : decode cX8_fit 30 = .ok (.iload_n 2, 1) := by decide +kernel
theorem dX8_fit_31 : decode cX8_fit 31 = .ok (.aload_n 0, 1) := by decide +kernel
theorem dX8_fit_32 : decode cX8_fit 32 = .ok (.iload_n 3, 1) := by decide +kernel
theorem dX8_fit_33 : decode cX8_fit 33 = .ok (.iload_n 1, 1) := by decide +kernel
theorem dX8_fit_34 : decode cX8_fit 34 = .ok (.invokevirtual 321, 3) := by decide +kernel
theorem dX8_fit_37 : decode cX8_fit 37 = .ok (.iconst (-1), 1) := by decide +kernel
theorem dX8_fit_38 : decode cX8_fit 38 = .ok (.if_icmp .ne 9, 3) := by decide +kernel
theorem dX8_fit_41 : decode cX8_fit 41 = .ok (.iconst 1, 1) := by decide +kernel
theorem dX8_fit_42 : decode cX8_fit 42 = .ok (.iload_n 3, 1) := by decide +kernel
theorem dX8_fit_43 : decode cX8_fit 43 = .ok (.ishl, 1) := by decide +kernel
theorem dX8_fit_44 : decode cX8_fit 44 = .ok (.goto 4, 3) := by decide +kernel
theorem dX8_fit_47 : decode cX8_fit 47 = .ok (.iconst 0, 1) := by decide +kernel
theorem dX8_fit_48 : decode cX8_fit 48 = .ok (.ior, 1) := by decide +kernel
theorem dX8_fit_49 : decode cX8_fit 49 = .ok (.istore_n 2, 1) := by decide +kernel
theorem dX8_fit_50 : decode cX8_fit 50 = .ok (.iinc 3 1, 3) := by decide +kernel
theorem dX8_fit_53 : decode cX8_fit 53 = .ok (.goto (-33), 3) := by decide +kernel
theorem dX8_fit_56 : decode cX8_fit 56 = .ok (.iload_n 2, 1) := by decide +kernel
theorem dX8_fit_57 : decode cX8_fit 57 = .ok (.ireturn, 1) := by decide +kernel
theorem dX8_misfit_0 : decode cX8_misfit 0 = .ok (.aload_n 0, 1) := by decide +kernel
theorem dX8_misfit_1 : decode cX8_misfit 1 = .ok (.iconst 0, 1) := by decide +kernel
theorem dX8_misfit_2 : decode cX8_misfit 2 = .ok (.putfield 86, 3) := by decide +kernel
theorem dX8_misfit_5 : decode cX8_misfit 5 = .ok (.aload_n 0, 1) := by decide +kernel
theorem dX8_misfit_6 : decode cX8_misfit 6 = .ok (.iload_n 1, 1) := by decide +kernel
theorem dX8_misfit_7 : decode cX8_misfit 7 = .ok (.invokevirtual 178, 3) := by decide +kernel
theorem dX8_misfit_10 : decode cX8_misfit 10 = .ok (.ifCond .eq 21, 3) := by decide +kernel
theorem dX8_misfit_13 : decode cX8_misfit 13 = .ok (.iload_n 2, 1) := by decide +kernel
theorem dX8_misfit_14 : decode cX8_misfit 14 = .ok (.iconst 0, 1) := by decide +kernel
theorem dX8_misfit_15 : decode cX8_misfit 15 = .ok (.iconst 2, 1) := by decide +kernel
theorem dX8_misfit_16 : decode cX8_misfit 16 = .ok (.invokestatic 94, 3) := by decide +kernel
theorem dX8_misfit_19 : decode cX8_misfit 19 = .ok (.ifCond .eq 12, 3) := by decide +kernel
theorem dX8_misfit_22 : decode cX8_misfit 22 = .ok (.aload_n 0, 1) := by decide +kernel
theorem dX8_misfit_23 : decode cX8_misfit 23 = .ok (.iload_n 1, 1) := by decide +kernel
theorem dX8_misfit_24 : decode cX8_misfit 24 = .ok (.iload_n 2, 1) := by decide +kernel
theorem dX8_misfit_25 : decode cX8_misfit 25 = .ok (.invokevirtual 321, 3) := by decide +kernel
theorem dX8_misfit_28 : decode cX8_misfit 28 = .ok (.goto 4, 3) := by decide +kernel
theorem dX8_misfit_31 : decode cX8_misfit 31 = .ok (.iconst (-1), 1) := by decide +kernel
theorem dX8_misfit_32 : decode cX8_misfit 32 = .ok (.ireturn, 1) := by decide +kernel
theorem dX8_sum_0 : decode cX8_sum 0 = .ok (.aload_n 0, 1) := by decide +kernel
theorem dX8_sum_1 : decode cX8_sum 1 = .ok (.iconst 0, 1) := by decide +kernel
theorem dX8_sum_2 : decode cX8_sum 2 = .ok (.putfield 86, 3) := by decide +kernel
theorem dX8_sum_5 : decode cX8_sum 5 = .ok (.aload_n 0, 1) := by decide +kernel
theorem dX8_sum_6 : decode cX8_sum 6 = .ok (.iload_n 1, 1) := by decide +kernel
theorem dX8_sum_7 : decode cX8_sum 7 = .ok (.invokevirtual 178, 3) := by decide +kernel
theorem dX8_sum_10 : decode cX8_sum 10 = .ok (.ifCond .eq 12, 3) := by decide +kernel
theorem dX8_sum_13 : decode cX8_sum 13 = .ok (.iload_n 2, 1) := by decide +kernel
theorem dX8_sum_14 : decode cX8_sum 14 = .ok (.iconst 0, 1) := by decide +kernel
theorem dX8_sum_15 : decode cX8_sum 15 = .ok (.iconst 1, 1) := by decide +kernel
theorem dX8_sum_16 : decode cX8_sum 16 = .ok (.invokestatic 94, 3) := by decide +kernel
theorem dX8_sum_19 : decode cX8_sum 19 = .ok (.ifCond .ne 7, 3) := by decide +kernel
theorem dX8_sum_22 : decode cX8_sum 22 = .ok (.ldc2_w 82, 3) := by decide +kernel
theorem dX8_sum_25 : decode cX8_sum 25 = .ok (.lreturn, 1) := by decide +kernel
theorem dX8_sum_26 : decode cX8_sum 26 = .ok (.lconst 0, 1) := by decide +kernel
theorem dX8_sum_27 : decode cX8_sum 27 = .ok (.lstore_n 3, 1) := by decide +kernel
theorem dX8_sum_28 : decode cX8_sum 28 = .ok (.iconst 0, 1) := by decide +kernel
theorem dX8_sum_29 : decode cX8_sum 29 = .ok (.istore 5, 2) := by decide +kernel
theorem dX8_sum_31 : decode cX8_sum 31 = .ok (.iload 5, 2) := by decide +kernel
theorem dX8_sum_33 : decode cX8_sum 33 = .ok (.aload_n 0, 1) := by decide +kernel
theorem dX8_sum_34 : decode cX8_sum 34 = .ok (.getfield 51, 3) := by decide +kernel
theorem dX8_sum_37 : decode cX8_sum 37 = .ok (.iconst 0, 1) := by decide +kernel
theorem dX8_sum_38 : decode cX8_sum 38 = .ok (.iaload, 1) := by decide +kernel
theorem dX8_sum_39 : decode cX8_sum 39 = .ok (.if_icmp .ge 35, 3) := by decide +kernel
theorem dX8_sum_42 : decode cX8_sum 42 = .ok (.aload_n 0, 1) := by decide +kernel
theorem dX8_sum_43 : decode cX8_sum 43 = .ok (.iload 5, 2) := by decide +kernel
theorem dX8_sum_45 : decode cX8_sum 45 = .ok (.invokevirtual 318, 3) := by decide +kernel
theorem dX8_sum_48 : decode cX8_sum 48 = .ok (.aload_n 0, 1) := by decide +kernel
theorem dX8_sum_49 : decode cX8_sum 49 = .ok (.iload_n 1, 1) := by decide +kernel
theorem dX8_sum_50 : decode cX8_sum 50 = .ok (.iload_n 2, 1) := by decide +kernel
theorem dX8_sum_51 : decode cX8_sum 51 = .ok (.invokevirtual 184, 3) := by decide +kernel
theorem dX8_sum_54 : decode cX8_sum 54 = .ok (.ifCond .ne 7, 3) := by decide +kernel
theorem dX8_sum_57 : decode cX8_sum 57 = .ok (.ldc2_w 82, 3) := by decide +kernel
theorem dX8_sum_60 : decode cX8_sum 60 = .ok (.lreturn, 1) := by decide +kernel
theorem dX8_sum_61 : decode cX8_sum 61 = .ok (.lload_n 3, 1) := by decide +kernel
theorem dX8_sum_62 : decode cX8_sum 62 = .ok (.aload_n 0, 1) := by decide +kernel
theorem dX8_sum_63 : decode cX8_sum 63 = .ok (.getfield 124, 3) := by decide +kernel
theorem dX8_sum_66 : decode cX8_sum 66 = .ok (.ladd, 1) := by decide +kernel
theorem dX8_sum_67 : decode cX8_sum 67 = .ok (.lstore_n 3, 1) := by decide +kernel
theorem dX8_sum_68 : decode cX8_sum 68 = .ok (.iinc 5 1, 3) := by decide +kernel
theorem dX8_sum_71 : decode cX8_sum 71 = .ok (.goto (-40), 3) := by decide +kernel
theorem dX8_sum_74 : decode cX8_sum 74 = .ok (.lload_n 3, 1) := by decide +kernel
theorem dX8_sum_75 : decode cX8_sum 75 = .ok (.lreturn, 1) := by decide +kernel
theorem dX8_count_0 : decode cX8_count 0 = .ok (.aload_n 0, 1) := by decide +kernel
theorem dX8_count_1 : decode cX8_count 1 = .ok (.iconst 0, 1) := by decide +kernel
theorem dX8_count_2 : decode cX8_count 2 = .ok (.putfield 86, 3) := by decide +kernel
theorem dX8_count_5 : decode cX8_count 5 = .ok (.iload_n 1, 1) := by decide +kernel
theorem dX8_count_6 : decode cX8_count 6 = .ok (.tableswitch 58 0 3 #[30, 37, 44, 51], 30) := by decide +kernel
theorem dX8_count_36 : decode cX8_count 36 = .ok (.aload_n 0, 1) := by decide +kernel
theorem dX8_count_37 : decode cX8_count 37 = .ok (.getfield 7, 3) := by decide +kernel
theorem dX8_count_40 : decode cX8_count 40 = .ok (.iconst 0, 1) := by decide +kernel
theorem dX8_count_41 : decode cX8_count 41 = .ok (.iaload, 1) := by decide +kernel
theorem dX8_count_42 : decode cX8_count 42 = .ok (.ireturn, 1) := by decide +kernel
theorem dX8_count_43 : decode cX8_count 43 = .ok (.aload_n 0, 1) := by decide +kernel
theorem dX8_count_44 : decode cX8_count 44 = .ok (.getfield 38, 3) := by decide +kernel
theorem dX8_count_47 : decode cX8_count 47 = .ok (.iconst 0, 1) := by decide +kernel
theorem dX8_count_48 : decode cX8_count 48 = .ok (.iaload, 1) := by decide +kernel
theorem dX8_count_49 : decode cX8_count 49 = .ok (.ireturn, 1) := by decide +kernel
theorem dX8_count_50 : decode cX8_count 50 = .ok (.aload_n 0, 1) := by decide +kernel
theorem dX8_count_51 : decode cX8_count 51 = .ok (.getfield 51, 3) := by decide +kernel
theorem dX8_count_54 : decode cX8_count 54 = .ok (.iconst 0, 1) := by decide +kernel
theorem dX8_count_55 : decode cX8_count 55 = .ok (.iaload, 1) := by decide +kernel
theorem dX8_count_56 : decode cX8_count 56 = .ok (.ireturn, 1) := by decide +kernel
theorem dX8_count_57 : decode cX8_count 57 = .ok (.aload_n 0, 1) := by decide +kernel
theorem dX8_count_58 : decode cX8_count 58 = .ok (.getfield 61, 3) := by decide +kernel
theorem dX8_count_61 : decode cX8_count 61 = .ok (.iconst 0, 1) := by decide +kernel
theorem dX8_count_62 : decode cX8_count 62 = .ok (.iaload, 1) := by decide +kernel
theorem dX8_count_63 : decode cX8_count 63 = .ok (.ireturn, 1) := by decide +kernel
theorem dX8_count_64 : decode cX8_count 64 = .ok (.iconst (-1), 1) := by decide +kernel
theorem dX8_count_65 : decode cX8_count 65 = .ok (.ireturn, 1) := by decide +kernel
theorem dX8_image_0 : decode cX8_image 0 = .ok (.aload_n 0, 1) := by decide +kernel
theorem dX8_image_1 : decode cX8_image 1 = .ok (.iconst 0, 1) := by decide +kernel
theorem dX8_image_2 : decode cX8_image 2 = .ok (.putfield 86, 3) := by decide +kernel
theorem dX8_image_5 : decode cX8_image 5 = .ok (.iload_n 1, 1) := by decide +kernel
theorem dX8_image_6 : decode cX8_image 6 = .ok (.iconst 0, 1) := by decide +kernel
theorem dX8_image_7 : decode cX8_image 7 = .ok (.iconst 2, 1) := by decide +kernel
theorem dX8_image_8 : decode cX8_image 8 = .ok (.invokestatic 94, 3) := by decide +kernel
theorem dX8_image_11 : decode cX8_image 11 = .ok (.ifCond .ne 5, 3) := by decide +kernel
theorem dX8_image_14 : decode cX8_image 14 = .ok (.iconst 0, 1) := by decide +kernel
theorem dX8_image_15 : decode cX8_image 15 = .ok (.ireturn, 1) := by decide +kernel
theorem dX8_image_16 : decode cX8_image 16 = .ok (.aload_n 0, 1) := by decide +kernel
theorem dX8_image_17 : decode cX8_image 17 = .ok (.iconst 0, 1) := by decide +kernel
theorem dX8_image_18 : decode cX8_image 18 = .ok (.iload_n 1, 1) := by decide +kernel
theorem dX8_image_19 : decode cX8_image 19 = .ok (.iconst 1, 1) := by decide +kernel
theorem dX8_image_20 : decode cX8_image 20 = .ok (.iadd, 1) := by decide +kernel
theorem dX8_image_21 : decode cX8_image 21 = .ok (.invokevirtual 324, 3) := by decide +kernel
theorem dX8_image_24 : decode cX8_image 24 = .ok (.aload_n 0, 1) := by decide +kernel
theorem dX8_image_25 : decode cX8_image 25 = .ok (.getfield 79, 3) := by decide +kernel
theorem dX8_image_28 : decode cX8_image 28 = .ok (.iload_n 1, 1) := by decide +kernel
theorem dX8_image_29 : decode cX8_image 29 = .ok (.iconst 1, 1) := by decide +kernel
theorem dX8_image_30 : decode cX8_image 30 = .ok (.bastore, 1) := by decide +kernel
theorem dX8_image_31 : decode cX8_image 31 = .ok (.iconst 1, 1) := by decide +kernel
theorem dX8_image_32 : decode cX8_image 32 = .ok (.ireturn, 1) := by decide +kernel
theorem dX8_again_0 : decode cX8_again 0 = .ok (.aload_n 0, 1) := by decide +kernel
theorem dX8_again_1 : decode cX8_again 1 = .ok (.iconst 0, 1) := by decide +kernel
theorem dX8_again_2 : decode cX8_again 2 = .ok (.putfield 86, 3) := by decide +kernel
theorem dX8_again_5 : decode cX8_again 5 = .ok (.iload_n 1, 1) := by decide +kernel
theorem dX8_again_6 : decode cX8_again 6 = .ok (.iconst 0, 1) := by decide +kernel
theorem dX8_again_7 : decode cX8_again 7 = .ok (.iconst 2, 1) := by decide +kernel
theorem dX8_again_8 : decode cX8_again 8 = .ok (.invokestatic 94, 3) := by decide +kernel
theorem dX8_again_11 : decode cX8_again 11 = .ok (.ifCond .eq 12, 3) := by decide +kernel
theorem dX8_again_14 : decode cX8_again 14 = .ok (.aload_n 0, 1) := by decide +kernel
theorem dX8_again_15 : decode cX8_again 15 = .ok (.getfield 79, 3) := by decide +kernel
theorem dX8_again_18 : decode cX8_again 18 = .ok (.iload_n 1, 1) := by decide +kernel
theorem dX8_again_19 : decode cX8_again 19 = .ok (.baload, 1) := by decide +kernel
theorem dX8_again_20 : decode cX8_again 20 = .ok (.ifCond .ne 5, 3) := by decide +kernel
theorem dX8_again_23 : decode cX8_again 23 = .ok (.iconst 0, 1) := by decide +kernel
theorem dX8_again_24 : decode cX8_again 24 = .ok (.ireturn, 1) := by decide +kernel
theorem dX8_again_25 : decode cX8_again 25 = .ok (.aload_n 0, 1) := by decide +kernel
theorem dX8_again_26 : decode cX8_again 26 = .ok (.iload_n 1, 1) := by decide +kernel
theorem dX8_again_27 : decode cX8_again 27 = .ok (.iconst 1, 1) := by decide +kernel
theorem dX8_again_28 : decode cX8_again 28 = .ok (.iadd, 1) := by decide +kernel
theorem dX8_again_29 : decode cX8_again 29 = .ok (.iconst 0, 1) := by decide +kernel
theorem dX8_again_30 : decode cX8_again 30 = .ok (.invokevirtual 324, 3) := by decide +kernel
theorem dX8_again_33 : decode cX8_again 33 = .ok (.iconst 1, 1) := by decide +kernel
theorem dX8_again_34 : decode cX8_again 34 = .ok (.ireturn, 1) := by decide +kernel
theorem dJ9_abs_067f4_0 : decode cJ9_abs_067f4 0 = .ok (.lload_n 0, 1) := by decide +kernel
theorem dJ9_abs_067f4_1 : decode cJ9_abs_067f4 1 = .ok (.lconst 0, 1) := by decide +kernel
theorem dJ9_abs_067f4_2 : decode cJ9_abs_067f4 2 = .ok (.lcmp, 1) := by decide +kernel
theorem dJ9_abs_067f4_3 : decode cJ9_abs_067f4 3 = .ok (.ifCond .ge 8, 3) := by decide +kernel
theorem dJ9_abs_067f4_6 : decode cJ9_abs_067f4 6 = .ok (.lload_n 0, 1) := by decide +kernel
theorem dJ9_abs_067f4_7 : decode cJ9_abs_067f4 7 = .ok (.lneg, 1) := by decide +kernel
theorem dJ9_abs_067f4_8 : decode cJ9_abs_067f4 8 = .ok (.goto 4, 3) := by decide +kernel
theorem dJ9_abs_067f4_11 : decode cJ9_abs_067f4 11 = .ok (.lload_n 0, 1) := by decide +kernel
theorem dJ9_abs_067f4_12 : decode cJ9_abs_067f4 12 = .ok (.lreturn, 1) := by decide +kernel
theorem dJ9_max_7cf53_0 : decode cJ9_max_7cf53 0 = .ok (.iload_n 0, 1) := by decide +kernel
theorem dJ9_max_7cf53_1 : decode cJ9_max_7cf53 1 = .ok (.iload_n 1, 1) := by decide +kernel
theorem dJ9_max_7cf53_2 : decode cJ9_max_7cf53 2 = .ok (.if_icmp .lt 7, 3) := by decide +kernel
theorem dJ9_max_7cf53_5 : decode cJ9_max_7cf53 5 = .ok (.iload_n 0, 1) := by decide +kernel
theorem dJ9_max_7cf53_6 : decode cJ9_max_7cf53 6 = .ok (.goto 4, 3) := by decide +kernel
theorem dJ9_max_7cf53_9 : decode cJ9_max_7cf53 9 = .ok (.iload_n 1, 1) := by decide +kernel
theorem dJ9_max_7cf53_10 : decode cJ9_max_7cf53 10 = .ok (.ireturn, 1) := by decide +kernel
theorem dJ9_min_7cf53_0 : decode cJ9_min_7cf53 0 = .ok (.iload_n 0, 1) := by decide +kernel
theorem dJ9_min_7cf53_1 : decode cJ9_min_7cf53 1 = .ok (.iload_n 1, 1) := by decide +kernel
theorem dJ9_min_7cf53_2 : decode cJ9_min_7cf53 2 = .ok (.if_icmp .gt 7, 3) := by decide +kernel
theorem dJ9_min_7cf53_5 : decode cJ9_min_7cf53 5 = .ok (.iload_n 0, 1) := by decide +kernel
theorem dJ9_min_7cf53_6 : decode cJ9_min_7cf53 6 = .ok (.goto 4, 3) := by decide +kernel
theorem dJ9_min_7cf53_9 : decode cJ9_min_7cf53 9 = .ok (.iload_n 1, 1) := by decide +kernel
theorem dJ9_min_7cf53_10 : decode cJ9_min_7cf53 10 = .ok (.ireturn, 1) := by decide +kernel
theorem dJ0_length_8abf5_0 : decode cJ0_length_8abf5 0 = .ok (.aload_n 0, 1) := by decide +kernel
theorem dJ0_length_8abf5_1 : decode cJ0_length_8abf5 1 = .ok (.getfield 9, 3) := by decide +kernel
theorem dJ0_length_8abf5_4 : decode cJ0_length_8abf5 4 = .ok (.arraylength, 1) := by decide +kernel
theorem dJ0_length_8abf5_5 : decode cJ0_length_8abf5 5 = .ok (.aload_n 0, 1) := by decide +kernel
theorem dJ0_length_8abf5_6 : decode cJ0_length_8abf5 6 = .ok (.invokevirtual 335, 3) := by decide +kernel
theorem dJ0_length_8abf5_9 : decode cJ0_length_8abf5 9 = .ok (.ishr, 1) := by decide +kernel
theorem dJ0_length_8abf5_10 : decode cJ0_length_8abf5 10 = .ok (.ireturn, 1) := by decide +kernel
theorem dJ0_charAt_5068e_0 : decode cJ0_charAt_5068e 0 = .ok (.aload_n 0, 1) := by decide +kernel
theorem dJ0_charAt_5068e_1 : decode cJ0_charAt_5068e 1 = .ok (.invokevirtual 492, 3) := by decide +kernel
theorem dJ0_charAt_5068e_4 : decode cJ0_charAt_5068e 4 = .ok (.ifCond .eq 12, 3) := by decide +kernel
theorem dJ0_charAt_5068e_7 : decode cJ0_charAt_5068e 7 = .ok (.aload_n 0, 1) := by decide +kernel
theorem dJ0_charAt_5068e_8 : decode cJ0_charAt_5068e 8 = .ok (.getfield 9, 3) := by decide +kernel
theorem dJ0_charAt_5068e_11 : decode cJ0_charAt_5068e 11 = .ok (.iload_n 1, 1) := by decide +kernel
theorem dJ0_charAt_5068e_12 : decode cJ0_charAt_5068e 12 = .ok (.invokestatic 495, 3) := by decide +kernel
theorem dJ0_charAt_5068e_15 : decode cJ0_charAt_5068e 15 = .ok (.ireturn, 1) := by decide +kernel
theorem dJ0_charAt_5068e_16 : decode cJ0_charAt_5068e 16 = .ok (.aload_n 0, 1) := by decide +kernel
theorem dJ0_charAt_5068e_17 : decode cJ0_charAt_5068e 17 = .ok (.getfield 9, 3) := by decide +kernel
theorem dJ0_charAt_5068e_20 : decode cJ0_charAt_5068e 20 = .ok (.iload_n 1, 1) := by decide +kernel
theorem dJ0_charAt_5068e_21 : decode cJ0_charAt_5068e 21 = .ok (.invokestatic 498, 3) := by decide +kernel
theorem dJ0_charAt_5068e_24 : decode cJ0_charAt_5068e 24 = .ok (.ireturn, 1) := by decide +kernel
theorem dJ0_coder_7d493_0 : decode cJ0_coder_7d493 0 = .ok (.getstatic 38, 3) := by decide +kernel
theorem dJ0_coder_7d493_3 : decode cJ0_coder_7d493 3 = .ok (.ifCond .eq 10, 3) := by decide +kernel
theorem dJ0_coder_7d493_6 : decode cJ0_coder_7d493 6 = .ok (.aload_n 0, 1) := by decide +kernel
theorem dJ0_coder_7d493_7 : decode cJ0_coder_7d493 7 = .ok (.getfield 15, 3) := by decide +kernel
theorem dJ0_coder_7d493_10 : decode cJ0_coder_7d493 10 = .ok (.goto 4, 3) := by decide +kernel
theorem dJ0_coder_7d493_13 : decode cJ0_coder_7d493 13 = .ok (.iconst 1, 1) := by decide +kernel
theorem dJ0_coder_7d493_14 : decode cJ0_coder_7d493 14 = .ok (.ireturn, 1) := by decide +kernel
theorem dJ0_isLatin1_aae02_0 : decode cJ0_isLatin1_aae02 0 = .ok (.getstatic 38, 3) := by decide +kernel
theorem dJ0_isLatin1_aae02_3 : decode cJ0_isLatin1_aae02 3 = .ok (.ifCond .eq 14, 3) := by decide +kernel
theorem dJ0_isLatin1_aae02_6 : decode cJ0_isLatin1_aae02 6 = .ok (.aload_n 0, 1) := by decide +kernel
theorem dJ0_isLatin1_aae02_7 : decode cJ0_isLatin1_aae02 7 = .ok (.getfield 15, 3) := by decide +kernel
theorem dJ0_isLatin1_aae02_10 : decode cJ0_isLatin1_aae02 10 = .ok (.ifCond .ne 7, 3) := by decide +kernel
theorem dJ0_isLatin1_aae02_13 : decode cJ0_isLatin1_aae02 13 = .ok (.iconst 1, 1) := by decide +kernel
theorem dJ0_isLatin1_aae02_14 : decode cJ0_isLatin1_aae02 14 = .ok (.goto 4, 3) := by decide +kernel
theorem dJ0_isLatin1_aae02_17 : decode cJ0_isLatin1_aae02 17 = .ok (.iconst 0, 1) := by decide +kernel
theorem dJ0_isLatin1_aae02_18 : decode cJ0_isLatin1_aae02 18 = .ok (.ireturn, 1) := by decide +kernel
theorem dJ0_checkIndex_df160_0 : decode cJ0_checkIndex_df160 0 = .ok (.iload_n 0, 1) := by decide +kernel
theorem dJ0_checkIndex_df160_1 : decode cJ0_checkIndex_df160 1 = .ok (.iload_n 1, 1) := by decide +kernel
theorem dJ0_checkIndex_df160_2 : decode cJ0_checkIndex_df160 2 = .ok (.getstatic 1053, 3) := by decide +kernel
theorem dJ0_checkIndex_df160_5 : decode cJ0_checkIndex_df160 5 = .ok (.invokestatic 1059, 3) := by decide +kernel
theorem dJ0_checkIndex_df160_8 : decode cJ0_checkIndex_df160 8 = .ok (.pop, 1) := by decide +kernel
theorem dJ0_checkIndex_df160_9 : decode cJ0_checkIndex_df160 9 = .ok (.return_, 1) := by decide +kernel
theorem dJ1_charAt_3b067_0 : decode cJ1_charAt_3b067 0 = .ok (.iload_n 1, 1) := by decide +kernel
theorem dJ1_charAt_3b067_1 : decode cJ1_charAt_3b067 1 = .ok (.aload_n 0, 1) := by decide +kernel
theorem dJ1_charAt_3b067_2 : decode cJ1_charAt_3b067 2 = .ok (.arraylength, 1) := by decide +kernel
theorem dJ1_charAt_3b067_3 : decode cJ1_charAt_3b067 3 = .ok (.invokestatic 9, 3) := by decide +kernel
theorem dJ1_charAt_3b067_6 : decode cJ1_charAt_3b067 6 = .ok (.aload_n 0, 1) := by decide +kernel
theorem dJ1_charAt_3b067_7 : decode cJ1_charAt_3b067 7 = .ok (.iload_n 1, 1) := by decide +kernel
theorem dJ1_charAt_3b067_8 : decode cJ1_charAt_3b067 8 = .ok (.baload, 1) := by decide +kernel
theorem dJ1_charAt_3b067_9 : decode cJ1_charAt_3b067 9 = .ok (.sipush 255, 3) := by decide +kernel
theorem dJ1_charAt_3b067_12 : decode cJ1_charAt_3b067 12 = .ok (.iand, 1) := by decide +kernel
theorem dJ1_charAt_3b067_13 : decode cJ1_charAt_3b067 13 = .ok (.i2c, 1) := by decide +kernel
theorem dJ1_charAt_3b067_14 : decode cJ1_charAt_3b067 14 = .ok (.ireturn, 1) := by decide +kernel
theorem dJ2_getChar_3b067_0 : decode cJ2_getChar_3b067 0 = .ok (.getstatic 44, 3) := by decide +kernel
theorem dJ2_getChar_3b067_3 : decode cJ2_getChar_3b067 3 = .ok (.ifCond .ne 25, 3) := by decide +kernel
theorem dJ2_getChar_3b067_6 : decode cJ2_getChar_3b067 6 = .ok (.iload_n 1, 1) := by decide +kernel
theorem dJ2_getChar_3b067_7 : decode cJ2_getChar_3b067 7 = .ok (.ifCond .lt 11, 3) := by decide +kernel
theorem dJ2_getChar_3b067_10 : decode cJ2_getChar_3b067 10 = .ok (.iload_n 1, 1) := by decide +kernel
theorem dJ2_getChar_3b067_11 : decode cJ2_getChar_3b067 11 = .ok (.aload_n 0, 1) := by decide +kernel
theorem dJ2_getChar_3b067_12 : decode cJ2_getChar_3b067 12 = .ok (.invokestatic 48, 3) := by decide +kernel
theorem dJ2_getChar_3b067_15 : decode cJ2_getChar_3b067 15 = .ok (.if_icmp .lt 13, 3) := by decide +kernel
theorem dJ2_getChar_3b067_18 : decode cJ2_getChar_3b067 18 = .ok (.new 52, 3) := by decide +kernel
theorem dJ2_getChar_3b067_21 : decode cJ2_getChar_3b067 21 = .ok (.dup, 1) := by decide +kernel
theorem dJ2_getChar_3b067_22 : decode cJ2_getChar_3b067 22 = .ok (.ldc 54, 2) := by decide +kernel
theorem dJ2_getChar_3b067_24 : decode cJ2_getChar_3b067 24 = .ok (.invokespecial 56, 3) := by decide +kernel
theorem dJ2_getChar_3b067_27 : decode cJ2_getChar_3b067 27 = .ok (.athrow, 1) := by decide +kernel
theorem dJ2_getChar_3b067_28 : decode cJ2_getChar_3b067 28 = .ok (.iload_n 1, 1) := by decide +kernel
theorem dJ2_getChar_3b067_29 : decode cJ2_getChar_3b067 29 = .ok (.iconst 1, 1) := by decide +kernel
theorem dJ2_getChar_3b067_30 : decode cJ2_getChar_3b067 30 = .ok (.ishl, 1) := by decide +kernel
theorem dJ2_getChar_3b067_31 : decode cJ2_getChar_3b067 31 = .ok (.istore_n 1, 1) := by decide +kernel
theorem dJ2_getChar_3b067_32 : decode cJ2_getChar_3b067 32 = .ok (.aload_n 0, 1) := by decide +kernel
theorem dJ2_getChar_3b067_33 : decode cJ2_getChar_3b067 33 = .ok (.iload_n 1, 1) := by decide +kernel
theorem dJ2_getChar_3b067_34 : decode cJ2_getChar_3b067 34 = .ok (.iinc 1 1, 3) := by decide +kernel
theorem dJ2_getChar_3b067_37 : decode cJ2_getChar_3b067 37 = .ok (.baload, 1) := by decide +kernel
theorem dJ2_getChar_3b067_38 : decode cJ2_getChar_3b067 38 = .ok (.sipush 255, 3) := by decide +kernel
theorem dJ2_getChar_3b067_41 : decode cJ2_getChar_3b067 41 = .ok (.iand, 1) := by decide +kernel
theorem dJ2_getChar_3b067_42 : decode cJ2_getChar_3b067 42 = .ok (.getstatic 59, 3) := by decide +kernel
theorem dJ2_getChar_3b067_45 : decode cJ2_getChar_3b067 45 = .ok (.ishl, 1) := by decide +kernel
theorem dJ2_getChar_3b067_46 : decode cJ2_getChar_3b067 46 = .ok (.aload_n 0, 1) := by decide +kernel
theorem dJ2_getChar_3b067_47 : decode cJ2_getChar_3b067 47 = .ok (.iload_n 1, 1) := by decide +kernel
theorem dJ2_getChar_3b067_48 : decode cJ2_getChar_3b067 48 = .ok (.baload, 1) := by decide +kernel
theorem dJ2_getChar_3b067_49 : decode cJ2_getChar_3b067 49 = .ok (.sipush 255, 3) := by decide +kernel
theorem dJ2_getChar_3b067_52 : decode cJ2_getChar_3b067 52 = .ok (.iand, 1) := by decide +kernel
theorem dJ2_getChar_3b067_53 : decode cJ2_getChar_3b067 53 = .ok (.getstatic 63, 3) := by decide +kernel
theorem dJ2_getChar_3b067_56 : decode cJ2_getChar_3b067 56 = .ok (.ishl, 1) := by decide +kernel
theorem dJ2_getChar_3b067_57 : decode cJ2_getChar_3b067 57 = .ok (.ior, 1) := by decide +kernel
theorem dJ2_getChar_3b067_58 : decode cJ2_getChar_3b067 58 = .ok (.i2c, 1) := by decide +kernel
theorem dJ2_getChar_3b067_59 : decode cJ2_getChar_3b067 59 = .ok (.ireturn, 1) := by decide +kernel
theorem dJ2_length_9d52b_0 : decode cJ2_length_9d52b 0 = .ok (.aload_n 0, 1) := by decide +kernel
theorem dJ2_length_9d52b_1 : decode cJ2_length_9d52b 1 = .ok (.arraylength, 1) := by decide +kernel
theorem dJ2_length_9d52b_2 : decode cJ2_length_9d52b 2 = .ok (.iconst 1, 1) := by decide +kernel
theorem dJ2_length_9d52b_3 : decode cJ2_length_9d52b 3 = .ok (.ishr, 1) := by decide +kernel
theorem dJ2_length_9d52b_4 : decode cJ2_length_9d52b 4 = .ok (.ireturn, 1) := by decide +kernel
theorem dJ2_charAt_3b067_0 : decode cJ2_charAt_3b067 0 = .ok (.iload_n 1, 1) := by decide +kernel
theorem dJ2_charAt_3b067_1 : decode cJ2_charAt_3b067 1 = .ok (.aload_n 0, 1) := by decide +kernel
theorem dJ2_charAt_3b067_2 : decode cJ2_charAt_3b067 2 = .ok (.invokestatic 67, 3) := by decide +kernel
theorem dJ2_charAt_3b067_5 : decode cJ2_charAt_3b067 5 = .ok (.aload_n 0, 1) := by decide +kernel
theorem dJ2_charAt_3b067_6 : decode cJ2_charAt_3b067 6 = .ok (.iload_n 1, 1) := by decide +kernel
theorem dJ2_charAt_3b067_7 : decode cJ2_charAt_3b067 7 = .ok (.invokestatic 71, 3) := by decide +kernel
theorem dJ2_charAt_3b067_10 : decode cJ2_charAt_3b067 10 = .ok (.ireturn, 1) := by decide +kernel
theorem dJ2_checkIndex_2214a_0 : decode cJ2_checkIndex_2214a 0 = .ok (.iload_n 0, 1) := by decide +kernel
theorem dJ2_checkIndex_2214a_1 : decode cJ2_checkIndex_2214a 1 = .ok (.aload_n 1, 1) := by decide +kernel
theorem dJ2_checkIndex_2214a_2 : decode cJ2_checkIndex_2214a 2 = .ok (.invokestatic 48, 3) := by decide +kernel
theorem dJ2_checkIndex_2214a_5 : decode cJ2_checkIndex_2214a 5 = .ok (.invokestatic 414, 3) := by decide +kernel
theorem dJ2_checkIndex_2214a_8 : decode cJ2_checkIndex_2214a 8 = .ok (.return_, 1) := by decide +kernel
theorem dJ3_checkIndex_8e157_0 : decode cJ3_checkIndex_8e157 0 = .ok (.iload_n 0, 1) := by decide +kernel
theorem dJ3_checkIndex_8e157_1 : decode cJ3_checkIndex_8e157 1 = .ok (.ifCond .lt 8, 3) := by decide +kernel
theorem dJ3_checkIndex_8e157_4 : decode cJ3_checkIndex_8e157 4 = .ok (.iload_n 0, 1) := by decide +kernel
theorem dJ3_checkIndex_8e157_5 : decode cJ3_checkIndex_8e157 5 = .ok (.iload_n 1, 1) := by decide +kernel
theorem dJ3_checkIndex_8e157_6 : decode cJ3_checkIndex_8e157 6 = .ok (.if_icmp .lt 10, 3) := by decide +kernel
theorem dJ3_checkIndex_8e157_9 : decode cJ3_checkIndex_8e157 9 = .ok (.aload_n 2, 1) := by decide +kernel
theorem dJ3_checkIndex_8e157_10 : decode cJ3_checkIndex_8e157 10 = .ok (.iload_n 0, 1) := by decide +kernel
theorem dJ3_checkIndex_8e157_11 : decode cJ3_checkIndex_8e157 11 = .ok (.iload_n 1, 1) := by decide +kernel
theorem dJ3_checkIndex_8e157_12 : decode cJ3_checkIndex_8e157 12 = .ok (.invokestatic 95, 3) := by decide +kernel
theorem dJ3_checkIndex_8e157_15 : decode cJ3_checkIndex_8e157 15 = .ok (.athrow, 1) := by decide +kernel
theorem dJ3_checkIndex_8e157_16 : decode cJ3_checkIndex_8e157 16 = .ok (.iload_n 0, 1) := by decide +kernel
theorem dJ3_checkIndex_8e157_17 : decode cJ3_checkIndex_8e157 17 = .ok (.ireturn, 1) := by decide +kernel
end
section
theorem dL_law_0 : decode cL_law 0 = .ok (.new 7, 3) := by decide +kernel
theorem dL_law_3 : decode cL_law 3 = .ok (.dup, 1) := by decide +kernel
theorem dL_law_4 : decode cL_law 4 = .ok (.invokespecial 9, 3) := by decide +kernel
theorem dL_law_7 : decode cL_law 7 = .ok (.astore_n 1, 1) := by decide +kernel
theorem dL_law_8 : decode cL_law 8 = .ok (.new 10, 3) := by decide +kernel
theorem dL_law_11 : decode cL_law 11 = .ok (.dup, 1) := by decide +kernel
theorem dL_law_12 : decode cL_law 12 = .ok (.invokespecial 12, 3) := by decide +kernel
theorem dL_law_15 : decode cL_law 15 = .ok (.astore_n 2, 1) := by decide +kernel
theorem dL_law_16 : decode cL_law 16 = .ok (.iconst 0, 1) := by decide +kernel
theorem dL_law_17 : decode cL_law 17 = .ok (.istore_n 3, 1) := by decide +kernel
theorem dL_law_18 : decode cL_law 18 = .ok (.iload_n 3, 1) := by decide +kernel
theorem dL_law_19 : decode cL_law 19 = .ok (.aload_n 0, 1) := by decide +kernel
theorem dL_law_20 : decode cL_law 20 = .ok (.arraylength, 1) := by decide +kernel
theorem dL_law_21 : decode cL_law 21 = .ok (.bipush 9, 2) := by decide +kernel
theorem dL_law_23 : decode cL_law 23 = .ok (.isub, 1) := by decide +kernel
theorem dL_law_24 : decode cL_law 24 = .ok (.if_icmp .gt 976, 3) := by decide +kernel
theorem dL_law_27 : decode cL_law 27 = .ok (.aload_n 0, 1) := by decide +kernel
theorem dL_law_28 : decode cL_law 28 = .ok (.iload_n 3, 1) := by decide +kernel
theorem dL_law_29 : decode cL_law 29 = .ok (.iaload, 1) := by decide +kernel
theorem dL_law_30 : decode cL_law 30 = .ok (.bipush 31, 2) := by decide +kernel
theorem dL_law_32 : decode cL_law 32 = .ok (.iand, 1) := by decide +kernel
theorem dL_law_33 : decode cL_law 33 = .ok (.tableswitch 961 0 22 #[107, 222, 245, 268, 291, 394, 428, 461, 494, 527, 610, 633, 656, 669, 682, 778, 791, 802, 825, 858, 892, 915, 938], 107) := by decide +kernel
theorem dL_law_140 : decode cL_law 140 = .ok (.aload_n 1, 1) := by decide +kernel
theorem dL_law_141 : decode cL_law 141 = .ok (.aload_n 0, 1) := by decide +kernel
theorem dL_law_142 : decode cL_law 142 = .ok (.iload_n 3, 1) := by decide +kernel
theorem dL_law_143 : decode cL_law 143 = .ok (.iconst 1, 1) := by decide +kernel
theorem dL_law_144 : decode cL_law 144 = .ok (.iadd, 1) := by decide +kernel
theorem dL_law_145 : decode cL_law 145 = .ok (.iaload, 1) := by decide +kernel
theorem dL_law_146 : decode cL_law 146 = .ok (.aload_n 0, 1) := by decide +kernel
theorem dL_law_147 : decode cL_law 147 = .ok (.iload_n 3, 1) := by decide +kernel
theorem dL_law_148 : decode cL_law 148 = .ok (.iconst 2, 1) := by decide +kernel
theorem dL_law_149 : decode cL_law 149 = .ok (.iadd, 1) := by decide +kernel
theorem dL_law_150 : decode cL_law 150 = .ok (.iaload, 1) := by decide +kernel
theorem dL_law_151 : decode cL_law 151 = .ok (.aload_n 0, 1) := by decide +kernel
theorem dL_law_152 : decode cL_law 152 = .ok (.iload_n 3, 1) := by decide +kernel
theorem dL_law_153 : decode cL_law 153 = .ok (.iconst 3, 1) := by decide +kernel
theorem dL_law_154 : decode cL_law 154 = .ok (.iadd, 1) := by decide +kernel
theorem dL_law_155 : decode cL_law 155 = .ok (.iaload, 1) := by decide +kernel
theorem dL_law_156 : decode cL_law 156 = .ok (.aload_n 0, 1) := by decide +kernel
theorem dL_law_157 : decode cL_law 157 = .ok (.iload_n 3, 1) := by decide +kernel
theorem dL_law_158 : decode cL_law 158 = .ok (.iconst 4, 1) := by decide +kernel
theorem dL_law_159 : decode cL_law 159 = .ok (.iadd, 1) := by decide +kernel
theorem dL_law_160 : decode cL_law 160 = .ok (.iaload, 1) := by decide +kernel
theorem dL_law_161 : decode cL_law 161 = .ok (.aload_n 0, 1) := by decide +kernel
theorem dL_law_162 : decode cL_law 162 = .ok (.iload_n 3, 1) := by decide +kernel
theorem dL_law_163 : decode cL_law 163 = .ok (.iconst 5, 1) := by decide +kernel
theorem dL_law_164 : decode cL_law 164 = .ok (.iadd, 1) := by decide +kernel
theorem dL_law_165 : decode cL_law 165 = .ok (.iaload, 1) := by decide +kernel
theorem dL_law_166 : decode cL_law 166 = .ok (.aload_n 0, 1) := by decide +kernel
theorem dL_law_167 : decode cL_law 167 = .ok (.iload_n 3, 1) := by decide +kernel
theorem dL_law_168 : decode cL_law 168 = .ok (.bipush 6, 2) := by decide +kernel
theorem dL_law_170 : decode cL_law 170 = .ok (.iadd, 1) := by decide +kernel
theorem dL_law_171 : decode cL_law 171 = .ok (.iaload, 1) := by decide +kernel
theorem dL_law_172 : decode cL_law 172 = .ok (.ifCond .eq 7, 3) := by decide +kernel
theorem dL_law_175 : decode cL_law 175 = .ok (.iconst 1, 1) := by decide +kernel
theorem dL_law_176 : decode cL_law 176 = .ok (.goto 4, 3) := by decide +kernel
theorem dL_law_179 : decode cL_law 179 = .ok (.iconst 0, 1) := by decide +kernel
theorem dL_law_180 : decode cL_law 180 = .ok (.aload_n 0, 1) := by decide +kernel
theorem dL_law_181 : decode cL_law 181 = .ok (.iload_n 3, 1) := by decide +kernel
theorem dL_law_182 : decode cL_law 182 = .ok (.bipush 7, 2) := by decide +kernel
theorem dL_law_184 : decode cL_law 184 = .ok (.iadd, 1) := by decide +kernel
theorem dL_law_185 : decode cL_law 185 = .ok (.iaload, 1) := by decide +kernel
theorem dL_law_186 : decode cL_law 186 = .ok (.aload_n 0, 1) := by decide +kernel
theorem dL_law_187 : decode cL_law 187 = .ok (.iload_n 3, 1) := by decide +kernel
theorem dL_law_188 : decode cL_law 188 = .ok (.bipush 8, 2) := by decide +kernel
theorem dL_law_190 : decode cL_law 190 = .ok (.iadd, 1) := by decide +kernel
theorem dL_law_191 : decode cL_law 191 = .ok (.iaload, 1) := by decide +kernel
theorem dL_law_192 : decode cL_law 192 = .ok (.invokevirtual 13, 3) := by decide +kernel
theorem dL_law_195 : decode cL_law 195 = .ok (.aload_n 2, 1) := by decide +kernel
theorem dL_law_196 : decode cL_law 196 = .ok (.aload_n 0, 1) := by decide +kernel
theorem dL_law_197 : decode cL_law 197 = .ok (.iload_n 3, 1) := by decide +kernel
theorem dL_law_198 : decode cL_law 198 = .ok (.iconst 1, 1) := by decide +kernel
theorem dL_law_199 : decode cL_law 199 = .ok (.iadd, 1) := by decide +kernel
theorem dL_law_200 : decode cL_law 200 = .ok (.iaload, 1) := by decide +kernel
theorem dL_law_201 : decode cL_law 201 = .ok (.aload_n 0, 1) := by decide +kernel
theorem dL_law_202 : decode cL_law 202 = .ok (.iload_n 3, 1) := by decide +kernel
theorem dL_law_203 : decode cL_law 203 = .ok (.iconst 2, 1) := by decide +kernel
theorem dL_law_204 : decode cL_law 204 = .ok (.iadd, 1) := by decide +kernel
theorem dL_law_205 : decode cL_law 205 = .ok (.iaload, 1) := by decide +kernel
theorem dL_law_206 : decode cL_law 206 = .ok (.aload_n 0, 1) := by decide +kernel
theorem dL_law_207 : decode cL_law 207 = .ok (.iload_n 3, 1) := by decide +kernel
theorem dL_law_208 : decode cL_law 208 = .ok (.iconst 3, 1) := by decide +kernel
theorem dL_law_209 : decode cL_law 209 = .ok (.iadd, 1) := by decide +kernel
theorem dL_law_210 : decode cL_law 210 = .ok (.iaload, 1) := by decide +kernel
theorem dL_law_211 : decode cL_law 211 = .ok (.aload_n 0, 1) := by decide +kernel
theorem dL_law_212 : decode cL_law 212 = .ok (.iload_n 3, 1) := by decide +kernel
theorem dL_law_213 : decode cL_law 213 = .ok (.iconst 4, 1) := by decide +kernel
theorem dL_law_214 : decode cL_law 214 = .ok (.iadd, 1) := by decide +kernel
theorem dL_law_215 : decode cL_law 215 = .ok (.iaload, 1) := by decide +kernel
theorem dL_law_216 : decode cL_law 216 = .ok (.aload_n 0, 1) := by decide +kernel
theorem dL_law_217 : decode cL_law 217 = .ok (.iload_n 3, 1) := by decide +kernel
theorem dL_law_218 : decode cL_law 218 = .ok (.iconst 5, 1) := by decide +kernel
theorem dL_law_219 : decode cL_law 219 = .ok (.iadd, 1) := by decide +kernel
theorem dL_law_220 : decode cL_law 220 = .ok (.iaload, 1) := by decide +kernel
theorem dL_law_221 : decode cL_law 221 = .ok (.aload_n 0, 1) := by decide +kernel
theorem dL_law_222 : decode cL_law 222 = .ok (.iload_n 3, 1) := by decide +kernel
theorem dL_law_223 : decode cL_law 223 = .ok (.bipush 6, 2) := by decide +kernel
theorem dL_law_225 : decode cL_law 225 = .ok (.iadd, 1) := by decide +kernel
theorem dL_law_226 : decode cL_law 226 = .ok (.iaload, 1) := by decide +kernel
theorem dL_law_227 : decode cL_law 227 = .ok (.ifCond .eq 7, 3) := by decide +kernel
theorem dL_law_230 : decode cL_law 230 = .ok (.iconst 1, 1) := by decide +kernel
theorem dL_law_231 : decode cL_law 231 = .ok (.goto 4, 3) := by decide +kernel
theorem dL_law_234 : decode cL_law 234 = .ok (.iconst 0, 1) := by decide +kernel
theorem dL_law_235 : decode cL_law 235 = .ok (.aload_n 0, 1) := by decide +kernel
theorem dL_law_236 : decode cL_law 236 = .ok (.iload_n 3, 1) := by decide +kernel
theorem dL_law_237 : decode cL_law 237 = .ok (.bipush 7, 2) := by decide +kernel
theorem dL_law_239 : decode cL_law 239 = .ok (.iadd, 1) := by decide +kernel
theorem dL_law_240 : decode cL_law 240 = .ok (.iaload, 1) := by decide +kernel
theorem dL_law_241 : decode cL_law 241 = .ok (.aload_n 0, 1) := by decide +kernel
theorem dL_law_242 : decode cL_law 242 = .ok (.iload_n 3, 1) := by decide +kernel
theorem dL_law_243 : decode cL_law 243 = .ok (.bipush 8, 2) := by decide +kernel
theorem dL_law_245 : decode cL_law 245 = .ok (.iadd, 1) := by decide +kernel
theorem dL_law_246 : decode cL_law 246 = .ok (.iaload, 1) := by decide +kernel
theorem dL_law_247 : decode cL_law 247 = .ok (.invokevirtual 17, 3) := by decide +kernel
theorem dL_law_250 : decode cL_law 250 = .ok (.if_icmp .eq 744, 3) := by decide +kernel
theorem dL_law_253 : decode cL_law 253 = .ok (.iconst 0, 1) := by decide +kernel
theorem dL_law_254 : decode cL_law 254 = .ok (.ireturn, 1) := by decide +kernel
theorem dL_law_255 : decode cL_law 255 = .ok (.aload_n 1, 1) := by decide +kernel
theorem dL_law_256 : decode cL_law 256 = .ok (.aload_n 0, 1) := by decide +kernel
theorem dL_law_257 : decode cL_law 257 = .ok (.iload_n 3, 1) := by decide +kernel
theorem dL_law_258 : decode cL_law 258 = .ok (.iconst 1, 1) := by decide +kernel
theorem dL_law_259 : decode cL_law 259 = .ok (.iadd, 1) := by decide +kernel
theorem dL_law_260 : decode cL_law 260 = .ok (.iaload, 1) := by decide +kernel
theorem dL_law_261 : decode cL_law 261 = .ok (.invokevirtual 18, 3) := by decide +kernel
theorem dL_law_264 : decode cL_law 264 = .ok (.aload_n 2, 1) := by decide +kernel
theorem dL_law_265 : decode cL_law 265 = .ok (.aload_n 0, 1) := by decide +kernel
theorem dL_law_266 : decode cL_law 266 = .ok (.iload_n 3, 1) := by decide +kernel
theorem dL_law_267 : decode cL_law 267 = .ok (.iconst 1, 1) := by decide +kernel
theorem dL_law_268 : decode cL_law 268 = .ok (.iadd, 1) := by decide +kernel
theorem dL_law_269 : decode cL_law 269 = .ok (.iaload, 1) := by decide +kernel
theorem dL_law_270 : decode cL_law 270 = .ok (.invokevirtual 22, 3) := by decide +kernel
theorem dL_law_273 : decode cL_law 273 = .ok (.if_icmp .eq 721, 3) := by decide +kernel
theorem dL_law_276 : decode cL_law 276 = .ok (.iconst 0, 1) := by decide +kernel
theorem dL_law_277 : decode cL_law 277 = .ok (.ireturn, 1) := by decide +kernel
theorem dL_law_278 : decode cL_law 278 = .ok (.aload_n 1, 1) := by decide +kernel
theorem dL_law_279 : decode cL_law 279 = .ok (.aload_n 0, 1) := by decide +kernel
theorem dL_law_280 : decode cL_law 280 = .ok (.iload_n 3, 1) := by decide +kernel
theorem dL_law_281 : decode cL_law 281 = .ok (.iconst 1, 1) := by decide +kernel
theorem dL_law_282 : decode cL_law 282 = .ok (.iadd, 1) := by decide +kernel
theorem dL_law_283 : decode cL_law 283 = .ok (.iaload, 1) := by decide +kernel
theorem dL_law_284 : decode cL_law 284 = .ok (.invokevirtual 23, 3) := by decide +kernel
theorem dL_law_287 : decode cL_law 287 = .ok (.aload_n 2, 1) := by decide +kernel
theorem dL_law_288 : decode cL_law 288 = .ok (.aload_n 0, 1) := by decide +kernel
theorem dL_law_289 : decode cL_law 289 = .ok (.iload_n 3, 1) := by decide +kernel
theorem dL_law_290 : decode cL_law 290 = .ok (.iconst 1, 1) := by decide +kernel
theorem dL_law_291 : decode cL_law 291 = .ok (.iadd, 1) := by decide +kernel
theorem dL_law_292 : decode cL_law 292 = .ok (.iaload, 1) := by decide +kernel
theorem dL_law_293 : decode cL_law 293 = .ok (.invokevirtual 26, 3) := by decide +kernel
theorem dL_law_296 : decode cL_law 296 = .ok (.if_icmp .eq 698, 3) := by decide +kernel
theorem dL_law_299 : decode cL_law 299 = .ok (.iconst 0, 1) := by decide +kernel
theorem dL_law_300 : decode cL_law 300 = .ok (.ireturn, 1) := by decide +kernel
theorem dL_law_301 : decode cL_law 301 = .ok (.aload_n 1, 1) := by decide +kernel
theorem dL_law_302 : decode cL_law 302 = .ok (.aload_n 0, 1) := by decide +kernel
theorem dL_law_303 : decode cL_law 303 = .ok (.iload_n 3, 1) := by decide +kernel
theorem dL_law_304 : decode cL_law 304 = .ok (.iconst 1, 1) := by decide +kernel
theorem dL_law_305 : decode cL_law 305 = .ok (.iadd, 1) := by decide +kernel
theorem dL_law_306 : decode cL_law 306 = .ok (.iaload, 1) := by decide +kernel
theorem dL_law_307 : decode cL_law 307 = .ok (.invokevirtual 27, 3) := by decide +kernel
theorem dL_law_310 : decode cL_law 310 = .ok (.aload_n 2, 1) := by decide +kernel
theorem dL_law_311 : decode cL_law 311 = .ok (.aload_n 0, 1) := by decide +kernel
theorem dL_law_312 : decode cL_law 312 = .ok (.iload_n 3, 1) := by decide +kernel
theorem dL_law_313 : decode cL_law 313 = .ok (.iconst 1, 1) := by decide +kernel
theorem dL_law_314 : decode cL_law 314 = .ok (.iadd, 1) := by decide +kernel
theorem dL_law_315 : decode cL_law 315 = .ok (.iaload, 1) := by decide +kernel
theorem dL_law_316 : decode cL_law 316 = .ok (.invokevirtual 30, 3) := by decide +kernel
theorem dL_law_319 : decode cL_law 319 = .ok (.if_icmp .eq 675, 3) := by decide +kernel
theorem dL_law_322 : decode cL_law 322 = .ok (.iconst 0, 1) := by decide +kernel
theorem dL_law_323 : decode cL_law 323 = .ok (.ireturn, 1) := by decide +kernel
theorem dL_law_324 : decode cL_law 324 = .ok (.aload_n 1, 1) := by decide +kernel
theorem dL_law_325 : decode cL_law 325 = .ok (.aload_n 0, 1) := by decide +kernel
theorem dL_law_326 : decode cL_law 326 = .ok (.iload_n 3, 1) := by decide +kernel
theorem dL_law_327 : decode cL_law 327 = .ok (.iconst 1, 1) := by decide +kernel
theorem dL_law_328 : decode cL_law 328 = .ok (.iadd, 1) := by decide +kernel
theorem dL_law_329 : decode cL_law 329 = .ok (.iaload, 1) := by decide +kernel
theorem dL_law_330 : decode cL_law 330 = .ok (.aload_n 0, 1) := by decide +kernel
theorem dL_law_331 : decode cL_law 331 = .ok (.iload_n 3, 1) := by decide +kernel
theorem dL_law_332 : decode cL_law 332 = .ok (.iconst 2, 1) := by decide +kernel
theorem dL_law_333 : decode cL_law 333 = .ok (.iadd, 1) := by decide +kernel
theorem dL_law_334 : decode cL_law 334 = .ok (.iaload, 1) := by decide +kernel
theorem dL_law_335 : decode cL_law 335 = .ok (.i2l, 1) := by decide +kernel
theorem dL_law_336 : decode cL_law 336 = .ok (.bipush 32, 2) := by decide +kernel
theorem dL_law_338 : decode cL_law 338 = .ok (.lshl, 1) := by decide +kernel
theorem dL_law_339 : decode cL_law 339 = .ok (.aload_n 0, 1) := by decide +kernel
theorem dL_law_340 : decode cL_law 340 = .ok (.iload_n 3, 1) := by decide +kernel
theorem dL_law_341 : decode cL_law 341 = .ok (.iconst 3, 1) := by decide +kernel
theorem dL_law_342 : decode cL_law 342 = .ok (.iadd, 1) := by decide +kernel
theorem dL_law_343 : decode cL_law 343 = .ok (.iaload, 1) := by decide +kernel
theorem dL_law_344 : decode cL_law 344 = .ok (.i2l, 1) := by decide +kernel
theorem dL_law_345 : decode cL_law 345 = .ok (.ldc2_w 31, 3) := by decide +kernel
theorem dL_law_348 : decode cL_law 348 = .ok (.land, 1) := by decide +kernel
theorem dL_law_349 : decode cL_law 349 = .ok (.lor, 1) := by decide +kernel
theorem dL_law_350 : decode cL_law 350 = .ok (.aload_n 0, 1) := by decide +kernel
theorem dL_law_351 : decode cL_law 351 = .ok (.iload_n 3, 1) := by decide +kernel
theorem dL_law_352 : decode cL_law 352 = .ok (.iconst 4, 1) := by decide +kernel
theorem dL_law_353 : decode cL_law 353 = .ok (.iadd, 1) := by decide +kernel
theorem dL_law_354 : decode cL_law 354 = .ok (.iaload, 1) := by decide +kernel
theorem dL_law_355 : decode cL_law 355 = .ok (.i2l, 1) := by decide +kernel
theorem dL_law_356 : decode cL_law 356 = .ok (.bipush 32, 2) := by decide +kernel
theorem dL_law_358 : decode cL_law 358 = .ok (.lshl, 1) := by decide +kernel
theorem dL_law_359 : decode cL_law 359 = .ok (.aload_n 0, 1) := by decide +kernel
theorem dL_law_360 : decode cL_law 360 = .ok (.iload_n 3, 1) := by decide +kernel
theorem dL_law_361 : decode cL_law 361 = .ok (.iconst 5, 1) := by decide +kernel
theorem dL_law_362 : decode cL_law 362 = .ok (.iadd, 1) := by decide +kernel
theorem dL_law_363 : decode cL_law 363 = .ok (.iaload, 1) := by decide +kernel
theorem dL_law_364 : decode cL_law 364 = .ok (.i2l, 1) := by decide +kernel
theorem dL_law_365 : decode cL_law 365 = .ok (.ldc2_w 31, 3) := by decide +kernel
theorem dL_law_368 : decode cL_law 368 = .ok (.land, 1) := by decide +kernel
theorem dL_law_369 : decode cL_law 369 = .ok (.lor, 1) := by decide +kernel
theorem dL_law_370 : decode cL_law 370 = .ok (.invokevirtual 33, 3) := by decide +kernel
theorem dL_law_373 : decode cL_law 373 = .ok (.aload_n 2, 1) := by decide +kernel
theorem dL_law_374 : decode cL_law 374 = .ok (.aload_n 0, 1) := by decide +kernel
theorem dL_law_375 : decode cL_law 375 = .ok (.iload_n 3, 1) := by decide +kernel
theorem dL_law_376 : decode cL_law 376 = .ok (.iconst 1, 1) := by decide +kernel
theorem dL_law_377 : decode cL_law 377 = .ok (.iadd, 1) := by decide +kernel
theorem dL_law_378 : decode cL_law 378 = .ok (.iaload, 1) := by decide +kernel
theorem dL_law_379 : decode cL_law 379 = .ok (.aload_n 0, 1) := by decide +kernel
theorem dL_law_380 : decode cL_law 380 = .ok (.iload_n 3, 1) := by decide +kernel
theorem dL_law_381 : decode cL_law 381 = .ok (.iconst 2, 1) := by decide +kernel
theorem dL_law_382 : decode cL_law 382 = .ok (.iadd, 1) := by decide +kernel
theorem dL_law_383 : decode cL_law 383 = .ok (.iaload, 1) := by decide +kernel
theorem dL_law_384 : decode cL_law 384 = .ok (.i2l, 1) := by decide +kernel
theorem dL_law_385 : decode cL_law 385 = .ok (.bipush 32, 2) := by decide +kernel
theorem dL_law_387 : decode cL_law 387 = .ok (.lshl, 1) := by decide +kernel
theorem dL_law_388 : decode cL_law 388 = .ok (.aload_n 0, 1) := by decide +kernel
theorem dL_law_389 : decode cL_law 389 = .ok (.iload_n 3, 1) := by decide +kernel
theorem dL_law_390 : decode cL_law 390 = .ok (.iconst 3, 1) := by decide +kernel
theorem dL_law_391 : decode cL_law 391 = .ok (.iadd, 1) := by decide +kernel
theorem dL_law_392 : decode cL_law 392 = .ok (.iaload, 1) := by decide +kernel
theorem dL_law_393 : decode cL_law 393 = .ok (.i2l, 1) := by decide +kernel
theorem dL_law_394 : decode cL_law 394 = .ok (.ldc2_w 31, 3) := by decide +kernel
theorem dL_law_397 : decode cL_law 397 = .ok (.land, 1) := by decide +kernel
theorem dL_law_398 : decode cL_law 398 = .ok (.lor, 1) := by decide +kernel
theorem dL_law_399 : decode cL_law 399 = .ok (.aload_n 0, 1) := by decide +kernel
theorem dL_law_400 : decode cL_law 400 = .ok (.iload_n 3, 1) := by decide +kernel
theorem dL_law_401 : decode cL_law 401 = .ok (.iconst 4, 1) := by decide +kernel
theorem dL_law_402 : decode cL_law 402 = .ok (.iadd, 1) := by decide +kernel
theorem dL_law_403 : decode cL_law 403 = .ok (.iaload, 1) := by decide +kernel
theorem dL_law_404 : decode cL_law 404 = .ok (.i2l, 1) := by decide +kernel
theorem dL_law_405 : decode cL_law 405 = .ok (.bipush 32, 2) := by decide +kernel
theorem dL_law_407 : decode cL_law 407 = .ok (.lshl, 1) := by decide +kernel
theorem dL_law_408 : decode cL_law 408 = .ok (.aload_n 0, 1) := by decide +kernel
theorem dL_law_409 : decode cL_law 409 = .ok (.iload_n 3, 1) := by decide +kernel
theorem dL_law_410 : decode cL_law 410 = .ok (.iconst 5, 1) := by decide +kernel
theorem dL_law_411 : decode cL_law 411 = .ok (.iadd, 1) := by decide +kernel
theorem dL_law_412 : decode cL_law 412 = .ok (.iaload, 1) := by decide +kernel
theorem dL_law_413 : decode cL_law 413 = .ok (.i2l, 1) := by decide +kernel
theorem dL_law_414 : decode cL_law 414 = .ok (.ldc2_w 31, 3) := by decide +kernel
theorem dL_law_417 : decode cL_law 417 = .ok (.land, 1) := by decide +kernel
theorem dL_law_418 : decode cL_law 418 = .ok (.lor, 1) := by decide +kernel
theorem dL_law_419 : decode cL_law 419 = .ok (.invokevirtual 37, 3) := by decide +kernel
theorem dL_law_422 : decode cL_law 422 = .ok (.if_icmp .eq 572, 3) := by decide +kernel
theorem dL_law_425 : decode cL_law 425 = .ok (.iconst 0, 1) := by decide +kernel
theorem dL_law_426 : decode cL_law 426 = .ok (.ireturn, 1) := by decide +kernel
theorem dL_law_427 : decode cL_law 427 = .ok (.aload_n 1, 1) := by decide +kernel
theorem dL_law_428 : decode cL_law 428 = .ok (.aload_n 0, 1) := by decide +kernel
theorem dL_law_429 : decode cL_law 429 = .ok (.iload_n 3, 1) := by decide +kernel
theorem dL_law_430 : decode cL_law 430 = .ok (.iconst 1, 1) := by decide +kernel
theorem dL_law_431 : decode cL_law 431 = .ok (.iadd, 1) := by decide +kernel
theorem dL_law_432 : decode cL_law 432 = .ok (.iaload, 1) := by decide +kernel
theorem dL_law_433 : decode cL_law 433 = .ok (.aload_n 0, 1) := by decide +kernel
theorem dL_law_434 : decode cL_law 434 = .ok (.iload_n 3, 1) := by decide +kernel
theorem dL_law_435 : decode cL_law 435 = .ok (.iconst 2, 1) := by decide +kernel
theorem dL_law_436 : decode cL_law 436 = .ok (.iadd, 1) := by decide +kernel
theorem dL_law_437 : decode cL_law 437 = .ok (.iaload, 1) := by decide +kernel
theorem dL_law_438 : decode cL_law 438 = .ok (.invokevirtual 38, 3) := by decide +kernel
theorem dL_law_441 : decode cL_law 441 = .ok (.aload_n 2, 1) := by decide +kernel
theorem dL_law_442 : decode cL_law 442 = .ok (.aload_n 0, 1) := by decide +kernel
theorem dL_law_443 : decode cL_law 443 = .ok (.iload_n 3, 1) := by decide +kernel
theorem dL_law_444 : decode cL_law 444 = .ok (.iconst 1, 1) := by decide +kernel
theorem dL_law_445 : decode cL_law 445 = .ok (.iadd, 1) := by decide +kernel
theorem dL_law_446 : decode cL_law 446 = .ok (.iaload, 1) := by decide +kernel
theorem dL_law_447 : decode cL_law 447 = .ok (.aload_n 0, 1) := by decide +kernel
theorem dL_law_448 : decode cL_law 448 = .ok (.iload_n 3, 1) := by decide +kernel
theorem dL_law_449 : decode cL_law 449 = .ok (.iconst 2, 1) := by decide +kernel
theorem dL_law_450 : decode cL_law 450 = .ok (.iadd, 1) := by decide +kernel
theorem dL_law_451 : decode cL_law 451 = .ok (.iaload, 1) := by decide +kernel
theorem dL_law_452 : decode cL_law 452 = .ok (.invokevirtual 42, 3) := by decide +kernel
theorem dL_law_455 : decode cL_law 455 = .ok (.lcmp, 1) := by decide +kernel
theorem dL_law_456 : decode cL_law 456 = .ok (.ifCond .eq 538, 3) := by decide +kernel
theorem dL_law_459 : decode cL_law 459 = .ok (.iconst 0, 1) := by decide +kernel
theorem dL_law_460 : decode cL_law 460 = .ok (.ireturn, 1) := by decide +kernel
theorem dL_law_461 : decode cL_law 461 = .ok (.aload_n 1, 1) := by decide +kernel
theorem dL_law_462 : decode cL_law 462 = .ok (.aload_n 0, 1) := by decide +kernel
theorem dL_law_463 : decode cL_law 463 = .ok (.iload_n 3, 1) := by decide +kernel
theorem dL_law_464 : decode cL_law 464 = .ok (.iconst 1, 1) := by decide +kernel
theorem dL_law_465 : decode cL_law 465 = .ok (.iadd, 1) := by decide +kernel
theorem dL_law_466 : decode cL_law 466 = .ok (.iaload, 1) := by decide +kernel
theorem dL_law_467 : decode cL_law 467 = .ok (.aload_n 0, 1) := by decide +kernel
theorem dL_law_468 : decode cL_law 468 = .ok (.iload_n 3, 1) := by decide +kernel
theorem dL_law_469 : decode cL_law 469 = .ok (.iconst 2, 1) := by decide +kernel
theorem dL_law_470 : decode cL_law 470 = .ok (.iadd, 1) := by decide +kernel
theorem dL_law_471 : decode cL_law 471 = .ok (.iaload, 1) := by decide +kernel
theorem dL_law_472 : decode cL_law 472 = .ok (.invokevirtual 43, 3) := by decide +kernel
theorem dL_law_475 : decode cL_law 475 = .ok (.aload_n 2, 1) := by decide +kernel
theorem dL_law_476 : decode cL_law 476 = .ok (.aload_n 0, 1) := by decide +kernel
theorem dL_law_477 : decode cL_law 477 = .ok (.iload_n 3, 1) := by decide +kernel
theorem dL_law_478 : decode cL_law 478 = .ok (.iconst 1, 1) := by decide +kernel
theorem dL_law_479 : decode cL_law 479 = .ok (.iadd, 1) := by decide +kernel
theorem dL_law_480 : decode cL_law 480 = .ok (.iaload, 1) := by decide +kernel
theorem dL_law_481 : decode cL_law 481 = .ok (.aload_n 0, 1) := by decide +kernel
theorem dL_law_482 : decode cL_law 482 = .ok (.iload_n 3, 1) := by decide +kernel
theorem dL_law_483 : decode cL_law 483 = .ok (.iconst 2, 1) := by decide +kernel
theorem dL_law_484 : decode cL_law 484 = .ok (.iadd, 1) := by decide +kernel
theorem dL_law_485 : decode cL_law 485 = .ok (.iaload, 1) := by decide +kernel
theorem dL_law_486 : decode cL_law 486 = .ok (.invokevirtual 47, 3) := by decide +kernel
theorem dL_law_489 : decode cL_law 489 = .ok (.if_icmp .eq 505, 3) := by decide +kernel
theorem dL_law_492 : decode cL_law 492 = .ok (.iconst 0, 1) := by decide +kernel
theorem dL_law_493 : decode cL_law 493 = .ok (.ireturn, 1) := by decide +kernel
theorem dL_law_494 : decode cL_law 494 = .ok (.aload_n 1, 1) := by decide +kernel
theorem dL_law_495 : decode cL_law 495 = .ok (.aload_n 0, 1) := by decide +kernel
theorem dL_law_496 : decode cL_law 496 = .ok (.iload_n 3, 1) := by decide +kernel
theorem dL_law_497 : decode cL_law 497 = .ok (.iconst 1, 1) := by decide +kernel
theorem dL_law_498 : decode cL_law 498 = .ok (.iadd, 1) := by decide +kernel
theorem dL_law_499 : decode cL_law 499 = .ok (.iaload, 1) := by decide +kernel
theorem dL_law_500 : decode cL_law 500 = .ok (.aload_n 0, 1) := by decide +kernel
theorem dL_law_501 : decode cL_law 501 = .ok (.iload_n 3, 1) := by decide +kernel
theorem dL_law_502 : decode cL_law 502 = .ok (.iconst 2, 1) := by decide +kernel
theorem dL_law_503 : decode cL_law 503 = .ok (.iadd, 1) := by decide +kernel
theorem dL_law_504 : decode cL_law 504 = .ok (.iaload, 1) := by decide +kernel
theorem dL_law_505 : decode cL_law 505 = .ok (.invokevirtual 48, 3) := by decide +kernel
theorem dL_law_508 : decode cL_law 508 = .ok (.aload_n 2, 1) := by decide +kernel
theorem dL_law_509 : decode cL_law 509 = .ok (.aload_n 0, 1) := by decide +kernel
theorem dL_law_510 : decode cL_law 510 = .ok (.iload_n 3, 1) := by decide +kernel
theorem dL_law_511 : decode cL_law 511 = .ok (.iconst 1, 1) := by decide +kernel
theorem dL_law_512 : decode cL_law 512 = .ok (.iadd, 1) := by decide +kernel
theorem dL_law_513 : decode cL_law 513 = .ok (.iaload, 1) := by decide +kernel
theorem dL_law_514 : decode cL_law 514 = .ok (.aload_n 0, 1) := by decide +kernel
theorem dL_law_515 : decode cL_law 515 = .ok (.iload_n 3, 1) := by decide +kernel
theorem dL_law_516 : decode cL_law 516 = .ok (.iconst 2, 1) := by decide +kernel
theorem dL_law_517 : decode cL_law 517 = .ok (.iadd, 1) := by decide +kernel
theorem dL_law_518 : decode cL_law 518 = .ok (.iaload, 1) := by decide +kernel
theorem dL_law_519 : decode cL_law 519 = .ok (.invokevirtual 52, 3) := by decide +kernel
theorem dL_law_522 : decode cL_law 522 = .ok (.if_icmp .eq 472, 3) := by decide +kernel
theorem dL_law_525 : decode cL_law 525 = .ok (.iconst 0, 1) := by decide +kernel
theorem dL_law_526 : decode cL_law 526 = .ok (.ireturn, 1) := by decide +kernel
theorem dL_law_527 : decode cL_law 527 = .ok (.aload_n 1, 1) := by decide +kernel
theorem dL_law_528 : decode cL_law 528 = .ok (.aload_n 0, 1) := by decide +kernel
theorem dL_law_529 : decode cL_law 529 = .ok (.iload_n 3, 1) := by decide +kernel
theorem dL_law_530 : decode cL_law 530 = .ok (.iconst 1, 1) := by decide +kernel
theorem dL_law_531 : decode cL_law 531 = .ok (.iadd, 1) := by decide +kernel
theorem dL_law_532 : decode cL_law 532 = .ok (.iaload, 1) := by decide +kernel
theorem dL_law_533 : decode cL_law 533 = .ok (.aload_n 0, 1) := by decide +kernel
theorem dL_law_534 : decode cL_law 534 = .ok (.iload_n 3, 1) := by decide +kernel
theorem dL_law_535 : decode cL_law 535 = .ok (.iconst 2, 1) := by decide +kernel
theorem dL_law_536 : decode cL_law 536 = .ok (.iadd, 1) := by decide +kernel
theorem dL_law_537 : decode cL_law 537 = .ok (.iaload, 1) := by decide +kernel
theorem dL_law_538 : decode cL_law 538 = .ok (.invokevirtual 53, 3) := by decide +kernel
theorem dL_law_541 : decode cL_law 541 = .ok (.aload_n 2, 1) := by decide +kernel
theorem dL_law_542 : decode cL_law 542 = .ok (.aload_n 0, 1) := by decide +kernel
theorem dL_law_543 : decode cL_law 543 = .ok (.iload_n 3, 1) := by decide +kernel
theorem dL_law_544 : decode cL_law 544 = .ok (.iconst 1, 1) := by decide +kernel
theorem dL_law_545 : decode cL_law 545 = .ok (.iadd, 1) := by decide +kernel
theorem dL_law_546 : decode cL_law 546 = .ok (.iaload, 1) := by decide +kernel
theorem dL_law_547 : decode cL_law 547 = .ok (.aload_n 0, 1) := by decide +kernel
theorem dL_law_548 : decode cL_law 548 = .ok (.iload_n 3, 1) := by decide +kernel
theorem dL_law_549 : decode cL_law 549 = .ok (.iconst 2, 1) := by decide +kernel
theorem dL_law_550 : decode cL_law 550 = .ok (.iadd, 1) := by decide +kernel
theorem dL_law_551 : decode cL_law 551 = .ok (.iaload, 1) := by decide +kernel
theorem dL_law_552 : decode cL_law 552 = .ok (.invokevirtual 56, 3) := by decide +kernel
theorem dL_law_555 : decode cL_law 555 = .ok (.if_icmp .eq 439, 3) := by decide +kernel
theorem dL_law_558 : decode cL_law 558 = .ok (.iconst 0, 1) := by decide +kernel
theorem dL_law_559 : decode cL_law 559 = .ok (.ireturn, 1) := by decide +kernel
theorem dL_law_560 : decode cL_law 560 = .ok (.aload_n 1, 1) := by decide +kernel
theorem dL_law_561 : decode cL_law 561 = .ok (.aload_n 0, 1) := by decide +kernel
theorem dL_law_562 : decode cL_law 562 = .ok (.iload_n 3, 1) := by decide +kernel
theorem dL_law_563 : decode cL_law 563 = .ok (.iconst 1, 1) := by decide +kernel
theorem dL_law_564 : decode cL_law 564 = .ok (.iadd, 1) := by decide +kernel
theorem dL_law_565 : decode cL_law 565 = .ok (.iaload, 1) := by decide +kernel
theorem dL_law_566 : decode cL_law 566 = .ok (.aload_n 0, 1) := by decide +kernel
theorem dL_law_567 : decode cL_law 567 = .ok (.iload_n 3, 1) := by decide +kernel
theorem dL_law_568 : decode cL_law 568 = .ok (.iconst 2, 1) := by decide +kernel
theorem dL_law_569 : decode cL_law 569 = .ok (.iadd, 1) := by decide +kernel
theorem dL_law_570 : decode cL_law 570 = .ok (.iaload, 1) := by decide +kernel
theorem dL_law_571 : decode cL_law 571 = .ok (.aload_n 0, 1) := by decide +kernel
theorem dL_law_572 : decode cL_law 572 = .ok (.iload_n 3, 1) := by decide +kernel
theorem dL_law_573 : decode cL_law 573 = .ok (.iconst 3, 1) := by decide +kernel
theorem dL_law_574 : decode cL_law 574 = .ok (.iadd, 1) := by decide +kernel
theorem dL_law_575 : decode cL_law 575 = .ok (.iaload, 1) := by decide +kernel
theorem dL_law_576 : decode cL_law 576 = .ok (.i2l, 1) := by decide +kernel
theorem dL_law_577 : decode cL_law 577 = .ok (.bipush 32, 2) := by decide +kernel
theorem dL_law_579 : decode cL_law 579 = .ok (.lshl, 1) := by decide +kernel
theorem dL_law_580 : decode cL_law 580 = .ok (.aload_n 0, 1) := by decide +kernel
theorem dL_law_581 : decode cL_law 581 = .ok (.iload_n 3, 1) := by decide +kernel
theorem dL_law_582 : decode cL_law 582 = .ok (.iconst 4, 1) := by decide +kernel
theorem dL_law_583 : decode cL_law 583 = .ok (.iadd, 1) := by decide +kernel
theorem dL_law_584 : decode cL_law 584 = .ok (.iaload, 1) := by decide +kernel
theorem dL_law_585 : decode cL_law 585 = .ok (.i2l, 1) := by decide +kernel
theorem dL_law_586 : decode cL_law 586 = .ok (.ldc2_w 31, 3) := by decide +kernel
theorem dL_law_589 : decode cL_law 589 = .ok (.land, 1) := by decide +kernel
theorem dL_law_590 : decode cL_law 590 = .ok (.lor, 1) := by decide +kernel
theorem dL_law_591 : decode cL_law 591 = .ok (.aload_n 0, 1) := by decide +kernel
theorem dL_law_592 : decode cL_law 592 = .ok (.iload_n 3, 1) := by decide +kernel
theorem dL_law_593 : decode cL_law 593 = .ok (.iconst 5, 1) := by decide +kernel
theorem dL_law_594 : decode cL_law 594 = .ok (.iadd, 1) := by decide +kernel
theorem dL_law_595 : decode cL_law 595 = .ok (.iaload, 1) := by decide +kernel
theorem dL_law_596 : decode cL_law 596 = .ok (.invokevirtual 57, 3) := by decide +kernel
theorem dL_law_599 : decode cL_law 599 = .ok (.aload_n 2, 1) := by decide +kernel
theorem dL_law_600 : decode cL_law 600 = .ok (.aload_n 0, 1) := by decide +kernel
theorem dL_law_601 : decode cL_law 601 = .ok (.iload_n 3, 1) := by decide +kernel
theorem dL_law_602 : decode cL_law 602 = .ok (.iconst 1, 1) := by decide +kernel
theorem dL_law_603 : decode cL_law 603 = .ok (.iadd, 1) := by decide +kernel
theorem dL_law_604 : decode cL_law 604 = .ok (.iaload, 1) := by decide +kernel
theorem dL_law_605 : decode cL_law 605 = .ok (.aload_n 0, 1) := by decide +kernel
theorem dL_law_606 : decode cL_law 606 = .ok (.iload_n 3, 1) := by decide +kernel
theorem dL_law_607 : decode cL_law 607 = .ok (.iconst 2, 1) := by decide +kernel
theorem dL_law_608 : decode cL_law 608 = .ok (.iadd, 1) := by decide +kernel
theorem dL_law_609 : decode cL_law 609 = .ok (.iaload, 1) := by decide +kernel
theorem dL_law_610 : decode cL_law 610 = .ok (.aload_n 0, 1) := by decide +kernel
theorem dL_law_611 : decode cL_law 611 = .ok (.iload_n 3, 1) := by decide +kernel
theorem dL_law_612 : decode cL_law 612 = .ok (.iconst 3, 1) := by decide +kernel
theorem dL_law_613 : decode cL_law 613 = .ok (.iadd, 1) := by decide +kernel
theorem dL_law_614 : decode cL_law 614 = .ok (.iaload, 1) := by decide +kernel
theorem dL_law_615 : decode cL_law 615 = .ok (.i2l, 1) := by decide +kernel
theorem dL_law_616 : decode cL_law 616 = .ok (.bipush 32, 2) := by decide +kernel
theorem dL_law_618 : decode cL_law 618 = .ok (.lshl, 1) := by decide +kernel
theorem dL_law_619 : decode cL_law 619 = .ok (.aload_n 0, 1) := by decide +kernel
theorem dL_law_620 : decode cL_law 620 = .ok (.iload_n 3, 1) := by decide +kernel
theorem dL_law_621 : decode cL_law 621 = .ok (.iconst 4, 1) := by decide +kernel
theorem dL_law_622 : decode cL_law 622 = .ok (.iadd, 1) := by decide +kernel
theorem dL_law_623 : decode cL_law 623 = .ok (.iaload, 1) := by decide +kernel
theorem dL_law_624 : decode cL_law 624 = .ok (.i2l, 1) := by decide +kernel
theorem dL_law_625 : decode cL_law 625 = .ok (.ldc2_w 31, 3) := by decide +kernel
theorem dL_law_628 : decode cL_law 628 = .ok (.land, 1) := by decide +kernel
theorem dL_law_629 : decode cL_law 629 = .ok (.lor, 1) := by decide +kernel
theorem dL_law_630 : decode cL_law 630 = .ok (.aload_n 0, 1) := by decide +kernel
theorem dL_law_631 : decode cL_law 631 = .ok (.iload_n 3, 1) := by decide +kernel
theorem dL_law_632 : decode cL_law 632 = .ok (.iconst 5, 1) := by decide +kernel
theorem dL_law_633 : decode cL_law 633 = .ok (.iadd, 1) := by decide +kernel
theorem dL_law_634 : decode cL_law 634 = .ok (.iaload, 1) := by decide +kernel
theorem dL_law_635 : decode cL_law 635 = .ok (.invokevirtual 61, 3) := by decide +kernel
theorem dL_law_638 : decode cL_law 638 = .ok (.if_icmp .eq 356, 3) := by decide +kernel
theorem dL_law_641 : decode cL_law 641 = .ok (.iconst 0, 1) := by decide +kernel
theorem dL_law_642 : decode cL_law 642 = .ok (.ireturn, 1) := by decide +kernel
theorem dL_law_643 : decode cL_law 643 = .ok (.aload_n 1, 1) := by decide +kernel
theorem dL_law_644 : decode cL_law 644 = .ok (.aload_n 0, 1) := by decide +kernel
theorem dL_law_645 : decode cL_law 645 = .ok (.iload_n 3, 1) := by decide +kernel
theorem dL_law_646 : decode cL_law 646 = .ok (.iconst 1, 1) := by decide +kernel
theorem dL_law_647 : decode cL_law 647 = .ok (.iadd, 1) := by decide +kernel
theorem dL_law_648 : decode cL_law 648 = .ok (.iaload, 1) := by decide +kernel
theorem dL_law_649 : decode cL_law 649 = .ok (.invokevirtual 62, 3) := by decide +kernel
theorem dL_law_652 : decode cL_law 652 = .ok (.aload_n 2, 1) := by decide +kernel
theorem dL_law_653 : decode cL_law 653 = .ok (.aload_n 0, 1) := by decide +kernel
theorem dL_law_654 : decode cL_law 654 = .ok (.iload_n 3, 1) := by decide +kernel
theorem dL_law_655 : decode cL_law 655 = .ok (.iconst 1, 1) := by decide +kernel
theorem dL_law_656 : decode cL_law 656 = .ok (.iadd, 1) := by decide +kernel
theorem dL_law_657 : decode cL_law 657 = .ok (.iaload, 1) := by decide +kernel
theorem dL_law_658 : decode cL_law 658 = .ok (.invokevirtual 65, 3) := by decide +kernel
theorem dL_law_661 : decode cL_law 661 = .ok (.if_icmp .eq 333, 3) := by decide +kernel
theorem dL_law_664 : decode cL_law 664 = .ok (.iconst 0, 1) := by decide +kernel
theorem dL_law_665 : decode cL_law 665 = .ok (.ireturn, 1) := by decide +kernel
theorem dL_law_666 : decode cL_law 666 = .ok (.aload_n 1, 1) := by decide +kernel
theorem dL_law_667 : decode cL_law 667 = .ok (.aload_n 0, 1) := by decide +kernel
theorem dL_law_668 : decode cL_law 668 = .ok (.iload_n 3, 1) := by decide +kernel
theorem dL_law_669 : decode cL_law 669 = .ok (.iconst 1, 1) := by decide +kernel
theorem dL_law_670 : decode cL_law 670 = .ok (.iadd, 1) := by decide +kernel
theorem dL_law_671 : decode cL_law 671 = .ok (.iaload, 1) := by decide +kernel
theorem dL_law_672 : decode cL_law 672 = .ok (.invokevirtual 66, 3) := by decide +kernel
theorem dL_law_675 : decode cL_law 675 = .ok (.aload_n 2, 1) := by decide +kernel
theorem dL_law_676 : decode cL_law 676 = .ok (.aload_n 0, 1) := by decide +kernel
theorem dL_law_677 : decode cL_law 677 = .ok (.iload_n 3, 1) := by decide +kernel
theorem dL_law_678 : decode cL_law 678 = .ok (.iconst 1, 1) := by decide +kernel
theorem dL_law_679 : decode cL_law 679 = .ok (.iadd, 1) := by decide +kernel
theorem dL_law_680 : decode cL_law 680 = .ok (.iaload, 1) := by decide +kernel
theorem dL_law_681 : decode cL_law 681 = .ok (.invokevirtual 69, 3) := by decide +kernel
theorem dL_law_684 : decode cL_law 684 = .ok (.if_icmp .eq 310, 3) := by decide +kernel
theorem dL_law_687 : decode cL_law 687 = .ok (.iconst 0, 1) := by decide +kernel
theorem dL_law_688 : decode cL_law 688 = .ok (.ireturn, 1) := by decide +kernel
theorem dL_law_689 : decode cL_law 689 = .ok (.aload_n 1, 1) := by decide +kernel
theorem dL_law_690 : decode cL_law 690 = .ok (.invokevirtual 70, 3) := by decide +kernel
theorem dL_law_693 : decode cL_law 693 = .ok (.aload_n 2, 1) := by decide +kernel
theorem dL_law_694 : decode cL_law 694 = .ok (.invokevirtual 74, 3) := by decide +kernel
theorem dL_law_697 : decode cL_law 697 = .ok (.if_icmp .eq 297, 3) := by decide +kernel
theorem dL_law_700 : decode cL_law 700 = .ok (.iconst 0, 1) := by decide +kernel
theorem dL_law_701 : decode cL_law 701 = .ok (.ireturn, 1) := by decide +kernel
theorem dL_law_702 : decode cL_law 702 = .ok (.aload_n 1, 1) := by decide +kernel
theorem dL_law_703 : decode cL_law 703 = .ok (.invokevirtual 75, 3) := by decide +kernel
theorem dL_law_706 : decode cL_law 706 = .ok (.aload_n 2, 1) := by decide +kernel
theorem dL_law_707 : decode cL_law 707 = .ok (.invokevirtual 78, 3) := by decide +kernel
theorem dL_law_710 : decode cL_law 710 = .ok (.if_icmp .eq 284, 3) := by decide +kernel
theorem dL_law_713 : decode cL_law 713 = .ok (.iconst 0, 1) := by decide +kernel
theorem dL_law_714 : decode cL_law 714 = .ok (.ireturn, 1) := by decide +kernel
theorem dL_law_715 : decode cL_law 715 = .ok (.aload_n 1, 1) := by decide +kernel
theorem dL_law_716 : decode cL_law 716 = .ok (.aload_n 0, 1) := by decide +kernel
theorem dL_law_717 : decode cL_law 717 = .ok (.iload_n 3, 1) := by decide +kernel
theorem dL_law_718 : decode cL_law 718 = .ok (.iconst 1, 1) := by decide +kernel
theorem dL_law_719 : decode cL_law 719 = .ok (.iadd, 1) := by decide +kernel
theorem dL_law_720 : decode cL_law 720 = .ok (.iaload, 1) := by decide +kernel
theorem dL_law_721 : decode cL_law 721 = .ok (.aload_n 0, 1) := by decide +kernel
theorem dL_law_722 : decode cL_law 722 = .ok (.iload_n 3, 1) := by decide +kernel
theorem dL_law_723 : decode cL_law 723 = .ok (.iconst 2, 1) := by decide +kernel
theorem dL_law_724 : decode cL_law 724 = .ok (.iadd, 1) := by decide +kernel
theorem dL_law_725 : decode cL_law 725 = .ok (.iaload, 1) := by decide +kernel
theorem dL_law_726 : decode cL_law 726 = .ok (.aload_n 0, 1) := by decide +kernel
theorem dL_law_727 : decode cL_law 727 = .ok (.iload_n 3, 1) := by decide +kernel
theorem dL_law_728 : decode cL_law 728 = .ok (.iconst 3, 1) := by decide +kernel
theorem dL_law_729 : decode cL_law 729 = .ok (.iadd, 1) := by decide +kernel
theorem dL_law_730 : decode cL_law 730 = .ok (.iaload, 1) := by decide +kernel
theorem dL_law_731 : decode cL_law 731 = .ok (.aload_n 0, 1) := by decide +kernel
theorem dL_law_732 : decode cL_law 732 = .ok (.iload_n 3, 1) := by decide +kernel
theorem dL_law_733 : decode cL_law 733 = .ok (.iconst 4, 1) := by decide +kernel
theorem dL_law_734 : decode cL_law 734 = .ok (.iadd, 1) := by decide +kernel
theorem dL_law_735 : decode cL_law 735 = .ok (.iaload, 1) := by decide +kernel
theorem dL_law_736 : decode cL_law 736 = .ok (.i2l, 1) := by decide +kernel
theorem dL_law_737 : decode cL_law 737 = .ok (.bipush 32, 2) := by decide +kernel
theorem dL_law_739 : decode cL_law 739 = .ok (.lshl, 1) := by decide +kernel
theorem dL_law_740 : decode cL_law 740 = .ok (.aload_n 0, 1) := by decide +kernel
theorem dL_law_741 : decode cL_law 741 = .ok (.iload_n 3, 1) := by decide +kernel
theorem dL_law_742 : decode cL_law 742 = .ok (.iconst 5, 1) := by decide +kernel
theorem dL_law_743 : decode cL_law 743 = .ok (.iadd, 1) := by decide +kernel
theorem dL_law_744 : decode cL_law 744 = .ok (.iaload, 1) := by decide +kernel
theorem dL_law_745 : decode cL_law 745 = .ok (.i2l, 1) := by decide +kernel
theorem dL_law_746 : decode cL_law 746 = .ok (.ldc2_w 31, 3) := by decide +kernel
theorem dL_law_749 : decode cL_law 749 = .ok (.land, 1) := by decide +kernel
theorem dL_law_750 : decode cL_law 750 = .ok (.lor, 1) := by decide +kernel
theorem dL_law_751 : decode cL_law 751 = .ok (.aload_n 0, 1) := by decide +kernel
theorem dL_law_752 : decode cL_law 752 = .ok (.iload_n 3, 1) := by decide +kernel
theorem dL_law_753 : decode cL_law 753 = .ok (.bipush 6, 2) := by decide +kernel
theorem dL_law_755 : decode cL_law 755 = .ok (.iadd, 1) := by decide +kernel
theorem dL_law_756 : decode cL_law 756 = .ok (.iaload, 1) := by decide +kernel
theorem dL_law_757 : decode cL_law 757 = .ok (.invokevirtual 79, 3) := by decide +kernel
theorem dL_law_760 : decode cL_law 760 = .ok (.aload_n 2, 1) := by decide +kernel
theorem dL_law_761 : decode cL_law 761 = .ok (.aload_n 0, 1) := by decide +kernel
theorem dL_law_762 : decode cL_law 762 = .ok (.iload_n 3, 1) := by decide +kernel
theorem dL_law_763 : decode cL_law 763 = .ok (.iconst 1, 1) := by decide +kernel
theorem dL_law_764 : decode cL_law 764 = .ok (.iadd, 1) := by decide +kernel
theorem dL_law_765 : decode cL_law 765 = .ok (.iaload, 1) := by decide +kernel
theorem dL_law_766 : decode cL_law 766 = .ok (.aload_n 0, 1) := by decide +kernel
theorem dL_law_767 : decode cL_law 767 = .ok (.iload_n 3, 1) := by decide +kernel
theorem dL_law_768 : decode cL_law 768 = .ok (.iconst 2, 1) := by decide +kernel
theorem dL_law_769 : decode cL_law 769 = .ok (.iadd, 1) := by decide +kernel
theorem dL_law_770 : decode cL_law 770 = .ok (.iaload, 1) := by decide +kernel
theorem dL_law_771 : decode cL_law 771 = .ok (.aload_n 0, 1) := by decide +kernel
theorem dL_law_772 : decode cL_law 772 = .ok (.iload_n 3, 1) := by decide +kernel
theorem dL_law_773 : decode cL_law 773 = .ok (.iconst 3, 1) := by decide +kernel
theorem dL_law_774 : decode cL_law 774 = .ok (.iadd, 1) := by decide +kernel
theorem dL_law_775 : decode cL_law 775 = .ok (.iaload, 1) := by decide +kernel
theorem dL_law_776 : decode cL_law 776 = .ok (.aload_n 0, 1) := by decide +kernel
theorem dL_law_777 : decode cL_law 777 = .ok (.iload_n 3, 1) := by decide +kernel
theorem dL_law_778 : decode cL_law 778 = .ok (.iconst 4, 1) := by decide +kernel
theorem dL_law_779 : decode cL_law 779 = .ok (.iadd, 1) := by decide +kernel
theorem dL_law_780 : decode cL_law 780 = .ok (.iaload, 1) := by decide +kernel
theorem dL_law_781 : decode cL_law 781 = .ok (.i2l, 1) := by decide +kernel
theorem dL_law_782 : decode cL_law 782 = .ok (.bipush 32, 2) := by decide +kernel
theorem dL_law_784 : decode cL_law 784 = .ok (.lshl, 1) := by decide +kernel
theorem dL_law_785 : decode cL_law 785 = .ok (.aload_n 0, 1) := by decide +kernel
theorem dL_law_786 : decode cL_law 786 = .ok (.iload_n 3, 1) := by decide +kernel
theorem dL_law_787 : decode cL_law 787 = .ok (.iconst 5, 1) := by decide +kernel
theorem dL_law_788 : decode cL_law 788 = .ok (.iadd, 1) := by decide +kernel
theorem dL_law_789 : decode cL_law 789 = .ok (.iaload, 1) := by decide +kernel
theorem dL_law_790 : decode cL_law 790 = .ok (.i2l, 1) := by decide +kernel
theorem dL_law_791 : decode cL_law 791 = .ok (.ldc2_w 31, 3) := by decide +kernel
theorem dL_law_794 : decode cL_law 794 = .ok (.land, 1) := by decide +kernel
theorem dL_law_795 : decode cL_law 795 = .ok (.lor, 1) := by decide +kernel
theorem dL_law_796 : decode cL_law 796 = .ok (.aload_n 0, 1) := by decide +kernel
theorem dL_law_797 : decode cL_law 797 = .ok (.iload_n 3, 1) := by decide +kernel
theorem dL_law_798 : decode cL_law 798 = .ok (.bipush 6, 2) := by decide +kernel
theorem dL_law_800 : decode cL_law 800 = .ok (.iadd, 1) := by decide +kernel
theorem dL_law_801 : decode cL_law 801 = .ok (.iaload, 1) := by decide +kernel
theorem dL_law_802 : decode cL_law 802 = .ok (.invokevirtual 83, 3) := by decide +kernel
theorem dL_law_805 : decode cL_law 805 = .ok (.lcmp, 1) := by decide +kernel
theorem dL_law_806 : decode cL_law 806 = .ok (.ifCond .eq 188, 3) := by decide +kernel
theorem dL_law_809 : decode cL_law 809 = .ok (.iconst 0, 1) := by decide +kernel
theorem dL_law_810 : decode cL_law 810 = .ok (.ireturn, 1) := by decide +kernel
theorem dL_law_811 : decode cL_law 811 = .ok (.aload_n 1, 1) := by decide +kernel
theorem dL_law_812 : decode cL_law 812 = .ok (.invokevirtual 84, 3) := by decide +kernel
theorem dL_law_815 : decode cL_law 815 = .ok (.aload_n 2, 1) := by decide +kernel
theorem dL_law_816 : decode cL_law 816 = .ok (.invokevirtual 87, 3) := by decide +kernel
theorem dL_law_819 : decode cL_law 819 = .ok (.if_icmp .eq 175, 3) := by decide +kernel
theorem dL_law_822 : decode cL_law 822 = .ok (.iconst 0, 1) := by decide +kernel
theorem dL_law_823 : decode cL_law 823 = .ok (.ireturn, 1) := by decide +kernel
theorem dL_law_824 : decode cL_law 824 = .ok (.aload_n 1, 1) := by decide +kernel
theorem dL_law_825 : decode cL_law 825 = .ok (.invokevirtual 88, 3) := by decide +kernel
theorem dL_law_828 : decode cL_law 828 = .ok (.aload_n 2, 1) := by decide +kernel
theorem dL_law_829 : decode cL_law 829 = .ok (.invokevirtual 91, 3) := by decide +kernel
theorem dL_law_832 : decode cL_law 832 = .ok (.goto 162, 3) := by decide +kernel
theorem dL_law_835 : decode cL_law 835 = .ok (.aload_n 1, 1) := by decide +kernel
theorem dL_law_836 : decode cL_law 836 = .ok (.aload_n 0, 1) := by decide +kernel
theorem dL_law_837 : decode cL_law 837 = .ok (.iload_n 3, 1) := by decide +kernel
theorem dL_law_838 : decode cL_law 838 = .ok (.iconst 1, 1) := by decide +kernel
theorem dL_law_839 : decode cL_law 839 = .ok (.iadd, 1) := by decide +kernel
theorem dL_law_840 : decode cL_law 840 = .ok (.iaload, 1) := by decide +kernel
theorem dL_law_841 : decode cL_law 841 = .ok (.invokevirtual 92, 3) := by decide +kernel
theorem dL_law_844 : decode cL_law 844 = .ok (.aload_n 2, 1) := by decide +kernel
theorem dL_law_845 : decode cL_law 845 = .ok (.aload_n 0, 1) := by decide +kernel
theorem dL_law_846 : decode cL_law 846 = .ok (.iload_n 3, 1) := by decide +kernel
theorem dL_law_847 : decode cL_law 847 = .ok (.iconst 1, 1) := by decide +kernel
theorem dL_law_848 : decode cL_law 848 = .ok (.iadd, 1) := by decide +kernel
theorem dL_law_849 : decode cL_law 849 = .ok (.iaload, 1) := by decide +kernel
theorem dL_law_850 : decode cL_law 850 = .ok (.invokevirtual 95, 3) := by decide +kernel
theorem dL_law_853 : decode cL_law 853 = .ok (.if_icmp .eq 141, 3) := by decide +kernel
theorem dL_law_856 : decode cL_law 856 = .ok (.iconst 0, 1) := by decide +kernel
theorem dL_law_857 : decode cL_law 857 = .ok (.ireturn, 1) := by decide +kernel
theorem dL_law_858 : decode cL_law 858 = .ok (.aload_n 1, 1) := by decide +kernel
theorem dL_law_859 : decode cL_law 859 = .ok (.aload_n 0, 1) := by decide +kernel
theorem dL_law_860 : decode cL_law 860 = .ok (.iload_n 3, 1) := by decide +kernel
theorem dL_law_861 : decode cL_law 861 = .ok (.iconst 1, 1) := by decide +kernel
theorem dL_law_862 : decode cL_law 862 = .ok (.iadd, 1) := by decide +kernel
theorem dL_law_863 : decode cL_law 863 = .ok (.iaload, 1) := by decide +kernel
theorem dL_law_864 : decode cL_law 864 = .ok (.aload_n 0, 1) := by decide +kernel
theorem dL_law_865 : decode cL_law 865 = .ok (.iload_n 3, 1) := by decide +kernel
theorem dL_law_866 : decode cL_law 866 = .ok (.iconst 2, 1) := by decide +kernel
theorem dL_law_867 : decode cL_law 867 = .ok (.iadd, 1) := by decide +kernel
theorem dL_law_868 : decode cL_law 868 = .ok (.iaload, 1) := by decide +kernel
theorem dL_law_869 : decode cL_law 869 = .ok (.invokevirtual 96, 3) := by decide +kernel
theorem dL_law_872 : decode cL_law 872 = .ok (.aload_n 2, 1) := by decide +kernel
theorem dL_law_873 : decode cL_law 873 = .ok (.aload_n 0, 1) := by decide +kernel
theorem dL_law_874 : decode cL_law 874 = .ok (.iload_n 3, 1) := by decide +kernel
theorem dL_law_875 : decode cL_law 875 = .ok (.iconst 1, 1) := by decide +kernel
theorem dL_law_876 : decode cL_law 876 = .ok (.iadd, 1) := by decide +kernel
theorem dL_law_877 : decode cL_law 877 = .ok (.iaload, 1) := by decide +kernel
theorem dL_law_878 : decode cL_law 878 = .ok (.aload_n 0, 1) := by decide +kernel
theorem dL_law_879 : decode cL_law 879 = .ok (.iload_n 3, 1) := by decide +kernel
theorem dL_law_880 : decode cL_law 880 = .ok (.iconst 2, 1) := by decide +kernel
theorem dL_law_881 : decode cL_law 881 = .ok (.iadd, 1) := by decide +kernel
theorem dL_law_882 : decode cL_law 882 = .ok (.iaload, 1) := by decide +kernel
theorem dL_law_883 : decode cL_law 883 = .ok (.invokevirtual 99, 3) := by decide +kernel
theorem dL_law_886 : decode cL_law 886 = .ok (.if_icmp .eq 108, 3) := by decide +kernel
theorem dL_law_889 : decode cL_law 889 = .ok (.iconst 0, 1) := by decide +kernel
theorem dL_law_890 : decode cL_law 890 = .ok (.ireturn, 1) := by decide +kernel
theorem dL_law_891 : decode cL_law 891 = .ok (.aload_n 1, 1) := by decide +kernel
theorem dL_law_892 : decode cL_law 892 = .ok (.aload_n 0, 1) := by decide +kernel
theorem dL_law_893 : decode cL_law 893 = .ok (.iload_n 3, 1) := by decide +kernel
theorem dL_law_894 : decode cL_law 894 = .ok (.iconst 1, 1) := by decide +kernel
theorem dL_law_895 : decode cL_law 895 = .ok (.iadd, 1) := by decide +kernel
theorem dL_law_896 : decode cL_law 896 = .ok (.iaload, 1) := by decide +kernel
theorem dL_law_897 : decode cL_law 897 = .ok (.aload_n 0, 1) := by decide +kernel
theorem dL_law_898 : decode cL_law 898 = .ok (.iload_n 3, 1) := by decide +kernel
theorem dL_law_899 : decode cL_law 899 = .ok (.iconst 2, 1) := by decide +kernel
theorem dL_law_900 : decode cL_law 900 = .ok (.iadd, 1) := by decide +kernel
theorem dL_law_901 : decode cL_law 901 = .ok (.iaload, 1) := by decide +kernel
theorem dL_law_902 : decode cL_law 902 = .ok (.invokevirtual 100, 3) := by decide +kernel
theorem dL_law_905 : decode cL_law 905 = .ok (.aload_n 2, 1) := by decide +kernel
theorem dL_law_906 : decode cL_law 906 = .ok (.aload_n 0, 1) := by decide +kernel
theorem dL_law_907 : decode cL_law 907 = .ok (.iload_n 3, 1) := by decide +kernel
theorem dL_law_908 : decode cL_law 908 = .ok (.iconst 1, 1) := by decide +kernel
theorem dL_law_909 : decode cL_law 909 = .ok (.iadd, 1) := by decide +kernel
theorem dL_law_910 : decode cL_law 910 = .ok (.iaload, 1) := by decide +kernel
theorem dL_law_911 : decode cL_law 911 = .ok (.aload_n 0, 1) := by decide +kernel
theorem dL_law_912 : decode cL_law 912 = .ok (.iload_n 3, 1) := by decide +kernel
theorem dL_law_913 : decode cL_law 913 = .ok (.iconst 2, 1) := by decide +kernel
theorem dL_law_914 : decode cL_law 914 = .ok (.iadd, 1) := by decide +kernel
theorem dL_law_915 : decode cL_law 915 = .ok (.iaload, 1) := by decide +kernel
theorem dL_law_916 : decode cL_law 916 = .ok (.invokevirtual 103, 3) := by decide +kernel
theorem dL_law_919 : decode cL_law 919 = .ok (.lcmp, 1) := by decide +kernel
theorem dL_law_920 : decode cL_law 920 = .ok (.ifCond .eq 74, 3) := by decide +kernel
theorem dL_law_923 : decode cL_law 923 = .ok (.iconst 0, 1) := by decide +kernel
theorem dL_law_924 : decode cL_law 924 = .ok (.ireturn, 1) := by decide +kernel
theorem dL_law_925 : decode cL_law 925 = .ok (.aload_n 1, 1) := by decide +kernel
theorem dL_law_926 : decode cL_law 926 = .ok (.aload_n 0, 1) := by decide +kernel
theorem dL_law_927 : decode cL_law 927 = .ok (.iload_n 3, 1) := by decide +kernel
theorem dL_law_928 : decode cL_law 928 = .ok (.iconst 1, 1) := by decide +kernel
theorem dL_law_929 : decode cL_law 929 = .ok (.iadd, 1) := by decide +kernel
theorem dL_law_930 : decode cL_law 930 = .ok (.iaload, 1) := by decide +kernel
theorem dL_law_931 : decode cL_law 931 = .ok (.invokevirtual 104, 3) := by decide +kernel
theorem dL_law_934 : decode cL_law 934 = .ok (.aload_n 2, 1) := by decide +kernel
theorem dL_law_935 : decode cL_law 935 = .ok (.aload_n 0, 1) := by decide +kernel
theorem dL_law_936 : decode cL_law 936 = .ok (.iload_n 3, 1) := by decide +kernel
theorem dL_law_937 : decode cL_law 937 = .ok (.iconst 1, 1) := by decide +kernel
theorem dL_law_938 : decode cL_law 938 = .ok (.iadd, 1) := by decide +kernel
theorem dL_law_939 : decode cL_law 939 = .ok (.iaload, 1) := by decide +kernel
theorem dL_law_940 : decode cL_law 940 = .ok (.invokevirtual 107, 3) := by decide +kernel
theorem dL_law_943 : decode cL_law 943 = .ok (.if_icmp .eq 51, 3) := by decide +kernel
theorem dL_law_946 : decode cL_law 946 = .ok (.iconst 0, 1) := by decide +kernel
theorem dL_law_947 : decode cL_law 947 = .ok (.ireturn, 1) := by decide +kernel
theorem dL_law_948 : decode cL_law 948 = .ok (.aload_n 1, 1) := by decide +kernel
theorem dL_law_949 : decode cL_law 949 = .ok (.aload_n 0, 1) := by decide +kernel
theorem dL_law_950 : decode cL_law 950 = .ok (.iload_n 3, 1) := by decide +kernel
theorem dL_law_951 : decode cL_law 951 = .ok (.iconst 1, 1) := by decide +kernel
theorem dL_law_952 : decode cL_law 952 = .ok (.iadd, 1) := by decide +kernel
theorem dL_law_953 : decode cL_law 953 = .ok (.iaload, 1) := by decide +kernel
theorem dL_law_954 : decode cL_law 954 = .ok (.invokevirtual 108, 3) := by decide +kernel
theorem dL_law_957 : decode cL_law 957 = .ok (.aload_n 2, 1) := by decide +kernel
theorem dL_law_958 : decode cL_law 958 = .ok (.aload_n 0, 1) := by decide +kernel
theorem dL_law_959 : decode cL_law 959 = .ok (.iload_n 3, 1) := by decide +kernel
theorem dL_law_960 : decode cL_law 960 = .ok (.iconst 1, 1) := by decide +kernel
theorem dL_law_961 : decode cL_law 961 = .ok (.iadd, 1) := by decide +kernel
theorem dL_law_962 : decode cL_law 962 = .ok (.iaload, 1) := by decide +kernel
theorem dL_law_963 : decode cL_law 963 = .ok (.invokevirtual 112, 3) := by decide +kernel
theorem dL_law_966 : decode cL_law 966 = .ok (.if_icmp .eq 28, 3) := by decide +kernel
theorem dL_law_969 : decode cL_law 969 = .ok (.iconst 0, 1) := by decide +kernel
theorem dL_law_970 : decode cL_law 970 = .ok (.ireturn, 1) := by decide +kernel
theorem dL_law_971 : decode cL_law 971 = .ok (.aload_n 1, 1) := by decide +kernel
theorem dL_law_972 : decode cL_law 972 = .ok (.aload_n 0, 1) := by decide +kernel
theorem dL_law_973 : decode cL_law 973 = .ok (.iload_n 3, 1) := by decide +kernel
theorem dL_law_974 : decode cL_law 974 = .ok (.iconst 1, 1) := by decide +kernel
theorem dL_law_975 : decode cL_law 975 = .ok (.iadd, 1) := by decide +kernel
theorem dL_law_976 : decode cL_law 976 = .ok (.iaload, 1) := by decide +kernel
theorem dL_law_977 : decode cL_law 977 = .ok (.invokevirtual 113, 3) := by decide +kernel
theorem dL_law_980 : decode cL_law 980 = .ok (.aload_n 2, 1) := by decide +kernel
theorem dL_law_981 : decode cL_law 981 = .ok (.aload_n 0, 1) := by decide +kernel
theorem dL_law_982 : decode cL_law 982 = .ok (.iload_n 3, 1) := by decide +kernel
theorem dL_law_983 : decode cL_law 983 = .ok (.iconst 1, 1) := by decide +kernel
theorem dL_law_984 : decode cL_law 984 = .ok (.iadd, 1) := by decide +kernel
theorem dL_law_985 : decode cL_law 985 = .ok (.iaload, 1) := by decide +kernel
theorem dL_law_986 : decode cL_law 986 = .ok (.invokevirtual 116, 3) := by decide +kernel
theorem dL_law_989 : decode cL_law 989 = .ok (.if_icmp .eq 5, 3) := by decide +kernel
theorem dL_law_992 : decode cL_law 992 = .ok (.iconst 0, 1) := by decide +kernel
theorem dL_law_993 : decode cL_law 993 = .ok (.ireturn, 1) := by decide +kernel
theorem dL_law_994 : decode cL_law 994 = .ok (.iinc 3 9, 3) := by decide +kernel
theorem dL_law_997 : decode cL_law 997 = .ok (.goto (-979), 3) := by decide +kernel
theorem dL_law_1000 : decode cL_law 1000 = .ok (.iconst 1, 1) := by decide +kernel
theorem dL_law_1001 : decode cL_law 1001 = .ok (.ireturn, 1) := by decide +kernel
end
section
/-! ===== the memory picture: the next address, what each address of ours holds, what stands fixed below ===== -/
abbrev ME : Type := (FieldType × vp_A) ⊕ (Nat × List Value)
abbrev KC : Type := (Nat → Nat) × (Nat → Option (FieldType × Nat × (Nat → Int32))) × (Nat → Option Nat)
abbrev Mem : Type := Nat × (Nat → Option ME) × KC
/-- a method: its bytes, its locals, its owner, its return type, its room, its name -/
abbrev MD : Type := ByteArray × Nat × String × Option FieldType × Room × String
/-- the machine's side of a walk -/
abbrev KT : Type := Program × Launch × Env × State × MethodId × Array Value × List Frame × Method × Code × Nat × va_G × (FieldType → ClassId) × KC × Option Value × Mem
def mst (M : Mem) (a : Nat) (e : ME) : Mem := (M.1, fun b => if b = a then some e else M.2.1 b, M.2.2)
def mnw (M : Mem) (e : ME) : Mem := (M.1 + 1, fun b => if b = M.1 then some e else M.2.1 b, M.2.2)
def tysOf (ca : FieldType → ClassId) : List (ClassId × FieldType) := [(ca .int, .int), (ca .long, .long), (ca .byte, .byte), (ca .boolean, .boolean), (ca (.object RX1), .object RX1), (ca (.object RX3), .object RX3)]
def exM (D : va_G) (ca : FieldType → ClassId) (a : Nat) (e : ME) (H : Heap) : Prop := match e with
  | .inl q => H[a]? = some (vp_cell (ca q.1) q.2) ∧ ∃ i : Nat, (tysOf ca)[i]? = some (ca q.1, q.1)
  | .inr o => ∃ r : vw_C, vwCl[o.1]? = some r ∧ t_OB a (D.1 o.1) r.2.2 (D.2 o.1) H (vp_V o.2)
def RepW (z : Nat) (D : va_G) (ca : FieldType → ClassId) (M : Mem) (H : Heap) : Prop := ∀ (a : Nat) (e : ME), M.2.1 a = some e → z ≤ a ∧ exM D ca a e H
def strTbl : List (Nat × String) := [(56, "zero"), (58, "one"), (60, "two"), (62, "three"), (64, "four"), (66, "five"), (68, "six"), (70, "seven"), (72, "eight"), (74, "nine"), (76, "ten"), (78, "eleven"), (80, "twelve"), (82, "thirteen"), (84, "fourteen"), (86, "fifteen"), (88, "sixteen"), (90, "seventeen"), (92, "eighteen"), (94, "nineteen"), (96, "twenty"), (98, "thirty"), (100, "forty"), (102, "fifty"), (104, "sixty"), (106, "seventy"), (108, "eighty"), (110, "ninety"), (112, "hundred"), (114, "thousand"), (116, "million"), (118, "")]
def nestTbl : List (Nat × String × MethodName) := [(51, RX3, yX7_isKind), (117, RX2, yX7_isDigit), (41, RX1, yX7_byteOf)]
def RepK (z : Nat) (kc : KC) (U : State) (H : Heap) : Prop :=
  (∀ (a : Nat) (ty : FieldType) (n : Nat) (f : Nat → Int32), kc.2.1 a = some (ty, n, f) → va_T ty a n (fun j => .int (f j)) (fun q => z ≤ q) U H) ∧
  (∀ (a v : Nat), kc.2.2 a = some v → va_O RJ0 a (fun q => z ≤ q) U H ∧ va_OF RJ0 "coder" "B" (.int 0) a (fun q => z ≤ q) U H ∧ va_OF RJ0 "value" "[B" (.ref v) a (fun q => z ≤ q) U H) ∧
  va_Z RX0 "LENGTHS" "[I" (.ref (kc.1 0)) (fun q => z ≤ q) U H ∧ va_Z RJ0 "COMPACT_STRINGS" "Z" (.int 1) (fun q => z ≤ q) U H ∧
  (∀ q ∈ strTbl, vk_R RX5 q.1 q.2 (kc.1 q.1) U) ∧ (∀ q ∈ nestTbl, va_Nw (.methodLinkNest q.2.1 q.1 q.2.2 RX7) U) ∧ va_AO RX1 U ∧ va_AO RX3 U
theorem RepK.same {z : Nat} {kc : KC} {u U : State} {H : Heap} (hv : U.vm = u.vm) (h : RepK z kc u H) : RepK z kc U H := by
  obtain ⟨h1, h2, h3, h4, h5, h6, h7, h8⟩ := h
  have al : u.vm.Alike U.vm := by rw [hv]; exact Vm.Alike.refl _
  exact ⟨fun a ty n f e => (h1 a ty n f e).moved al, fun a v e => ⟨(h2 a v e).1.moved al, (h2 a v e).2.1.moved al, (h2 a v e).2.2.moved al⟩, h3.moved al, h4.moved al, fun q hq => vk_R.same hv (h5 q hq), fun q hq => va_Nw.same rfl hv.symm (h6 q hq), h7.moved al, h8.moved al⟩
theorem RepK.go {z : Nat} {kc : KC} {s U : State} {H : Heap} {locs : List Loc} (hW : s.WarmedH U.vm) (hS : va_S (fun q => z ≤ q) s.heap H locs) (h : RepK z kc s s.heap) : RepK z kc U H := by
  obtain ⟨h1, h2, h3, h4, h5, h6, h7, h8⟩ := h
  have al : s.vm.Alike U.vm := hW.alike
  exact ⟨fun a ty n f e => ((h1 a ty n f e).moved al).kept hS.2.1, fun a v e => ⟨((h2 a v e).1.moved al).kept hS.2.1, ((h2 a v e).2.1.moved al).kept hS.2.1, ((h2 a v e).2.2.moved al).kept hS.2.1⟩, (h3.moved al).kept hS.2.1, (h4.moved al).kept hS.2.1, fun q hq => vk_R.warm hW (h5 q hq), fun q hq => va_Nw.warmM hW (h6 q hq), h7.moved al, h8.moved al⟩
/-- the world at a state -/
def Wd (z : Nat) (D : va_G) (ca : FieldType → ClassId) (M : Mem) (U : State) : Prop :=
  z ≤ U.heap.size ∧ M.1 = U.heap.size ∧ RepW z D ca M U.heap ∧ va_K D vwCl (tysOf ca) U ∧ RepK z M.2.2 U U.heap
theorem Wd.blind {z : Nat} {D : va_G} {ca : FieldType → ClassId} {M : Mem} {U : State} {g : JFrame} {mk : MethodId} {a : Array Value} (h : Wd z D ca M U) : Wd z D ca M (U.calling g mk a) :=
  ⟨h.1, h.2.1, h.2.2.1, va_K.moved (u := U) (U := U.calling g mk a) (Vm.Alike.refl U.vm) h.2.2.2.1, RepK.same (u := U) (U := U.calling g mk a) rfl h.2.2.2.2⟩
def QM (z : Nat) (D : va_G) (ca : FieldType → ClassId) (kc : KC) (r : Option Value) (M' : Mem) : Array Value → State → Outcome → State → Prop := fun _ st o t => o = .returned r ∧ M'.2.2 = kc ∧ Wd z D ca M' t ∧ va_F (fun q => z ≤ q) st t
abbrev gT : List Cond := lw_tbl.filter goodWord
/-- a method's contract: from this memory with these arguments it answers r and leaves the memory M' -/
def Cn (l : Launch) (y : MethodName) (μ : MD) (args : List Value) (M : Mem) (r : Option Value) (M' : Mem) : Prop :=
  ∀ (z : Nat) (D : va_G) (ca : FieldType → ClassId), Met l y (.code y μ.1 μ.2.1 μ.2.2.2.1 :: gT) μ.2.2.2.2.1 (va_Pc args (Wd z D ca M)) (QM z D ca M.2.2 r M') μ.2.2.2.2.1.cells μ.2.2.2.2.1.slots (fun q => z ≤ q)
/-- what holds in a walk -/
def OkK : KT → MD → Prop := fun (p, l, e, s, m, args, below, meth, c, z, D, ca, kc, r, M') (cc, nL, own, ret, R, nm) =>
  p.tables.exec = Jvm.exec ∧ c.code = cc ∧ c.maxLocals = nL ∧ s.vm.findClass own = some m.cls ∧ (∀ w ∈ lw_tbl, goodWord w = true → w.before args s = true) ∧ meth.locks = false ∧ meth.sig.returnType = ret ∧ meth.name = nm ∧ va_K D vwCl (tysOf ca) s ∧ RepK z kc s s.heap ∧ z ≤ s.heap.size
def G : KT → MD → Nat → Nat → Nat → List (Nat × Value) → List Value → Mem → Prop := fun (p, l, e, s, m, args, below, meth, c, z, D, ca, kc, r, M') (cc, nL, own, ret, R, nm) cells slots pc lv st M =>
  ∀ (H : Heap) (ls : Array Slot) (locs : List Loc), M.1 = H.size → M.2.2 = kc → RepW z D ca M H → va_S (fun q => z ≤ q) s.heap H locs → lv_has ls nL lv → W p l e R s m args below meth c H locs cells slots (MQ below (QM z D ca kc r M') args s R.cells R.slots (fun q => z ≤ q)) (F0 m pc ls st)
theorem goodIn_gT {y : MethodName} {cc : ByteArray} {nL : Nat} {ret : Option FieldType} {args : Array Value} {s : State} (hc : Cond.code y cc nL ret ∈ lw_tbl) (ht : ∀ w ∈ lw_tbl, goodWord w = true → w.before args s = true) :
    ∀ w ∈ (Cond.code y cc nL ret :: gT), ∀ (a' : Array Value) (U : State), s.WarmedH U.vm → w.before a' U = true := by
  intro w hw a' U hW
  have h : w ∈ lw_tbl ∧ goodWord w = true := by
    rcases List.mem_cons.mp hw with rfl | h
    · exact ⟨hc, rfl⟩
    · exact List.mem_filter.mp h
  exact word_at hW (good_of_word h.2) (ht w h.1 h.2)
theorem Cn.of {l : Launch} {y : MethodName} {μ : MD} {args : List Value} {M : Mem} {r : Option Value} {M' : Mem} (lv : List (Nat × Value)) (hy : plainName y.cls = true) (hown : y.cls = μ.2.2.1) (hnm : y.name = μ.2.2.2.2.2) (hlen : (lg_sl args).length ≤ μ.2.1) (hlv : lv_args 0 args = lv)
    (body : ∀ κ : KT, κ.2.1 = l → κ.2.2.2.2.2.2.2.2.2.2.2.2.2 = (r, M') → OkK κ μ → G κ μ 0 0 0 lv [] M) : Cn l y μ args M r M' := by
  intro z D ca
  obtain ⟨cc, nL, own, ret, R, nm⟩ := μ
  refine Met.ofW (cc := cc) (maxL := nL) (ret := ret) hy rfl ?_
  intro p e s m args' below meth c s₁ B hml hv
  obtain ⟨rfl, hz, hn, hP, hK, hR⟩ := hv
  have hts := atoms_spec (ws := Cond.code y cc nL ret :: gT) B.pre
  have hl := lv_entry args (n := nL) hlen
  rw [hlv] at hl
  rw [lg_entry_eq]
  exact body (p, l, e, s, m, args.toArray, below, meth, c, z, D, ca, M.2.2, r, M') rfl rfl ⟨B.exec, B.bytes, hml, by have h := findClass_of_methodNamed B.named; rw [hown] at h; exact h, fun w hw hg => hts w (List.mem_cons_of_mem _ (List.mem_filter.mpr ⟨hw, hg⟩)), B.notSynchronized, B.returns, (name_of_methodNamed B.named B.method).1.trans hnm, hK, hR, hz⟩ s.heap _ [] hn rfl hP va_S.rf hl

theorem exM.lt {D : va_G} {ca : FieldType → ClassId} {a : Nat} {e : ME} {H : Heap} (h : exM D ca a e H) : a < H.size := by
  obtain q | o := e
  · exact (Array.getElem?_eq_some_iff.mp h.1).1
  · obtain ⟨r, -, cell, h1, -⟩ := h
    exact (Array.getElem?_eq_some_iff.mp h1).1
theorem exM.kept {D : va_G} {ca : FieldType → ClassId} {a : Nat} {e : ME} {H H1 : Heap} (h : exM D ca a e H) (hq : H1[a]? = H[a]?) : exM D ca a e H1 := by
  obtain q | o := e
  · exact ⟨hq.trans h.1, h.2⟩
  · obtain ⟨r, h1, h2⟩ := h
    exact ⟨r, h1, h2.kept hq⟩
theorem RepW.put {z : Nat} {D : va_G} {ca : FieldType → ClassId} {M : Mem} {H H1 : Heap} {a : Nat} {e : ME} (h : RepW z D ca M H) (hz : z ≤ a) (he : exM D ca a e H1) (oq : ∀ q : Nat, q ≠ a → H1[q]? = H[q]?) : RepW z D ca (mst M a e) H1 := by
  intro b e2 hb
  simp only [mst] at hb
  by_cases hba : b = a
  · subst hba
    rw [if_pos rfl] at hb
    cases hb
    exact ⟨hz, he⟩
  · rw [if_neg hba] at hb
    exact ⟨(h b e2 hb).1, (h b e2 hb).2.kept (oq b hba)⟩
theorem RepW.mk {z : Nat} {D : va_G} {ca : FieldType → ClassId} {M : Mem} {H H1 : Heap} {e : ME} (h : RepW z D ca M H) (hn : M.1 = H.size) (hz : z ≤ H.size) (he : exM D ca H.size e H1) (oq : ∀ q : Nat, q < H.size → H1[q]? = H[q]?) : RepW z D ca (mnw M e) H1 := by
  intro b e2 hb
  simp only [mnw] at hb
  rw [hn] at hb
  by_cases hba : b = H.size
  · subst hba
    rw [if_pos rfl] at hb
    cases hb
    exact ⟨hz, he⟩
  · rw [if_neg hba] at hb
    exact ⟨(h b e2 hb).1, (h b e2 hb).2.kept (oq b (h b e2 hb).2.lt)⟩
theorem u_good {C : String} {T : u_T} {N : Nat} : ∀ w ∈ u_ws C T N, goodWord w = true := by
  intro w hw
  obtain ⟨k, -, rfl⟩ := List.mem_map.mp hw
  unfold u_lay
  split <;> rfl
theorem u_gT {C : String} {T : u_T} {N : Nat} (h : ∀ w ∈ u_ws C T N, w ∈ lw_tbl) : ∀ w ∈ u_ws C T N, w ∈ gT := fun w hw => List.mem_filter.mpr ⟨h w hw, u_good w hw⟩
theorem sg_P {D : va_G} {q : Nat × va_E} {H : Heap} (h : va_at D vwCl q H) : va_P D vwCl [q] H := by
  intro k x hk
  have hz : k < 1 := (List.getElem?_eq_some_iff.mp hk).1
  rw [show k = 0 by omega] at hk
  cases hk
  exact h
/-! ===== the words of the shallow functions ===== -/
def gF (M : Mem) (ci a k : Nat) : Option Value := match M.2.1 a with
  | some (.inr (c, fs)) => if c = ci then fs[k]? else none
  | _ => none
def vI : Value → Option Int32
  | .int x => some x
  | _ => none
def vL : Value → Option Int64
  | .long x => some x
  | _ => none
def vN : Value → Option Nat
  | .ref x => some x
  | _ => none
def gI (M : Mem) (ci a k : Nat) : Option Int32 := (gF M ci a k).bind vI
def gL (M : Mem) (ci a k : Nat) : Option Int64 := (gF M ci a k).bind vL
def gN (M : Mem) (ci a k : Nat) : Option Nat := (gF M ci a k).bind vN
def pF (M : Mem) (ci a k : Nat) (v : Value) : Option Mem := match M.2.1 a with
  | some (.inr (c, fs)) => if c = ci ∧ k < fs.length then some (mst M a (.inr (c, fs.set k v))) else none
  | _ => none
def ck (M : Mem) (ci a : Nat) : Option Unit := match M.2.1 a with
  | some (.inr (c, _)) => if c = ci then some () else none
  | _ => none
def ckS (M : Mem) (a : Nat) : Option Unit := match M.2.2.2.2 a with
  | some _ => some ()
  | _ => none
def inr (i : Int32) (n : Nat) : Bool := decide (¬ i < 0) && decide (i.toNatClampNeg < n)
def aI (M : Mem) (a : Nat) (i : Int32) : Option Int32 := match M.2.1 a with
  | some (.inl (.int, n, .inl f)) => if inr i n = true then some (f i.toNatClampNeg) else none
  | _ => none
def aL (M : Mem) (a : Nat) (i : Int32) : Option Int64 := match M.2.1 a with
  | some (.inl (.long, n, .inr (.inl f))) => if inr i n = true then some (f i.toNatClampNeg) else none
  | _ => none
def aB (M : Mem) (a : Nat) (i : Int32) : Option Int32 := match M.2.1 a with
  | some (.inl (.byte, n, .inl f)) => if inr i n = true then some (f i.toNatClampNeg) else none
  | _ => none
def aZ (M : Mem) (a : Nat) (i : Int32) : Option Int32 := match M.2.1 a with
  | some (.inl (.boolean, n, .inl f)) => if inr i n = true then some (f i.toNatClampNeg) else none
  | _ => none
def aQ (M : Mem) (a : Nat) (i : Int32) : Option (Option Nat) := match M.2.1 a with
  | some (.inl (.object _, n, .inr (.inr (.inr (.inr f))))) => if inr i n = true then some (f i.toNatClampNeg) else none
  | _ => none
def sI (M : Mem) (a : Nat) (i : Int32) (x : Int32) : Option Mem := match M.2.1 a with
  | some (.inl (.int, n, .inl f)) => if inr i n = true then some (mst M a (.inl (.int, n, .inl (upd f i.toNatClampNeg x)))) else none
  | _ => none
def sL (M : Mem) (a : Nat) (i : Int32) (x : Int64) : Option Mem := match M.2.1 a with
  | some (.inl (.long, n, .inr (.inl f))) => if inr i n = true then some (mst M a (.inl (.long, n, .inr (.inl (vp_updL f i.toNatClampNeg x))))) else none
  | _ => none
def sB (M : Mem) (a : Nat) (i : Int32) (x : Int32) : Option Mem := match M.2.1 a with
  | some (.inl (.byte, n, .inl f)) => if inr i n = true then some (mst M a (.inl (.byte, n, .inl (upd f i.toNatClampNeg (vp_nar .byte x))))) else none
  | _ => none
def sZ (M : Mem) (a : Nat) (i : Int32) (x : Int32) : Option Mem := match M.2.1 a with
  | some (.inl (.boolean, n, .inl f)) => if inr i n = true then some (mst M a (.inl (.boolean, n, .inl (upd f i.toNatClampNeg (vp_nar .boolean x))))) else none
  | _ => none
/-- a reference into an array of a class's objects; v is null, or an object of that class (number ci) -/
def sQ (M : Mem) (ci a : Nat) (i : Int32) (v : Option Nat) : Option Mem := match M.2.1 a with
  | some (.inl (.object C, n, .inr (.inr (.inr (.inr f))))) => if inr i n = true ∧ (vwCl[ci]?).map (fun q => q.1) = some C ∧ (v.bind (fun b => ck M ci b)).isSome = v.isSome then some (mst M a (.inl (.object C, n, .inr (.inr (.inr (.inr (va_up f i.toNatClampNeg v))))))) else none
  | _ => none
def aN (M : Mem) (a : Nat) : Option Int32 := match M.2.1 a with
  | some (.inl (_, n, _)) => some (Int32.ofNat n)
  | _ => none
def kA (M : Mem) (ty : FieldType) (a : Nat) (i : Int32) : Option Int32 := match M.2.2.2.1 a with
  | some (t, n, f) => if t = ty ∧ inr i n = true then some (f i.toNatClampNeg) else none
  | _ => none
def kN (M : Mem) (a : Nat) : Option Int32 := match M.2.2.2.1 a with
  | some (_, n, _) => some (Int32.ofNat n)
  | _ => none
def kV (M : Mem) (a : Nat) : Option Nat := M.2.2.2.2 a
def cpI (M : Mem) (a0 : Nat) (sp : Int32) (a : Nat) (dp n : Int32) : Option Mem := match M.2.1 a0, M.2.1 a with
  | some (.inl (.int, n0, .inl f)), some (.inl (.int, n1, .inl g)) => if (¬ sp < 0 ∧ ¬ dp < 0 ∧ ¬ n < 0) ∧ sp.toNatClampNeg + n.toNatClampNeg ≤ n0 ∧ dp.toNatClampNeg + n.toNatClampNeg ≤ n1 then some (mst M a (.inl (.int, n1, .inl (va_cpy f g sp.toNatClampNeg dp.toNatClampNeg n.toNatClampNeg)))) else none
  | _, _ => none
def cpL (M : Mem) (a0 : Nat) (sp : Int32) (a : Nat) (dp n : Int32) : Option Mem := match M.2.1 a0, M.2.1 a with
  | some (.inl (.long, n0, .inr (.inl f))), some (.inl (.long, n1, .inr (.inl g))) => if (¬ sp < 0 ∧ ¬ dp < 0 ∧ ¬ n < 0) ∧ sp.toNatClampNeg + n.toNatClampNeg ≤ n0 ∧ dp.toNatClampNeg + n.toNatClampNeg ≤ n1 then some (mst M a (.inl (.long, n1, .inr (.inl (va_cpy f g sp.toNatClampNeg dp.toNatClampNeg n.toNatClampNeg))))) else none
  | _, _ => none
def dfA : FieldType → Nat → vp_A
  | .long, n => (n, .inr (.inl (fun _ => 0)))
  | .object _, n => (n, .inr (.inr (.inr (.inr (fun _ => none)))))
  | _, n => (n, .inl (fun _ => 0))
/-- a new array of at most cap places: its address is the memory's next -/
def nA (M : Mem) (ty : FieldType) (n : Int32) (cap : Nat) : Option Mem := if ¬ n < 0 ∧ n.toNatClampNeg ≤ cap then some (mnw M (.inl (ty, dfA ty n.toNatClampNeg))) else none
def nO (M : Mem) (ci : Nat) (fs : List Value) : Mem := mnw M (.inr (ci, fs))
/-- an int that a field or an answer of a small type keeps as it is -/
def nr (ty : FieldType) (x : Int32) : Option Int32 := if vp_nar ty x = x then some x else none
def FU : Nat := 100000
theorem ob {α β : Type} {o : Option α} {f : α → Option β} {b : β} (h : o.bind f = some b) : ∃ a, o = some a ∧ f a = some b := by
  cases o with
  | none => cases h
  | some a => exact ⟨a, rfl, h⟩
theorem inr_in {i : Int32} {n : Nat} (h : inr i n = true) : vp_in i n := by
  simp only [inr, Bool.and_eq_true, decide_eq_true_eq] at h
  intro q
  rcases q with q | q
  · exact h.1 q
  · omega
theorem gF_spec {M : Mem} {ci a k : Nat} {v : Value} (h : gF M ci a k = some v) : ∃ fs, M.2.1 a = some (.inr (ci, fs)) ∧ fs[k]? = some v := by
  unfold gF at h
  split at h
  · rename_i c fs hM
    by_cases hc : c = ci
    · subst hc
      rw [if_pos rfl] at h
      exact ⟨fs, hM, h⟩
    · rw [if_neg hc] at h
      cases h
  · cases h
theorem gI_F {M : Mem} {ci a k : Nat} {x : Int32} (h : gI M ci a k = some x) : gF M ci a k = some (.int x) := by
  obtain ⟨v, h1, h2⟩ := ob h
  cases v <;> cases h2
  exact h1
theorem gL_F {M : Mem} {ci a k : Nat} {x : Int64} (h : gL M ci a k = some x) : gF M ci a k = some (.long x) := by
  obtain ⟨v, h1, h2⟩ := ob h
  cases v <;> cases h2
  exact h1
theorem gN_F {M : Mem} {ci a k : Nat} {x : Nat} (h : gN M ci a k = some x) : gF M ci a k = some (.ref x) := by
  obtain ⟨v, h1, h2⟩ := ob h
  cases v <;> cases h2
  exact h1
theorem pF_spec {M M2 : Mem} {ci a k : Nat} {v : Value} (h : pF M ci a k v = some M2) : ∃ fs, M.2.1 a = some (.inr (ci, fs)) ∧ k < fs.length ∧ M2 = mst M a (.inr (ci, fs.set k v)) := by
  unfold pF at h
  split at h
  · rename_i c fs hM
    by_cases hc : c = ci ∧ k < fs.length
    · rw [if_pos hc] at h
      obtain ⟨rfl, hk⟩ := hc
      exact ⟨fs, hM, hk, (Option.some.inj h).symm⟩
    · rw [if_neg hc] at h
      cases h
  · cases h
theorem ck_spec {M : Mem} {ci a : Nat} {u : Unit} (h : ck M ci a = some u) : ∃ fs, M.2.1 a = some (.inr (ci, fs)) := by
  unfold ck at h
  split at h
  · rename_i c fs hM
    by_cases hc : c = ci
    · subst hc
      exact ⟨fs, hM⟩
    · rw [if_neg hc] at h
      cases h
  · cases h
theorem aI_spec {M : Mem} {a : Nat} {i x : Int32} (h : aI M a i = some x) : ∃ n f, M.2.1 a = some (.inl (.int, n, .inl f)) ∧ inr i n = true ∧ x = f i.toNatClampNeg := by
  unfold aI at h
  split at h
  · rename_i n f hM
    by_cases hc : inr i n = true
    · rw [if_pos hc] at h
      exact ⟨n, f, hM, hc, (Option.some.inj h).symm⟩
    · rw [if_neg hc] at h
      cases h
  · cases h
theorem aL_spec {M : Mem} {a : Nat} {i : Int32} {x : Int64} (h : aL M a i = some x) : ∃ n f, M.2.1 a = some (.inl (.long, n, .inr (.inl f))) ∧ inr i n = true ∧ x = f i.toNatClampNeg := by
  unfold aL at h
  split at h
  · rename_i n f hM
    by_cases hc : inr i n = true
    · rw [if_pos hc] at h
      exact ⟨n, f, hM, hc, (Option.some.inj h).symm⟩
    · rw [if_neg hc] at h
      cases h
  · cases h
theorem aB_spec {M : Mem} {a : Nat} {i x : Int32} (h : aB M a i = some x) : ∃ n f, M.2.1 a = some (.inl (.byte, n, .inl f)) ∧ inr i n = true ∧ x = f i.toNatClampNeg := by
  unfold aB at h
  split at h
  · rename_i n f hM
    by_cases hc : inr i n = true
    · rw [if_pos hc] at h
      exact ⟨n, f, hM, hc, (Option.some.inj h).symm⟩
    · rw [if_neg hc] at h
      cases h
  · cases h
theorem aZ_spec {M : Mem} {a : Nat} {i x : Int32} (h : aZ M a i = some x) : ∃ n f, M.2.1 a = some (.inl (.boolean, n, .inl f)) ∧ inr i n = true ∧ x = f i.toNatClampNeg := by
  unfold aZ at h
  split at h
  · rename_i n f hM
    by_cases hc : inr i n = true
    · rw [if_pos hc] at h
      exact ⟨n, f, hM, hc, (Option.some.inj h).symm⟩
    · rw [if_neg hc] at h
      cases h
  · cases h
theorem aQ_spec {M : Mem} {a : Nat} {i : Int32} {x : Option Nat} (h : aQ M a i = some x) : ∃ C n f, M.2.1 a = some (.inl (.object C, n, .inr (.inr (.inr (.inr f))))) ∧ inr i n = true ∧ x = f i.toNatClampNeg := by
  unfold aQ at h
  split at h
  · rename_i C n f hM
    by_cases hc : inr i n = true
    · rw [if_pos hc] at h
      exact ⟨C, n, f, hM, hc, (Option.some.inj h).symm⟩
    · rw [if_neg hc] at h
      cases h
  · cases h
theorem sI_spec {M M2 : Mem} {a : Nat} {i x : Int32} (h : sI M a i x = some M2) : ∃ n f, M.2.1 a = some (.inl (.int, n, .inl f)) ∧ inr i n = true ∧ M2 = mst M a (.inl (.int, n, .inl (upd f i.toNatClampNeg x))) := by
  unfold sI at h
  split at h
  · rename_i n f hM
    by_cases hc : inr i n = true
    · rw [if_pos hc] at h
      exact ⟨n, f, hM, hc, (Option.some.inj h).symm⟩
    · rw [if_neg hc] at h
      cases h
  · cases h
theorem sL_spec {M M2 : Mem} {a : Nat} {i : Int32} {x : Int64} (h : sL M a i x = some M2) : ∃ n f, M.2.1 a = some (.inl (.long, n, .inr (.inl f))) ∧ inr i n = true ∧ M2 = mst M a (.inl (.long, n, .inr (.inl (vp_updL f i.toNatClampNeg x)))) := by
  unfold sL at h
  split at h
  · rename_i n f hM
    by_cases hc : inr i n = true
    · rw [if_pos hc] at h
      exact ⟨n, f, hM, hc, (Option.some.inj h).symm⟩
    · rw [if_neg hc] at h
      cases h
  · cases h
theorem sB_spec {M M2 : Mem} {a : Nat} {i x : Int32} (h : sB M a i x = some M2) : ∃ n f, M.2.1 a = some (.inl (.byte, n, .inl f)) ∧ inr i n = true ∧ M2 = mst M a (.inl (.byte, n, .inl (upd f i.toNatClampNeg (vp_nar .byte x)))) := by
  unfold sB at h
  split at h
  · rename_i n f hM
    by_cases hc : inr i n = true
    · rw [if_pos hc] at h
      exact ⟨n, f, hM, hc, (Option.some.inj h).symm⟩
    · rw [if_neg hc] at h
      cases h
  · cases h
theorem sZ_spec {M M2 : Mem} {a : Nat} {i x : Int32} (h : sZ M a i x = some M2) : ∃ n f, M.2.1 a = some (.inl (.boolean, n, .inl f)) ∧ inr i n = true ∧ M2 = mst M a (.inl (.boolean, n, .inl (upd f i.toNatClampNeg (vp_nar .boolean x)))) := by
  unfold sZ at h
  split at h
  · rename_i n f hM
    by_cases hc : inr i n = true
    · rw [if_pos hc] at h
      exact ⟨n, f, hM, hc, (Option.some.inj h).symm⟩
    · rw [if_neg hc] at h
      cases h
  · cases h
theorem sQ_spec {M M2 : Mem} {ci a : Nat} {i : Int32} {v : Option Nat} (h : sQ M ci a i v = some M2) : ∃ C n f, M.2.1 a = some (.inl (.object C, n, .inr (.inr (.inr (.inr f))))) ∧ inr i n = true ∧ (vwCl[ci]?).map (fun q => q.1) = some C ∧ (∀ b, v = some b → ∃ fs, M.2.1 b = some (.inr (ci, fs))) ∧ M2 = mst M a (.inl (.object C, n, .inr (.inr (.inr (.inr (va_up f i.toNatClampNeg v)))))) := by
  unfold sQ at h
  split at h
  · rename_i C n f hM
    by_cases hc : inr i n = true ∧ (vwCl[ci]?).map (fun q => q.1) = some C ∧ (v.bind (fun b => ck M ci b)).isSome = v.isSome
    · rw [if_pos hc] at h
      obtain ⟨h1, h2, h3⟩ := hc
      refine ⟨C, n, f, hM, h1, h2, fun b hb => ?_, (Option.some.inj h).symm⟩
      subst hb
      cases hk : ck M ci b with
      | none => rw [Option.bind_some, hk] at h3; cases h3
      | some u => exact ck_spec hk
    · rw [if_neg hc] at h
      cases h
  · cases h
theorem kA_spec {M : Mem} {ty : FieldType} {a : Nat} {i x : Int32} (h : kA M ty a i = some x) : ∃ n f, M.2.2.2.1 a = some (ty, n, f) ∧ inr i n = true ∧ x = f i.toNatClampNeg := by
  unfold kA at h
  split at h
  · rename_i t n f hM
    by_cases hc : t = ty ∧ inr i n = true
    · rw [if_pos hc] at h
      obtain ⟨rfl, hc⟩ := hc
      exact ⟨n, f, hM, hc, (Option.some.inj h).symm⟩
    · rw [if_neg hc] at h
      cases h
  · cases h
theorem nr_spec {ty : FieldType} {x y : Int32} (h : nr ty x = some y) : vp_nar ty x = x ∧ y = x := by
  unfold nr at h
  by_cases hc : vp_nar ty x = x
  · rw [if_pos hc] at h
    exact ⟨hc, (Option.some.inj h).symm⟩
  · rw [if_neg hc] at h
    cases h
theorem nr_nar {ty : FieldType} {x : Int32} (hty : ty = .boolean ∨ ty = .byte ∨ ty = .char ∨ ty = .short ∨ ty = .int) (h : vp_nar ty x = x) : narrow ty (.int x) = .int x := by
  rcases hty with rfl | rfl | rfl | rfl | rfl <;> exact congrArg Value.int h

def nz (x : Int32) : Option Int32 := if x = 0 ∨ x = 1 then some x else none
theorem nz_spec {x y : Int32} (h : nz x = some y) : (x = 0 ∨ x = 1) ∧ y = x := by
  unfold nz at h
  by_cases hc : x = 0 ∨ x = 1
  · rw [if_pos hc] at h
    exact ⟨hc, (Option.some.inj h).symm⟩
  · rw [if_neg hc] at h
    cases h
theorem nz_nar {x : Int32} (h : x = 0 ∨ x = 1) : narrow .boolean (.int x) = .int x := by
  rcases h with rfl | rfl <;> decide
theorem nz_fit {x : Int32} (h : x = 0 ∨ x = 1) : fits .boolean (.int x) = true := by
  rcases h with rfl | rfl <;> decide
theorem cat_rf (o : Option Nat) : (va_rf o).category = 1 := by cases o <;> rfl
end
section
section ROWS
variable {κ : KT} {μ : MD} {cells slots pc pc' : Nat} {lv lv' : List (Nat × Value)} {st : List Value} {M : Mem}
theorem g_iconst {n : Int} {v : Int32} (O : OkK κ μ) (hd : decode μ.1 pc = .ok (.iconst n, 1)) (hv : Int32.ofInt n = v) (hp : pc + 1 = pc') (k : G κ μ cells slots pc' lv (.int v :: st) M) : G κ μ cells slots pc lv (st) M := by
  obtain ⟨p, l, e, s, m, args, below, meth, c, z, D, ca, kc, r, M'⟩ := κ
  obtain ⟨cc, nL, own, ret, R, nm⟩ := μ
  intro H ls locs a1 a2 a3 a4 a5
  subst hp
  exact lv_iconst O.1 O.2.1 hd hv (k H ls locs a1 a2 a3 a4 a5)
theorem g_bipush {n : Int} {v : Int32} (O : OkK κ μ) (hd : decode μ.1 pc = .ok (.bipush n, 2)) (hv : (Int8.ofInt n).toInt32 = v) (hp : pc + 2 = pc') (k : G κ μ cells slots pc' lv (.int v :: st) M) : G κ μ cells slots pc lv (st) M := by
  obtain ⟨p, l, e, s, m, args, below, meth, c, z, D, ca, kc, r, M'⟩ := κ
  obtain ⟨cc, nL, own, ret, R, nm⟩ := μ
  intro H ls locs a1 a2 a3 a4 a5
  subst hp
  exact lv_bipush O.1 O.2.1 hd hv (k H ls locs a1 a2 a3 a4 a5)
theorem g_sipush {n : Int} {v : Int32} (O : OkK κ μ) (hd : decode μ.1 pc = .ok (.sipush n, 3)) (hv : (Int16.ofInt n).toInt32 = v) (hp : pc + 3 = pc') (k : G κ μ cells slots pc' lv (.int v :: st) M) : G κ μ cells slots pc lv (st) M := by
  obtain ⟨p, l, e, s, m, args, below, meth, c, z, D, ca, kc, r, M'⟩ := κ
  obtain ⟨cc, nL, own, ret, R, nm⟩ := μ
  intro H ls locs a1 a2 a3 a4 a5
  subst hp
  exact lv_sipush O.1 O.2.1 hd hv (k H ls locs a1 a2 a3 a4 a5)
theorem g_lconst {n : Fin 2} {v : Int64} (O : OkK κ μ) (hd : decode μ.1 pc = .ok (.lconst n, 1)) (hv : Int64.ofNat (n : Nat) = v) (hp : pc + 1 = pc') (k : G κ μ cells slots pc' lv (.long v :: st) M) : G κ μ cells slots pc lv (st) M := by
  obtain ⟨p, l, e, s, m, args, below, meth, c, z, D, ca, kc, r, M'⟩ := κ
  obtain ⟨cc, nL, own, ret, R, nm⟩ := μ
  intro H ls locs a1 a2 a3 a4 a5
  subst hp
  exact lv_lconst O.1 O.2.1 hd hv (k H ls locs a1 a2 a3 a4 a5)
theorem g_iadd {x y : Int32} (O : OkK κ μ) (hd : decode μ.1 pc = .ok (.iadd, 1))  (hp : pc + 1 = pc') (k : G κ μ cells slots pc' lv (.int (x + y) :: st) M) : G κ μ cells slots pc lv (.int y :: .int x :: st) M := by
  obtain ⟨p, l, e, s, m, args, below, meth, c, z, D, ca, kc, r, M'⟩ := κ
  obtain ⟨cc, nL, own, ret, R, nm⟩ := μ
  intro H ls locs a1 a2 a3 a4 a5
  subst hp
  exact lv_iadd O.1 O.2.1 hd  (k H ls locs a1 a2 a3 a4 a5)
theorem g_isub {x y : Int32} (O : OkK κ μ) (hd : decode μ.1 pc = .ok (.isub, 1))  (hp : pc + 1 = pc') (k : G κ μ cells slots pc' lv (.int (x - y) :: st) M) : G κ μ cells slots pc lv (.int y :: .int x :: st) M := by
  obtain ⟨p, l, e, s, m, args, below, meth, c, z, D, ca, kc, r, M'⟩ := κ
  obtain ⟨cc, nL, own, ret, R, nm⟩ := μ
  intro H ls locs a1 a2 a3 a4 a5
  subst hp
  exact lv_isub O.1 O.2.1 hd  (k H ls locs a1 a2 a3 a4 a5)
theorem g_imul {x y : Int32} (O : OkK κ μ) (hd : decode μ.1 pc = .ok (.imul, 1))  (hp : pc + 1 = pc') (k : G κ μ cells slots pc' lv (.int (x * y) :: st) M) : G κ μ cells slots pc lv (.int y :: .int x :: st) M := by
  obtain ⟨p, l, e, s, m, args, below, meth, c, z, D, ca, kc, r, M'⟩ := κ
  obtain ⟨cc, nL, own, ret, R, nm⟩ := μ
  intro H ls locs a1 a2 a3 a4 a5
  subst hp
  exact lv_imul O.1 O.2.1 hd  (k H ls locs a1 a2 a3 a4 a5)
theorem g_iand {x y : Int32} (O : OkK κ μ) (hd : decode μ.1 pc = .ok (.iand, 1))  (hp : pc + 1 = pc') (k : G κ μ cells slots pc' lv (.int (x &&& y) :: st) M) : G κ μ cells slots pc lv (.int y :: .int x :: st) M := by
  obtain ⟨p, l, e, s, m, args, below, meth, c, z, D, ca, kc, r, M'⟩ := κ
  obtain ⟨cc, nL, own, ret, R, nm⟩ := μ
  intro H ls locs a1 a2 a3 a4 a5
  subst hp
  exact lv_iand O.1 O.2.1 hd  (k H ls locs a1 a2 a3 a4 a5)
theorem g_ior {x y : Int32} (O : OkK κ μ) (hd : decode μ.1 pc = .ok (.ior, 1))  (hp : pc + 1 = pc') (k : G κ μ cells slots pc' lv (.int (x ||| y) :: st) M) : G κ μ cells slots pc lv (.int y :: .int x :: st) M := by
  obtain ⟨p, l, e, s, m, args, below, meth, c, z, D, ca, kc, r, M'⟩ := κ
  obtain ⟨cc, nL, own, ret, R, nm⟩ := μ
  intro H ls locs a1 a2 a3 a4 a5
  subst hp
  exact lv_ior O.1 O.2.1 hd  (k H ls locs a1 a2 a3 a4 a5)
theorem g_ishl {x y : Int32} (O : OkK κ μ) (hd : decode μ.1 pc = .ok (.ishl, 1))  (hp : pc + 1 = pc') (k : G κ μ cells slots pc' lv (.int (x <<< (y &&& 31)) :: st) M) : G κ μ cells slots pc lv (.int y :: .int x :: st) M := by
  obtain ⟨p, l, e, s, m, args, below, meth, c, z, D, ca, kc, r, M'⟩ := κ
  obtain ⟨cc, nL, own, ret, R, nm⟩ := μ
  intro H ls locs a1 a2 a3 a4 a5
  subst hp
  exact lv_ishl O.1 O.2.1 hd  (k H ls locs a1 a2 a3 a4 a5)
theorem g_ishr {x y : Int32} (O : OkK κ μ) (hd : decode μ.1 pc = .ok (.ishr, 1))  (hp : pc + 1 = pc') (k : G κ μ cells slots pc' lv (.int (x >>> (y &&& 31)) :: st) M) : G κ μ cells slots pc lv (.int y :: .int x :: st) M := by
  obtain ⟨p, l, e, s, m, args, below, meth, c, z, D, ca, kc, r, M'⟩ := κ
  obtain ⟨cc, nL, own, ret, R, nm⟩ := μ
  intro H ls locs a1 a2 a3 a4 a5
  subst hp
  exact lv_ishr O.1 O.2.1 hd  (k H ls locs a1 a2 a3 a4 a5)
theorem g_idiv {x y : Int32} (O : OkK κ μ) (hd : decode μ.1 pc = .ok (.idiv, 1)) (hne : ¬ y = 0) (hp : pc + 1 = pc') (k : G κ μ cells slots pc' lv (.int (x / y) :: st) M) : G κ μ cells slots pc lv (.int y :: .int x :: st) M := by
  obtain ⟨p, l, e, s, m, args, below, meth, c, z, D, ca, kc, r, M'⟩ := κ
  obtain ⟨cc, nL, own, ret, R, nm⟩ := μ
  intro H ls locs a1 a2 a3 a4 a5
  subst hp
  exact lv_idiv O.1 O.2.1 hd hne (k H ls locs a1 a2 a3 a4 a5)
theorem g_irem {x y : Int32} (O : OkK κ μ) (hd : decode μ.1 pc = .ok (.irem, 1)) (hne : ¬ y = 0) (hp : pc + 1 = pc') (k : G κ μ cells slots pc' lv (.int (x - x / y * y) :: st) M) : G κ μ cells slots pc lv (.int y :: .int x :: st) M := by
  obtain ⟨p, l, e, s, m, args, below, meth, c, z, D, ca, kc, r, M'⟩ := κ
  obtain ⟨cc, nL, own, ret, R, nm⟩ := μ
  intro H ls locs a1 a2 a3 a4 a5
  subst hp
  exact lv_irem O.1 O.2.1 hd hne (k H ls locs a1 a2 a3 a4 a5)
theorem g_ladd {x y : Int64} (O : OkK κ μ) (hd : decode μ.1 pc = .ok (.ladd, 1))  (hp : pc + 1 = pc') (k : G κ μ cells slots pc' lv (.long (x + y) :: st) M) : G κ μ cells slots pc lv (.long y :: .long x :: st) M := by
  obtain ⟨p, l, e, s, m, args, below, meth, c, z, D, ca, kc, r, M'⟩ := κ
  obtain ⟨cc, nL, own, ret, R, nm⟩ := μ
  intro H ls locs a1 a2 a3 a4 a5
  subst hp
  exact lv_ladd O.1 O.2.1 hd  (k H ls locs a1 a2 a3 a4 a5)
theorem g_lsub {x y : Int64} (O : OkK κ μ) (hd : decode μ.1 pc = .ok (.lsub, 1))  (hp : pc + 1 = pc') (k : G κ μ cells slots pc' lv (.long (x - y) :: st) M) : G κ μ cells slots pc lv (.long y :: .long x :: st) M := by
  obtain ⟨p, l, e, s, m, args, below, meth, c, z, D, ca, kc, r, M'⟩ := κ
  obtain ⟨cc, nL, own, ret, R, nm⟩ := μ
  intro H ls locs a1 a2 a3 a4 a5
  subst hp
  exact lv_lsub O.1 O.2.1 hd  (k H ls locs a1 a2 a3 a4 a5)
theorem g_lmul {x y : Int64} (O : OkK κ μ) (hd : decode μ.1 pc = .ok (.lmul, 1))  (hp : pc + 1 = pc') (k : G κ μ cells slots pc' lv (.long (x * y) :: st) M) : G κ μ cells slots pc lv (.long y :: .long x :: st) M := by
  obtain ⟨p, l, e, s, m, args, below, meth, c, z, D, ca, kc, r, M'⟩ := κ
  obtain ⟨cc, nL, own, ret, R, nm⟩ := μ
  intro H ls locs a1 a2 a3 a4 a5
  subst hp
  exact lv_lmul O.1 O.2.1 hd  (k H ls locs a1 a2 a3 a4 a5)
theorem g_land {x y : Int64} (O : OkK κ μ) (hd : decode μ.1 pc = .ok (.land, 1))  (hp : pc + 1 = pc') (k : G κ μ cells slots pc' lv (.long (x &&& y) :: st) M) : G κ μ cells slots pc lv (.long y :: .long x :: st) M := by
  obtain ⟨p, l, e, s, m, args, below, meth, c, z, D, ca, kc, r, M'⟩ := κ
  obtain ⟨cc, nL, own, ret, R, nm⟩ := μ
  intro H ls locs a1 a2 a3 a4 a5
  subst hp
  exact lv_land O.1 O.2.1 hd  (k H ls locs a1 a2 a3 a4 a5)
theorem g_lor {x y : Int64} (O : OkK κ μ) (hd : decode μ.1 pc = .ok (.lor, 1))  (hp : pc + 1 = pc') (k : G κ μ cells slots pc' lv (.long (x ||| y) :: st) M) : G κ μ cells slots pc lv (.long y :: .long x :: st) M := by
  obtain ⟨p, l, e, s, m, args, below, meth, c, z, D, ca, kc, r, M'⟩ := κ
  obtain ⟨cc, nL, own, ret, R, nm⟩ := μ
  intro H ls locs a1 a2 a3 a4 a5
  subst hp
  exact lv_lor O.1 O.2.1 hd  (k H ls locs a1 a2 a3 a4 a5)
theorem g_ldiv {x y : Int64} (O : OkK κ μ) (hd : decode μ.1 pc = .ok (.ldiv, 1)) (hne : ¬ y = 0) (hp : pc + 1 = pc') (k : G κ μ cells slots pc' lv (.long (x / y) :: st) M) : G κ μ cells slots pc lv (.long y :: .long x :: st) M := by
  obtain ⟨p, l, e, s, m, args, below, meth, c, z, D, ca, kc, r, M'⟩ := κ
  obtain ⟨cc, nL, own, ret, R, nm⟩ := μ
  intro H ls locs a1 a2 a3 a4 a5
  subst hp
  exact lv_ldiv O.1 O.2.1 hd hne (k H ls locs a1 a2 a3 a4 a5)
theorem g_lrem {x y : Int64} (O : OkK κ μ) (hd : decode μ.1 pc = .ok (.lrem, 1)) (hne : ¬ y = 0) (hp : pc + 1 = pc') (k : G κ μ cells slots pc' lv (.long (x - x / y * y) :: st) M) : G κ μ cells slots pc lv (.long y :: .long x :: st) M := by
  obtain ⟨p, l, e, s, m, args, below, meth, c, z, D, ca, kc, r, M'⟩ := κ
  obtain ⟨cc, nL, own, ret, R, nm⟩ := μ
  intro H ls locs a1 a2 a3 a4 a5
  subst hp
  exact lv_lrem O.1 O.2.1 hd hne (k H ls locs a1 a2 a3 a4 a5)
theorem g_lneg {x : Int64} (O : OkK κ μ) (hd : decode μ.1 pc = .ok (.lneg, 1))  (hp : pc + 1 = pc') (k : G κ μ cells slots pc' lv (.long (-x) :: st) M) : G κ μ cells slots pc lv (.long x :: st) M := by
  obtain ⟨p, l, e, s, m, args, below, meth, c, z, D, ca, kc, r, M'⟩ := κ
  obtain ⟨cc, nL, own, ret, R, nm⟩ := μ
  intro H ls locs a1 a2 a3 a4 a5
  subst hp
  exact lv_lneg O.1 O.2.1 hd  (k H ls locs a1 a2 a3 a4 a5)
theorem g_lcmp {x y : Int64} (O : OkK κ μ) (hd : decode μ.1 pc = .ok (.lcmp, 1))  (hp : pc + 1 = pc') (k : G κ μ cells slots pc' lv (.int (lg_cmp x y) :: st) M) : G κ μ cells slots pc lv (.long y :: .long x :: st) M := by
  obtain ⟨p, l, e, s, m, args, below, meth, c, z, D, ca, kc, r, M'⟩ := κ
  obtain ⟨cc, nL, own, ret, R, nm⟩ := μ
  intro H ls locs a1 a2 a3 a4 a5
  subst hp
  exact W.lcmp O.1 O.2.1 hd  (k H ls locs a1 a2 a3 a4 a5)
theorem g_i2l {x : Int32} (O : OkK κ μ) (hd : decode μ.1 pc = .ok (.i2l, 1)) (hp : pc + 1 = pc') (k : G κ μ cells slots pc' lv (.long x.toInt64 :: st) M) : G κ μ cells slots pc lv (.int x :: st) M := by
  obtain ⟨p, l, e, s, m, args, below, meth, c, z, D, ca, kc, r, M'⟩ := κ
  obtain ⟨cc, nL, own, ret, R, nm⟩ := μ
  intro H ls locs a1 a2 a3 a4 a5
  subst hp
  exact lv_i2l O.1 O.2.1 hd rfl (k H ls locs a1 a2 a3 a4 a5)
theorem g_l2i {x : Int64} (O : OkK κ μ) (hd : decode μ.1 pc = .ok (.l2i, 1)) (hp : pc + 1 = pc') (k : G κ μ cells slots pc' lv (.int x.toInt32 :: st) M) : G κ μ cells slots pc lv (.long x :: st) M := by
  obtain ⟨p, l, e, s, m, args, below, meth, c, z, D, ca, kc, r, M'⟩ := κ
  obtain ⟨cc, nL, own, ret, R, nm⟩ := μ
  intro H ls locs a1 a2 a3 a4 a5
  subst hp
  exact lv_l2i O.1 O.2.1 hd rfl (k H ls locs a1 a2 a3 a4 a5)
theorem g_i2b {x : Int32} (O : OkK κ μ) (hd : decode μ.1 pc = .ok (.i2b, 1)) (hp : pc + 1 = pc') (k : G κ μ cells slots pc' lv (.int x.toInt8.toInt32 :: st) M) : G κ μ cells slots pc lv (.int x :: st) M := by
  obtain ⟨p, l, e, s, m, args, below, meth, c, z, D, ca, kc, r, M'⟩ := κ
  obtain ⟨cc, nL, own, ret, R, nm⟩ := μ
  intro H ls locs a1 a2 a3 a4 a5
  subst hp
  exact lv_i2b O.1 O.2.1 hd rfl (k H ls locs a1 a2 a3 a4 a5)
theorem g_i2c {x : Int32} (O : OkK κ μ) (hd : decode μ.1 pc = .ok (.i2c, 1)) (hp : pc + 1 = pc') (k : G κ μ cells slots pc' lv (.int (x.toUInt32 % 65536).toInt32 :: st) M) : G κ μ cells slots pc lv (.int x :: st) M := by
  obtain ⟨p, l, e, s, m, args, below, meth, c, z, D, ca, kc, r, M'⟩ := κ
  obtain ⟨cc, nL, own, ret, R, nm⟩ := μ
  intro H ls locs a1 a2 a3 a4 a5
  subst hp
  exact lv_i2c O.1 O.2.1 hd rfl (k H ls locs a1 a2 a3 a4 a5)
theorem g_iushr {x y : Int32} (O : OkK κ μ) (hd : decode μ.1 pc = .ok (.iushr, 1)) (hp : pc + 1 = pc') (k : G κ μ cells slots pc' lv (.int (x.toUInt32 >>> (y.toUInt32 &&& Int32.toUInt32 31)).toInt32 :: st) M) : G κ μ cells slots pc lv (.int y :: .int x :: st) M := by
  obtain ⟨p, l, e, s, m, args, below, meth, c, z, D, ca, kc, r, M'⟩ := κ
  obtain ⟨cc, nL, own, ret, R, nm⟩ := μ
  intro H ls locs a1 a2 a3 a4 a5
  subst hp
  exact lv_iushr O.1 O.2.1 hd rfl (k H ls locs a1 a2 a3 a4 a5)
theorem g_lshl {x : Int64} {y : Int32} (O : OkK κ μ) (hd : decode μ.1 pc = .ok (.lshl, 1)) (hp : pc + 1 = pc') (k : G κ μ cells slots pc' lv (.long (x <<< (y.toInt64 &&& 63)) :: st) M) : G κ μ cells slots pc lv (.int y :: .long x :: st) M := by
  obtain ⟨p, l, e, s, m, args, below, meth, c, z, D, ca, kc, r, M'⟩ := κ
  obtain ⟨cc, nL, own, ret, R, nm⟩ := μ
  intro H ls locs a1 a2 a3 a4 a5
  subst hp
  exact lv_lshl O.1 O.2.1 hd rfl (k H ls locs a1 a2 a3 a4 a5)
theorem g_lshr {x : Int64} {y : Int32} (O : OkK κ μ) (hd : decode μ.1 pc = .ok (.lshr, 1)) (hp : pc + 1 = pc') (k : G κ μ cells slots pc' lv (.long (x >>> (y.toInt64 &&& 63)) :: st) M) : G κ μ cells slots pc lv (.int y :: .long x :: st) M := by
  obtain ⟨p, l, e, s, m, args, below, meth, c, z, D, ca, kc, r, M'⟩ := κ
  obtain ⟨cc, nL, own, ret, R, nm⟩ := μ
  intro H ls locs a1 a2 a3 a4 a5
  subst hp
  exact lv_lshr O.1 O.2.1 hd rfl (k H ls locs a1 a2 a3 a4 a5)
theorem g_dup {va : Value} (O : OkK κ μ) (hd : decode μ.1 pc = .ok (.dup, 1)) (hva : va.category = 1) (hp : pc + 1 = pc') (k : G κ μ cells slots pc' lv (va :: va :: st) M) : G κ μ cells slots pc lv (va :: st) M := by
  obtain ⟨p, l, e, s, m, args, below, meth, c, z, D, ca, kc, r, M'⟩ := κ
  obtain ⟨cc, nL, own, ret, R, nm⟩ := μ
  intro H ls locs a1 a2 a3 a4 a5
  subst hp
  exact lv_dup O.1 O.2.1 hd hva (k H ls locs a1 a2 a3 a4 a5)
theorem g_pop {va : Value} (O : OkK κ μ) (hd : decode μ.1 pc = .ok (.pop, 1)) (hva : va.category = 1) (hp : pc + 1 = pc') (k : G κ μ cells slots pc' lv (st) M) : G κ μ cells slots pc lv (va :: st) M := by
  obtain ⟨p, l, e, s, m, args, below, meth, c, z, D, ca, kc, r, M'⟩ := κ
  obtain ⟨cc, nL, own, ret, R, nm⟩ := μ
  intro H ls locs a1 a2 a3 a4 a5
  subst hp
  exact lv_pop O.1 O.2.1 hd hva (k H ls locs a1 a2 a3 a4 a5)
theorem g_dup2 {va vb : Value} (O : OkK κ μ) (hd : decode μ.1 pc = .ok (.dup2, 1)) (hva : va.category = 1) (hvb : vb.category = 1) (hp : pc + 1 = pc') (k : G κ μ cells slots pc' lv (va :: vb :: va :: vb :: st) M) : G κ μ cells slots pc lv (va :: vb :: st) M := by
  obtain ⟨p, l, e, s, m, args, below, meth, c, z, D, ca, kc, r, M'⟩ := κ
  obtain ⟨cc, nL, own, ret, R, nm⟩ := μ
  intro H ls locs a1 a2 a3 a4 a5
  subst hp
  exact lv_dup2_11 O.1 O.2.1 hd hva hvb (k H ls locs a1 a2 a3 a4 a5)
theorem g_null  (O : OkK κ μ) (hd : decode μ.1 pc = .ok (.aconst_null, 1))  (hp : pc + 1 = pc') (k : G κ μ cells slots pc' lv (va_rf none :: st) M) : G κ μ cells slots pc lv (st) M := by
  obtain ⟨p, l, e, s, m, args, below, meth, c, z, D, ca, kc, r, M'⟩ := κ
  obtain ⟨cc, nL, own, ret, R, nm⟩ := μ
  intro H ls locs a1 a2 a3 a4 a5
  subst hp
  exact lv_null O.1 O.2.1 hd  (k H ls locs a1 a2 a3 a4 a5)
theorem g_ldc {idx : Nat} {v : Int32} (O : OkK κ μ) (hd : decode μ.1 pc = .ok (.ldc idx, 2)) (hw : Cond.constant μ.2.2.1 idx v ∈ lw_tbl) (hp : pc + 2 = pc') (k : G κ μ cells slots pc' lv (.int v :: st) M) : G κ μ cells slots pc lv st M := by
  obtain ⟨p, l, e, s, m, args, below, meth, c, z, D, ca, kc, r, M'⟩ := κ
  obtain ⟨cc, nL, own, ret, R, nm⟩ := μ
  intro H ls locs a1 a2 a3 a4 a5
  subst hp
  exact lv_ldc O.1 O.2.1 O.2.2.2.1 (O.2.2.2.2.1 _ hw rfl) hd (k H ls locs a1 a2 a3 a4 a5)
theorem g_ldcw {idx : Nat} {v : Int32} (O : OkK κ μ) (hd : decode μ.1 pc = .ok (.ldc_w idx, 3)) (hw : Cond.constant μ.2.2.1 idx v ∈ lw_tbl) (hp : pc + 3 = pc') (k : G κ μ cells slots pc' lv (.int v :: st) M) : G κ μ cells slots pc lv st M := by
  obtain ⟨p, l, e, s, m, args, below, meth, c, z, D, ca, kc, r, M'⟩ := κ
  obtain ⟨cc, nL, own, ret, R, nm⟩ := μ
  intro H ls locs a1 a2 a3 a4 a5
  subst hp
  exact lv_ldcw O.1 O.2.1 O.2.2.2.1 (O.2.2.2.2.1 _ hw rfl) hd (k H ls locs a1 a2 a3 a4 a5)
theorem g_ldc2 {idx : Nat} {v : Int64} (O : OkK κ μ) (hd : decode μ.1 pc = .ok (.ldc2_w idx, 3)) (hw : Cond.constantLong μ.2.2.1 idx v ∈ lw_tbl) (hp : pc + 3 = pc') (k : G κ μ cells slots pc' lv (.long v :: st) M) : G κ μ cells slots pc lv st M := by
  obtain ⟨p, l, e, s, m, args, below, meth, c, z, D, ca, kc, r, M'⟩ := κ
  obtain ⟨cc, nL, own, ret, R, nm⟩ := μ
  intro H ls locs a1 a2 a3 a4 a5
  subst hp
  exact lv_ldc2 O.1 O.2.1 O.2.2.2.1 (O.2.2.2.2.1 _ hw rfl) hd (k H ls locs a1 a2 a3 a4 a5)
theorem g_ldcS {idx : Nat} {tx : String} (O : OkK κ μ) (hd : decode μ.1 pc = .ok (.ldc idx, 2)) (ho : μ.2.2.1 = RX5) (hw : (idx, tx) ∈ strTbl) (hp : pc + 2 = pc') (k : G κ μ cells slots pc' lv (.ref (M.2.2.1 idx) :: st) M) : G κ μ cells slots pc lv st M := by
  obtain ⟨p, l, e, s, m, args, below, meth, c, z, D, ca, kc, r, M'⟩ := κ
  obtain ⟨cc, nL, own, ret, R, nm⟩ := μ
  intro H ls locs a1 a2 a3 a4 a5
  subst hp
  subst ho
  have h1 := O.2.2.2.2.2.2.2.2.2.1.2.2.2.2.1 _ hw
  rw [← a2] at h1
  exact va_ldcS O.1 O.2.1 O.2.2.2.1 h1 hd (k H ls locs a1 a2 a3 a4 a5)
theorem g_getS0 {idx : Nat} (O : OkK κ μ) (hd : decode μ.1 pc = .ok (.getstatic idx, 3)) (hw : Cond.fieldLink μ.2.2.1 idx RX0 "LENGTHS" "[I" ∈ lw_tbl) (hp : pc + 3 = pc') (k : G κ μ cells slots pc' lv (.ref (M.2.2.1 0) :: st) M) : G κ μ cells slots pc lv st M := by
  obtain ⟨p, l, e, s, m, args, below, meth, c, z, D, ca, kc, r, M'⟩ := κ
  obtain ⟨cc, nL, own, ret, R, nm⟩ := μ
  intro H ls locs a1 a2 a3 a4 a5
  subst hp
  have h1 := O.2.2.2.2.2.2.2.2.2.1.2.2.1
  rw [← a2] at h1
  exact va_gets O.1 O.2.1 h1 a4 O.2.2.2.1 (O.2.2.2.2.1 _ hw rfl) (fun _ h => h) hd (k H ls locs a1 a2 a3 a4 a5)
theorem g_getS1 {idx : Nat} (O : OkK κ μ) (hd : decode μ.1 pc = .ok (.getstatic idx, 3)) (hw : Cond.fieldLink μ.2.2.1 idx RJ0 "COMPACT_STRINGS" "Z" ∈ lw_tbl) (hp : pc + 3 = pc') (k : G κ μ cells slots pc' lv (.int 1 :: st) M) : G κ μ cells slots pc lv st M := by
  obtain ⟨p, l, e, s, m, args, below, meth, c, z, D, ca, kc, r, M'⟩ := κ
  obtain ⟨cc, nL, own, ret, R, nm⟩ := μ
  intro H ls locs a1 a2 a3 a4 a5
  subst hp
  exact va_gets O.1 O.2.1 O.2.2.2.2.2.2.2.2.2.1.2.2.2.1 a4 O.2.2.2.1 (O.2.2.2.2.1 _ hw rfl) (fun _ h => h) hd (k H ls locs a1 a2 a3 a4 a5)
theorem g_iload_n {j : Fin 4} {i : Nat} {x : Int32} (q : Nat) (O : OkK κ μ) (hd : decode μ.1 pc = .ok (.iload_n j, 1)) (hi : (j : Nat) = i) (hq : lv[q]? = some (i, .int x)) (hp : pc + 1 = pc') (k : G κ μ cells slots pc' lv (.int x :: st) M) : G κ μ cells slots pc lv st M := by
  obtain ⟨p, l, e, s, m, args, below, meth, c, z, D, ca, kc, r, M'⟩ := κ
  obtain ⟨cc, nL, own, ret, R, nm⟩ := μ
  intro H ls locs a1 a2 a3 a4 a5
  subst hp
  exact lv_iload_n O.1 O.2.1 hd hi (lv_at a5 q hq) (k H ls locs a1 a2 a3 a4 a5)
theorem g_iload {i : Nat} {x : Int32} (q : Nat) (O : OkK κ μ) (hd : decode μ.1 pc = .ok (.iload i, 2)) (hq : lv[q]? = some (i, .int x)) (hp : pc + 2 = pc') (k : G κ μ cells slots pc' lv (.int x :: st) M) : G κ μ cells slots pc lv st M := by
  obtain ⟨p, l, e, s, m, args, below, meth, c, z, D, ca, kc, r, M'⟩ := κ
  obtain ⟨cc, nL, own, ret, R, nm⟩ := μ
  intro H ls locs a1 a2 a3 a4 a5
  subst hp
  exact lv_iload O.1 O.2.1 hd (lv_at a5 q hq) (k H ls locs a1 a2 a3 a4 a5)
theorem g_istore_n {j : Fin 4} {i : Nat} {x : Int32} (O : OkK κ μ) (hd : decode μ.1 pc = .ok (.istore_n j, 1)) (hi : (j : Nat) = i) (hn : i < μ.2.1) (hl : (i, Value.int x) :: lv.filter (fun q => !(q.1 == i) && !(q.1 + 1 == i && q.2.category == 2)) = lv') (hp : pc + 1 = pc') (k : G κ μ cells slots pc' lv' st M) : G κ μ cells slots pc lv (.int x :: st) M := by
  obtain ⟨p, l, e, s, m, args, below, meth, c, z, D, ca, kc, r, M'⟩ := κ
  obtain ⟨cc, nL, own, ret, R, nm⟩ := μ
  intro H ls locs a1 a2 a3 a4 a5
  subst hp
  exact lv_istore_n O.1 O.2.1 hd hi a5 hn hl (fun ls' h' => k H ls' locs a1 a2 a3 a4 h')
theorem g_istore {i : Nat} {x : Int32} (O : OkK κ μ) (hd : decode μ.1 pc = .ok (.istore i, 2)) (hn : i < μ.2.1) (hl : (i, Value.int x) :: lv.filter (fun q => !(q.1 == i) && !(q.1 + 1 == i && q.2.category == 2)) = lv') (hp : pc + 2 = pc') (k : G κ μ cells slots pc' lv' st M) : G κ μ cells slots pc lv (.int x :: st) M := by
  obtain ⟨p, l, e, s, m, args, below, meth, c, z, D, ca, kc, r, M'⟩ := κ
  obtain ⟨cc, nL, own, ret, R, nm⟩ := μ
  intro H ls locs a1 a2 a3 a4 a5
  subst hp
  exact lv_istore O.1 O.2.1 hd a5 hn hl (fun ls' h' => k H ls' locs a1 a2 a3 a4 h')
theorem g_lload_n {j : Fin 4} {i : Nat} {x : Int64} (q : Nat) (O : OkK κ μ) (hd : decode μ.1 pc = .ok (.lload_n j, 1)) (hi : (j : Nat) = i) (hq : lv[q]? = some (i, .long x)) (hp : pc + 1 = pc') (k : G κ μ cells slots pc' lv (.long x :: st) M) : G κ μ cells slots pc lv st M := by
  obtain ⟨p, l, e, s, m, args, below, meth, c, z, D, ca, kc, r, M'⟩ := κ
  obtain ⟨cc, nL, own, ret, R, nm⟩ := μ
  intro H ls locs a1 a2 a3 a4 a5
  subst hp
  exact lv_lload_n O.1 O.2.1 hd hi (lv_at a5 q hq) (k H ls locs a1 a2 a3 a4 a5)
theorem g_lload {i : Nat} {x : Int64} (q : Nat) (O : OkK κ μ) (hd : decode μ.1 pc = .ok (.lload i, 2)) (hq : lv[q]? = some (i, .long x)) (hp : pc + 2 = pc') (k : G κ μ cells slots pc' lv (.long x :: st) M) : G κ μ cells slots pc lv st M := by
  obtain ⟨p, l, e, s, m, args, below, meth, c, z, D, ca, kc, r, M'⟩ := κ
  obtain ⟨cc, nL, own, ret, R, nm⟩ := μ
  intro H ls locs a1 a2 a3 a4 a5
  subst hp
  exact lv_lload O.1 O.2.1 hd (lv_at a5 q hq) (k H ls locs a1 a2 a3 a4 a5)
theorem g_lstore_n {j : Fin 4} {i : Nat} {x : Int64} (O : OkK κ μ) (hd : decode μ.1 pc = .ok (.lstore_n j, 1)) (hi : (j : Nat) = i) (hn : i + 1 < μ.2.1) (hl : (i, Value.long x) :: lv.filter (fun q => !(q.1 == i) && (!(q.1 == i + 1) && !(q.1 + 1 == i && q.2.category == 2))) = lv') (hp : pc + 1 = pc') (k : G κ μ cells slots pc' lv' st M) : G κ μ cells slots pc lv (.long x :: st) M := by
  obtain ⟨p, l, e, s, m, args, below, meth, c, z, D, ca, kc, r, M'⟩ := κ
  obtain ⟨cc, nL, own, ret, R, nm⟩ := μ
  intro H ls locs a1 a2 a3 a4 a5
  subst hp
  exact lv_lstore_n O.1 O.2.1 hd hi a5 hn hl (fun ls' h' => k H ls' locs a1 a2 a3 a4 h')
theorem g_lstore {i : Nat} {x : Int64} (O : OkK κ μ) (hd : decode μ.1 pc = .ok (.lstore i, 2)) (hn : i + 1 < μ.2.1) (hl : (i, Value.long x) :: lv.filter (fun q => !(q.1 == i) && (!(q.1 == i + 1) && !(q.1 + 1 == i && q.2.category == 2))) = lv') (hp : pc + 2 = pc') (k : G κ μ cells slots pc' lv' st M) : G κ μ cells slots pc lv (.long x :: st) M := by
  obtain ⟨p, l, e, s, m, args, below, meth, c, z, D, ca, kc, r, M'⟩ := κ
  obtain ⟨cc, nL, own, ret, R, nm⟩ := μ
  intro H ls locs a1 a2 a3 a4 a5
  subst hp
  exact lv_lstore O.1 O.2.1 hd a5 hn hl (fun ls' h' => k H ls' locs a1 a2 a3 a4 h')
theorem g_aload_n {j : Fin 4} {i : Nat} {x : Nat} (q : Nat) (O : OkK κ μ) (hd : decode μ.1 pc = .ok (.aload_n j, 1)) (hi : (j : Nat) = i) (hq : lv[q]? = some (i, .ref x)) (hp : pc + 1 = pc') (k : G κ μ cells slots pc' lv (.ref x :: st) M) : G κ μ cells slots pc lv st M := by
  obtain ⟨p, l, e, s, m, args, below, meth, c, z, D, ca, kc, r, M'⟩ := κ
  obtain ⟨cc, nL, own, ret, R, nm⟩ := μ
  intro H ls locs a1 a2 a3 a4 a5
  subst hp
  exact lv_aload_n O.1 O.2.1 hd hi (lv_at a5 q hq) (k H ls locs a1 a2 a3 a4 a5)
theorem g_aload {i : Nat} {x : Nat} (q : Nat) (O : OkK κ μ) (hd : decode μ.1 pc = .ok (.aload i, 2)) (hq : lv[q]? = some (i, .ref x)) (hp : pc + 2 = pc') (k : G κ μ cells slots pc' lv (.ref x :: st) M) : G κ μ cells slots pc lv st M := by
  obtain ⟨p, l, e, s, m, args, below, meth, c, z, D, ca, kc, r, M'⟩ := κ
  obtain ⟨cc, nL, own, ret, R, nm⟩ := μ
  intro H ls locs a1 a2 a3 a4 a5
  subst hp
  exact lv_aload O.1 O.2.1 hd (lv_at a5 q hq) (k H ls locs a1 a2 a3 a4 a5)
theorem g_astore_n {j : Fin 4} {i : Nat} {x : Nat} (O : OkK κ μ) (hd : decode μ.1 pc = .ok (.astore_n j, 1)) (hi : (j : Nat) = i) (hn : i < μ.2.1) (hl : (i, Value.ref x) :: lv.filter (fun q => !(q.1 == i) && !(q.1 + 1 == i && q.2.category == 2)) = lv') (hp : pc + 1 = pc') (k : G κ μ cells slots pc' lv' st M) : G κ μ cells slots pc lv (.ref x :: st) M := by
  obtain ⟨p, l, e, s, m, args, below, meth, c, z, D, ca, kc, r, M'⟩ := κ
  obtain ⟨cc, nL, own, ret, R, nm⟩ := μ
  intro H ls locs a1 a2 a3 a4 a5
  subst hp
  exact lv_astore_n O.1 O.2.1 hd hi a5 hn hl (fun ls' h' => k H ls' locs a1 a2 a3 a4 h')
theorem g_astore {i : Nat} {x : Nat} (O : OkK κ μ) (hd : decode μ.1 pc = .ok (.astore i, 2)) (hn : i < μ.2.1) (hl : (i, Value.ref x) :: lv.filter (fun q => !(q.1 == i) && !(q.1 + 1 == i && q.2.category == 2)) = lv') (hp : pc + 2 = pc') (k : G κ μ cells slots pc' lv' st M) : G κ μ cells slots pc lv (.ref x :: st) M := by
  obtain ⟨p, l, e, s, m, args, below, meth, c, z, D, ca, kc, r, M'⟩ := κ
  obtain ⟨cc, nL, own, ret, R, nm⟩ := μ
  intro H ls locs a1 a2 a3 a4 a5
  subst hp
  exact lv_astore O.1 O.2.1 hd a5 hn hl (fun ls' h' => k H ls' locs a1 a2 a3 a4 h')
theorem g_aloadO_n {j : Fin 4} {i : Nat} {x : Option Nat} (q : Nat) (O : OkK κ μ) (hd : decode μ.1 pc = .ok (.aload_n j, 1)) (hi : (j : Nat) = i) (hq : lv[q]? = some (i, va_rf x)) (hp : pc + 1 = pc') (k : G κ μ cells slots pc' lv (va_rf x :: st) M) : G κ μ cells slots pc lv st M := by
  obtain ⟨p, l, e, s, m, args, below, meth, c, z, D, ca, kc, r, M'⟩ := κ
  obtain ⟨cc, nL, own, ret, R, nm⟩ := μ
  intro H ls locs a1 a2 a3 a4 a5
  subst hp
  cases x with
  | none => exact lv_aload_nN O.1 O.2.1 hd hi (lv_at a5 q hq) (k H ls locs a1 a2 a3 a4 a5)
  | some x => exact lv_aload_n O.1 O.2.1 hd hi (lv_at a5 q hq) (k H ls locs a1 a2 a3 a4 a5)
theorem g_aloadO {i : Nat} {x : Option Nat} (q : Nat) (O : OkK κ μ) (hd : decode μ.1 pc = .ok (.aload i, 2)) (hq : lv[q]? = some (i, va_rf x)) (hp : pc + 2 = pc') (k : G κ μ cells slots pc' lv (va_rf x :: st) M) : G κ μ cells slots pc lv st M := by
  obtain ⟨p, l, e, s, m, args, below, meth, c, z, D, ca, kc, r, M'⟩ := κ
  obtain ⟨cc, nL, own, ret, R, nm⟩ := μ
  intro H ls locs a1 a2 a3 a4 a5
  subst hp
  cases x with
  | none => exact lv_aloadN O.1 O.2.1 hd (lv_at a5 q hq) (k H ls locs a1 a2 a3 a4 a5)
  | some x => exact lv_aload O.1 O.2.1 hd (lv_at a5 q hq) (k H ls locs a1 a2 a3 a4 a5)
theorem g_astoreO_n {j : Fin 4} {i : Nat} {x : Option Nat} (O : OkK κ μ) (hd : decode μ.1 pc = .ok (.astore_n j, 1)) (hi : (j : Nat) = i) (hn : i < μ.2.1) (hl : (i, va_rf x) :: lv.filter (fun q => !(q.1 == i) && !(q.1 + 1 == i && q.2.category == 2)) = lv') (hp : pc + 1 = pc') (k : G κ μ cells slots pc' lv' st M) : G κ μ cells slots pc lv (va_rf x :: st) M := by
  obtain ⟨p, l, e, s, m, args, below, meth, c, z, D, ca, kc, r, M'⟩ := κ
  obtain ⟨cc, nL, own, ret, R, nm⟩ := μ
  intro H ls locs a1 a2 a3 a4 a5
  subst hp
  cases x with
  | none => exact lv_astore_nN O.1 O.2.1 hd hi a5 hn hl (fun ls' h' => k H ls' locs a1 a2 a3 a4 h')
  | some x => exact lv_astore_n O.1 O.2.1 hd hi a5 hn hl (fun ls' h' => k H ls' locs a1 a2 a3 a4 h')
theorem g_astoreO {i : Nat} {x : Option Nat} (O : OkK κ μ) (hd : decode μ.1 pc = .ok (.astore i, 2)) (hn : i < μ.2.1) (hl : (i, va_rf x) :: lv.filter (fun q => !(q.1 == i) && !(q.1 + 1 == i && q.2.category == 2)) = lv') (hp : pc + 2 = pc') (k : G κ μ cells slots pc' lv' st M) : G κ μ cells slots pc lv (va_rf x :: st) M := by
  obtain ⟨p, l, e, s, m, args, below, meth, c, z, D, ca, kc, r, M'⟩ := κ
  obtain ⟨cc, nL, own, ret, R, nm⟩ := μ
  intro H ls locs a1 a2 a3 a4 a5
  subst hp
  cases x with
  | none => exact lv_astoreN O.1 O.2.1 hd a5 hn hl (fun ls' h' => k H ls' locs a1 a2 a3 a4 h')
  | some x => exact lv_astore O.1 O.2.1 hd a5 hn hl (fun ls' h' => k H ls' locs a1 a2 a3 a4 h')
theorem g_iinc {i q : Nat} {n : Int} {x v : Int32} (O : OkK κ μ) (hd : decode μ.1 pc = .ok (.iinc i n, 3)) (hq : lv[q]? = some (i, .int x)) (hv : x + Int32.ofInt n = v) (hn : i < μ.2.1) (hl : (i, Value.int v) :: lv.filter (fun q => !(q.1 == i) && !(q.1 + 1 == i && q.2.category == 2)) = lv') (hp : pc + 3 = pc') (k : G κ μ cells slots pc' lv' st M) : G κ μ cells slots pc lv st M := by
  obtain ⟨p, l, e, s, m, args, below, meth, c, z, D, ca, kc, r, M'⟩ := κ
  obtain ⟨cc, nL, own, ret, R, nm⟩ := μ
  intro H ls locs a1 a2 a3 a4 a5
  subst hp
  exact lv_iinc O.1 O.2.1 hd a5 hq hv hn hl (fun ls' h' => k H ls' locs a1 a2 a3 a4 h')
theorem g_sub (ks : List Nat) (hl : lv_pick lv ks = lv') (k : G κ μ cells slots pc lv' st M) : G κ μ cells slots pc lv st M := by
  obtain ⟨p, l, e, s, m, args, below, meth, c, z, D, ca, kc, r, M'⟩ := κ
  obtain ⟨cc, nL, own, ret, R, nm⟩ := μ
  intro H ls locs a1 a2 a3 a4 a5
  exact k H ls locs a1 a2 a3 a4 (lv_sub a5 ks hl)
theorem g_widen {c2 s2 : Nat} (h1 : cells ≤ c2) (h2 : slots ≤ s2) (k : G κ μ c2 s2 pc lv st M) : G κ μ cells slots pc lv st M := by
  obtain ⟨p, l, e, s, m, args, below, meth, c, z, D, ca, kc, r, M'⟩ := κ
  obtain ⟨cc, nL, own, ret, R, nm⟩ := μ
  intro H ls locs a1 a2 a3 a4 a5
  exact W.widen h1 h2 (k H ls locs a1 a2 a3 a4 a5)
theorem g_goto {off : Int} (O : OkK κ μ) (hd : decode μ.1 pc = .ok (.goto off, 3)) (ht : (pc : Int) + off = (pc' : Int)) (k : G κ μ cells slots pc' lv st M) : G κ μ cells slots pc lv st M := by
  obtain ⟨p, l, e, s, m, args, below, meth, c, z, D, ca, kc, r, M'⟩ := κ
  obtain ⟨cc, nL, own, ret, R, nm⟩ := μ
  intro H ls locs a1 a2 a3 a4 a5
  exact lv_goto O.1 O.2.1 hd ht (k H ls locs a1 a2 a3 a4 a5)
theorem g_ifnull {off : Int} {x : Option Nat} {tgt : Nat} (O : OkK κ μ) (hd : decode μ.1 pc = .ok (.ifnull off, 3)) (ht : (pc : Int) + off = (tgt : Int)) (hp : pc + 3 = pc') (kt : x = none → G κ μ cells slots tgt lv st M) (kf : ∀ a, x = some a → G κ μ cells slots pc' lv st M) : G κ μ cells slots pc lv (va_rf x :: st) M := by
  obtain ⟨p, l, e, s, m, args, below, meth, c, z, D, ca, kc, r, M'⟩ := κ
  obtain ⟨cc, nL, own, ret, R, nm⟩ := μ
  intro H ls locs a1 a2 a3 a4 a5
  subst hp
  cases x with
  | none => exact lv_ifnullN O.1 O.2.1 hd ht (kt rfl H ls locs a1 a2 a3 a4 a5)
  | some x => exact lv_ifnull O.1 O.2.1 hd (kf x rfl H ls locs a1 a2 a3 a4 a5)
theorem g_ifnonnull {off : Int} {x : Option Nat} {tgt : Nat} (O : OkK κ μ) (hd : decode μ.1 pc = .ok (.ifnonnull off, 3)) (ht : (pc : Int) + off = (tgt : Int)) (hp : pc + 3 = pc') (kt : ∀ a, x = some a → G κ μ cells slots tgt lv st M) (kf : x = none → G κ μ cells slots pc' lv st M) : G κ μ cells slots pc lv (va_rf x :: st) M := by
  obtain ⟨p, l, e, s, m, args, below, meth, c, z, D, ca, kc, r, M'⟩ := κ
  obtain ⟨cc, nL, own, ret, R, nm⟩ := μ
  intro H ls locs a1 a2 a3 a4 a5
  subst hp
  cases x with
  | none => exact lv_ifnonnullN O.1 O.2.1 hd (kf rfl H ls locs a1 a2 a3 a4 a5)
  | some x => exact lv_ifnonnull O.1 O.2.1 hd ht (kt x rfl H ls locs a1 a2 a3 a4 a5)
theorem g_tableOut {dflt lo hi : Int} {offs : Array Int} {len : Nat} {x : Int32} (O : OkK κ μ) (hd : decode μ.1 pc = .ok (.tableswitch dflt lo hi offs, len)) (h : x.toInt < lo ∨ hi < x.toInt) (ht : (pc : Int) + dflt = (pc' : Int)) (k : G κ μ cells slots pc' lv st M) : G κ μ cells slots pc lv (.int x :: st) M := by
  obtain ⟨p, l, e, s, m, args, below, meth, c, z, D, ca, kc, r, M'⟩ := κ
  obtain ⟨cc, nL, own, ret, R, nm⟩ := μ
  intro H ls locs a1 a2 a3 a4 a5
  exact lv_tableOut O.1 O.2.1 hd h ht (k H ls locs a1 a2 a3 a4 a5)
theorem g_tableIn {dflt lo hi : Int} {offs : Array Int} {len : Nat} {x : Int32} {off : Int} (O : OkK κ μ) (hd : decode μ.1 pc = .ok (.tableswitch dflt lo hi offs, len)) (h1 : ¬ x.toInt < lo) (h2 : ¬ hi < x.toInt) (ho : offs[(x.toInt - lo).toNat]? = some off) (ht : (pc : Int) + off = (pc' : Int)) (k : G κ μ cells slots pc' lv st M) : G κ μ cells slots pc lv (.int x :: st) M := by
  obtain ⟨p, l, e, s, m, args, below, meth, c, z, D, ca, kc, r, M'⟩ := κ
  obtain ⟨cc, nL, own, ret, R, nm⟩ := μ
  intro H ls locs a1 a2 a3 a4 a5
  exact lv_tableIn O.1 O.2.1 hd h1 h2 ho ht (k H ls locs a1 a2 a3 a4 a5)
theorem g_if_eq {x : Int32} {off : Int} {tgt : Nat} (O : OkK κ μ) (hd : decode μ.1 pc = .ok (.ifCond .eq off, 3)) (ht : (pc : Int) + off = (tgt : Int)) (hp : pc + 3 = pc') (kt : x = 0 → G κ μ cells slots tgt lv st M) (kf : ¬ x = 0 → G κ μ cells slots pc' lv st M) : G κ μ cells slots pc lv (.int x :: st) M := by
  obtain ⟨p, l, e, s, m, args, below, meth, c, z, D, ca, kc, r, M'⟩ := κ
  obtain ⟨cc, nL, own, ret, R, nm⟩ := μ
  intro H ls locs a1 a2 a3 a4 a5
  subst hp
  exact lv_if_eq O.1 O.2.1 hd ht (fun q => kt q H ls locs a1 a2 a3 a4 a5) (fun q => kf q H ls locs a1 a2 a3 a4 a5)
theorem g_icmp_eq {x y : Int32} {off : Int} {tgt : Nat} (O : OkK κ μ) (hd : decode μ.1 pc = .ok (.if_icmp .eq off, 3)) (ht : (pc : Int) + off = (tgt : Int)) (hp : pc + 3 = pc') (kt : x = y → G κ μ cells slots tgt lv st M) (kf : ¬ x = y → G κ μ cells slots pc' lv st M) : G κ μ cells slots pc lv (.int y :: .int x :: st) M := by
  obtain ⟨p, l, e, s, m, args, below, meth, c, z, D, ca, kc, r, M'⟩ := κ
  obtain ⟨cc, nL, own, ret, R, nm⟩ := μ
  intro H ls locs a1 a2 a3 a4 a5
  subst hp
  exact lv_icmp_eq O.1 O.2.1 hd ht (fun q => kt q H ls locs a1 a2 a3 a4 a5) (fun q => kf q H ls locs a1 a2 a3 a4 a5)
theorem g_if_ne {x : Int32} {off : Int} {tgt : Nat} (O : OkK κ μ) (hd : decode μ.1 pc = .ok (.ifCond .ne off, 3)) (ht : (pc : Int) + off = (tgt : Int)) (hp : pc + 3 = pc') (kt : ¬ x = 0 → G κ μ cells slots tgt lv st M) (kf : x = 0 → G κ μ cells slots pc' lv st M) : G κ μ cells slots pc lv (.int x :: st) M := by
  obtain ⟨p, l, e, s, m, args, below, meth, c, z, D, ca, kc, r, M'⟩ := κ
  obtain ⟨cc, nL, own, ret, R, nm⟩ := μ
  intro H ls locs a1 a2 a3 a4 a5
  subst hp
  exact lv_if_ne O.1 O.2.1 hd ht (fun q => kt q H ls locs a1 a2 a3 a4 a5) (fun q => kf q H ls locs a1 a2 a3 a4 a5)
theorem g_icmp_ne {x y : Int32} {off : Int} {tgt : Nat} (O : OkK κ μ) (hd : decode μ.1 pc = .ok (.if_icmp .ne off, 3)) (ht : (pc : Int) + off = (tgt : Int)) (hp : pc + 3 = pc') (kt : ¬ x = y → G κ μ cells slots tgt lv st M) (kf : x = y → G κ μ cells slots pc' lv st M) : G κ μ cells slots pc lv (.int y :: .int x :: st) M := by
  obtain ⟨p, l, e, s, m, args, below, meth, c, z, D, ca, kc, r, M'⟩ := κ
  obtain ⟨cc, nL, own, ret, R, nm⟩ := μ
  intro H ls locs a1 a2 a3 a4 a5
  subst hp
  exact lv_icmp_ne O.1 O.2.1 hd ht (fun q => kt q H ls locs a1 a2 a3 a4 a5) (fun q => kf q H ls locs a1 a2 a3 a4 a5)
theorem g_if_lt {x : Int32} {off : Int} {tgt : Nat} (O : OkK κ μ) (hd : decode μ.1 pc = .ok (.ifCond .lt off, 3)) (ht : (pc : Int) + off = (tgt : Int)) (hp : pc + 3 = pc') (kt : x < 0 → G κ μ cells slots tgt lv st M) (kf : ¬ x < 0 → G κ μ cells slots pc' lv st M) : G κ μ cells slots pc lv (.int x :: st) M := by
  obtain ⟨p, l, e, s, m, args, below, meth, c, z, D, ca, kc, r, M'⟩ := κ
  obtain ⟨cc, nL, own, ret, R, nm⟩ := μ
  intro H ls locs a1 a2 a3 a4 a5
  subst hp
  exact lv_if_lt O.1 O.2.1 hd ht (fun q => kt q H ls locs a1 a2 a3 a4 a5) (fun q => kf q H ls locs a1 a2 a3 a4 a5)
theorem g_icmp_lt {x y : Int32} {off : Int} {tgt : Nat} (O : OkK κ μ) (hd : decode μ.1 pc = .ok (.if_icmp .lt off, 3)) (ht : (pc : Int) + off = (tgt : Int)) (hp : pc + 3 = pc') (kt : x < y → G κ μ cells slots tgt lv st M) (kf : ¬ x < y → G κ μ cells slots pc' lv st M) : G κ μ cells slots pc lv (.int y :: .int x :: st) M := by
  obtain ⟨p, l, e, s, m, args, below, meth, c, z, D, ca, kc, r, M'⟩ := κ
  obtain ⟨cc, nL, own, ret, R, nm⟩ := μ
  intro H ls locs a1 a2 a3 a4 a5
  subst hp
  exact lv_icmp_lt O.1 O.2.1 hd ht (fun q => kt q H ls locs a1 a2 a3 a4 a5) (fun q => kf q H ls locs a1 a2 a3 a4 a5)
theorem g_if_ge {x : Int32} {off : Int} {tgt : Nat} (O : OkK κ μ) (hd : decode μ.1 pc = .ok (.ifCond .ge off, 3)) (ht : (pc : Int) + off = (tgt : Int)) (hp : pc + 3 = pc') (kt : 0 ≤ x → G κ μ cells slots tgt lv st M) (kf : ¬ 0 ≤ x → G κ μ cells slots pc' lv st M) : G κ μ cells slots pc lv (.int x :: st) M := by
  obtain ⟨p, l, e, s, m, args, below, meth, c, z, D, ca, kc, r, M'⟩ := κ
  obtain ⟨cc, nL, own, ret, R, nm⟩ := μ
  intro H ls locs a1 a2 a3 a4 a5
  subst hp
  exact lv_if_ge O.1 O.2.1 hd ht (fun q => kt q H ls locs a1 a2 a3 a4 a5) (fun q => kf q H ls locs a1 a2 a3 a4 a5)
theorem g_icmp_ge {x y : Int32} {off : Int} {tgt : Nat} (O : OkK κ μ) (hd : decode μ.1 pc = .ok (.if_icmp .ge off, 3)) (ht : (pc : Int) + off = (tgt : Int)) (hp : pc + 3 = pc') (kt : y ≤ x → G κ μ cells slots tgt lv st M) (kf : ¬ y ≤ x → G κ μ cells slots pc' lv st M) : G κ μ cells slots pc lv (.int y :: .int x :: st) M := by
  obtain ⟨p, l, e, s, m, args, below, meth, c, z, D, ca, kc, r, M'⟩ := κ
  obtain ⟨cc, nL, own, ret, R, nm⟩ := μ
  intro H ls locs a1 a2 a3 a4 a5
  subst hp
  exact lv_icmp_ge O.1 O.2.1 hd ht (fun q => kt q H ls locs a1 a2 a3 a4 a5) (fun q => kf q H ls locs a1 a2 a3 a4 a5)
theorem g_if_gt {x : Int32} {off : Int} {tgt : Nat} (O : OkK κ μ) (hd : decode μ.1 pc = .ok (.ifCond .gt off, 3)) (ht : (pc : Int) + off = (tgt : Int)) (hp : pc + 3 = pc') (kt : 0 < x → G κ μ cells slots tgt lv st M) (kf : ¬ 0 < x → G κ μ cells slots pc' lv st M) : G κ μ cells slots pc lv (.int x :: st) M := by
  obtain ⟨p, l, e, s, m, args, below, meth, c, z, D, ca, kc, r, M'⟩ := κ
  obtain ⟨cc, nL, own, ret, R, nm⟩ := μ
  intro H ls locs a1 a2 a3 a4 a5
  subst hp
  exact lv_if_gt O.1 O.2.1 hd ht (fun q => kt q H ls locs a1 a2 a3 a4 a5) (fun q => kf q H ls locs a1 a2 a3 a4 a5)
theorem g_icmp_gt {x y : Int32} {off : Int} {tgt : Nat} (O : OkK κ μ) (hd : decode μ.1 pc = .ok (.if_icmp .gt off, 3)) (ht : (pc : Int) + off = (tgt : Int)) (hp : pc + 3 = pc') (kt : y < x → G κ μ cells slots tgt lv st M) (kf : ¬ y < x → G κ μ cells slots pc' lv st M) : G κ μ cells slots pc lv (.int y :: .int x :: st) M := by
  obtain ⟨p, l, e, s, m, args, below, meth, c, z, D, ca, kc, r, M'⟩ := κ
  obtain ⟨cc, nL, own, ret, R, nm⟩ := μ
  intro H ls locs a1 a2 a3 a4 a5
  subst hp
  exact lv_icmp_gt O.1 O.2.1 hd ht (fun q => kt q H ls locs a1 a2 a3 a4 a5) (fun q => kf q H ls locs a1 a2 a3 a4 a5)
theorem g_if_le {x : Int32} {off : Int} {tgt : Nat} (O : OkK κ μ) (hd : decode μ.1 pc = .ok (.ifCond .le off, 3)) (ht : (pc : Int) + off = (tgt : Int)) (hp : pc + 3 = pc') (kt : x ≤ 0 → G κ μ cells slots tgt lv st M) (kf : ¬ x ≤ 0 → G κ μ cells slots pc' lv st M) : G κ μ cells slots pc lv (.int x :: st) M := by
  obtain ⟨p, l, e, s, m, args, below, meth, c, z, D, ca, kc, r, M'⟩ := κ
  obtain ⟨cc, nL, own, ret, R, nm⟩ := μ
  intro H ls locs a1 a2 a3 a4 a5
  subst hp
  exact lv_if_le O.1 O.2.1 hd ht (fun q => kt q H ls locs a1 a2 a3 a4 a5) (fun q => kf q H ls locs a1 a2 a3 a4 a5)
theorem g_icmp_le {x y : Int32} {off : Int} {tgt : Nat} (O : OkK κ μ) (hd : decode μ.1 pc = .ok (.if_icmp .le off, 3)) (ht : (pc : Int) + off = (tgt : Int)) (hp : pc + 3 = pc') (kt : x ≤ y → G κ μ cells slots tgt lv st M) (kf : ¬ x ≤ y → G κ μ cells slots pc' lv st M) : G κ μ cells slots pc lv (.int y :: .int x :: st) M := by
  obtain ⟨p, l, e, s, m, args, below, meth, c, z, D, ca, kc, r, M'⟩ := κ
  obtain ⟨cc, nL, own, ret, R, nm⟩ := μ
  intro H ls locs a1 a2 a3 a4 a5
  subst hp
  exact lv_icmp_le O.1 O.2.1 hd ht (fun q => kt q H ls locs a1 a2 a3 a4 a5) (fun q => kf q H ls locs a1 a2 a3 a4 a5)
end ROWS
end
section
section MEMROWS
variable {κ : KT} {μ : MD} {cells slots pc pc' : Nat} {lv lv' : List (Nat × Value)} {st : List Value} {M M2 : Mem}
theorem g_getF {C : String} {T : u_T} {N ci idx k : Nat} {a : Nat} {v : Value} (O : OkK κ μ) (hd : decode μ.1 pc = .ok (.getfield idx, 3)) (hc : vwCl[ci]? = some (C, T, N)) (hin : ∀ w ∈ u_ws C T N, w ∈ lw_tbl) (hk : k < N) (hw : Cond.fieldLink μ.2.2.1 idx (T k).1 (T k).2.1 (T k).2.2.1 ∈ lw_tbl) (hv : gF M ci a k = some v) (hp : pc + 3 = pc') (kk : G κ μ cells slots pc' lv (v :: st) M) : G κ μ cells slots pc lv (.ref a :: st) M := by
  obtain ⟨p, l, e, s, m, args, below, meth, c, z, D, ca, kc, r, M'⟩ := κ
  obtain ⟨cc, nL, own, ret, R, nm⟩ := μ
  intro H ls locs a1 a2 a3 a4 a5
  subst hp
  have hts : ∀ w ∈ gT, w.before args s = true := fun w h => O.2.2.2.2.1 w (List.mem_filter.mp h).1 (List.mem_filter.mp h).2
  obtain ⟨fs, hM, hf⟩ := gF_spec hv
  have hx := (a3 a _ hM).2
  exact va_get (ws := [(a, .inr (ci, fs))]) O.1 O.2.1 hts (u_gT hin) O.2.2.2.1 O.2.2.2.2.2.2.2.2.1 (sg_P hx) 0 rfl hc k hk (O.2.2.2.2.1 _ hw rfl) (fun _ h => h) hf hd (kk H ls locs a1 a2 a3 a4 a5)
theorem g_putF {C : String} {T : u_T} {N ci idx k : Nat} {a : Nat} {v : Value} {ty : FieldType} (O : OkK κ μ) (hd : decode μ.1 pc = .ok (.putfield idx, 3)) (hc : vwCl[ci]? = some (C, T, N)) (hin : ∀ w ∈ u_ws C T N, w ∈ lw_tbl) (hk : k < N) (hw : Cond.fieldLink μ.2.2.1 idx (T k).1 (T k).2.1 (T k).2.2.1 ∈ lw_tbl) (ty0 : Nat → FieldType) (hty : ∀ k, k < N → parseFieldDescriptor (T k).2.2.1 = some (ty0 k)) (hnm : ∀ a, a < N → ∀ b, b < N → a ≠ b → (T a).2.1 ≠ (T b).2.1) (hfin : (T k).2.2.2 = false) (hpd : ty0 k = ty) (hn : narrow ty v = v) (hfit : fits ty v = true) (hv : pF M ci a k v = some M2) (hp : pc + 3 = pc') (kk : G κ μ cells slots pc' lv st M2) : G κ μ cells slots pc lv (v :: .ref a :: st) M := by
  obtain ⟨p, l, e, s, m, args, below, meth, c, z, D, ca, kc, r, M'⟩ := κ
  obtain ⟨cc, nL, own, ret, R, nm⟩ := μ
  intro H ls locs a1 a2 a3 a4 a5
  subst hp
  have hts : ∀ w ∈ gT, w.before args s = true := fun w h => O.2.2.2.2.1 w (List.mem_filter.mp h).1 (List.mem_filter.mp h).2
  obtain ⟨fs, hM, hl, rfl⟩ := pF_spec hv
  obtain ⟨hz, r0, h1, cell, q1, q2, q3, q4⟩ := a3 a _ hM
  have hr : r0 = (C, T, N) := Option.some.inj (h1.symm.trans hc)
  subst hr
  have hap := va_apart (own := own) hts (u_gT hin) ty0 hty hnm O.2.2.2.2.2.2.2.2.1 hc
  obtain ⟨hS, hfc, kC, hkC, hkind⟩ := O.2.2.2.2.2.2.2.2.1.1 ci _ hc
  obtain ⟨cf, kf, fi, f, hi, hsl⟩ := hS k hk
  have hlay := hts _ (u_gT hin _ (u_in_lay hk))
  unfold u_lay at hlay
  rw [if_neg (by rw [hfin]; decide)] at hlay
  have hst := (u_facts hfc hkC (u_lays hts (u_gT hin) hk) hi).1
  have h6 := u_store hfc hkC hkind hlay hi ((hty k hk).trans (congrArg some hpd)) hn hfit
  refine W.putK O.1 O.2.1 (f := f) ⟨O.2.2.2.1, O.2.2.2.2.1 _ hw rfl, ⟨_, _, _, hi⟩, hst⟩ (by rw [q2]; exact h6) q1 q3 (by rw [hsl]; exact k2_hasslot (q4 k hk)) rfl rfl hd fun H' e1 e2 e3 => ?_
  rw [hsl] at e1 ⊢
  exact kk H' ls _ (a1.trans e2.symm) a2 (a3.put hz ⟨_, hc, t_OB.to (V := updV (vp_V fs) k v) ⟨_, e1, q2, q3, t_set q4 hap hk v⟩ (fun j _ => vp_updV_set hl v j)⟩ e3) (a4.put e2 e3 hz) a5
theorem g_putFF {C : String} {T : u_T} {N ci idx k : Nat} {a : Nat} {v : Value} {ty : FieldType} (O : OkK κ μ) (hd : decode μ.1 pc = .ok (.putfield idx, 3)) (hc : vwCl[ci]? = some (C, T, N)) (hin : ∀ w ∈ u_ws C T N, w ∈ lw_tbl) (hk : k < N) (hw : Cond.fieldLink μ.2.2.1 idx (T k).1 (T k).2.1 (T k).2.2.1 ∈ lw_tbl) (ty0 : Nat → FieldType) (hty : ∀ k, k < N → parseFieldDescriptor (T k).2.2.1 = some (ty0 k)) (hnm : ∀ a, a < N → ∀ b, b < N → a ≠ b → (T a).2.1 ≠ (T b).2.1) (hfin : (T k).2.2.2 = true) (hin2 : μ.2.2.2.2.2 = "<init>") (hdecl : (T k).1 = μ.2.2.1) (hpd : ty0 k = ty) (hn : narrow ty v = v) (hfit : fits ty v = true) (hv : pF M ci a k v = some M2) (hp : pc + 3 = pc') (kk : G κ μ cells slots pc' lv st M2) : G κ μ cells slots pc lv (v :: .ref a :: st) M := by
  obtain ⟨p, l, e, s, m, args, below, meth, c, z, D, ca, kc, r, M'⟩ := κ
  obtain ⟨cc, nL, own, ret, R, nm⟩ := μ
  intro H ls locs a1 a2 a3 a4 a5
  subst hp
  have hts : ∀ w ∈ gT, w.before args s = true := fun w h => O.2.2.2.2.1 w (List.mem_filter.mp h).1 (List.mem_filter.mp h).2
  obtain ⟨fs, hM, hl, rfl⟩ := pF_spec hv
  obtain ⟨hz, r0, h1, cell, q1, q2, q3, q4⟩ := a3 a _ hM
  have hr : r0 = (C, T, N) := Option.some.inj (h1.symm.trans hc)
  subst hr
  have hap := va_apart (own := own) hts (u_gT hin) ty0 hty hnm O.2.2.2.2.2.2.2.2.1 hc
  obtain ⟨hS, hfc, kC, hkC, hkind⟩ := O.2.2.2.2.2.2.2.2.1.1 ci _ hc
  obtain ⟨cf, kf, fi, f, hi, hsl⟩ := hS k hk
  have hlay := hts _ (u_gT hin _ (u_in_lay hk))
  unfold u_lay at hlay
  rw [if_pos hfin] at hlay
  have hst := (u_facts hfc hkC (u_lays hts (u_gT hin) hk) hi).1
  have hcf : m.cls = cf := by
    obtain ⟨_, _, c', _, _, _, -, -, hf', -, -, -, hown2, -⟩ := Cond.laysFinal_spec hlay
    have e1 : c' = cf := by have := hi.symm.trans hf'; simp at this; exact this.1.symm
    rw [hdecl] at hown2
    rw [← e1]; exact Option.some.inj (O.2.2.2.1.symm.trans hown2)
  have h6 := u_fits hfc hkC hkind (Or.inr hlay) hi ((hty k hk).trans (congrArg some hpd)) hn hfit
  refine W.putFinK O.1 O.2.1 O.2.2.2.1 (O.2.2.2.2.1 _ hw rfl) hi hst hcf (O.2.2.2.2.2.2.2.1.trans hin2) (by rw [q2]; exact h6) q1 q3 (by rw [hsl]; exact k2_hasslot (q4 k hk)) rfl rfl hd fun H' e1 e2 e3 => ?_
  rw [hsl] at e1 ⊢
  exact kk H' ls _ (a1.trans e2.symm) a2 (a3.put hz ⟨_, hc, t_OB.to (V := updV (vp_V fs) k v) ⟨_, e1, q2, q3, t_set q4 hap hk v⟩ (fun j _ => vp_updV_set hl v j)⟩ e3) (a4.put e2 e3 hz) a5
theorem g_iald {a : Nat} {i : Int32} {x : Int32} (O : OkK κ μ) (hd : decode μ.1 pc = .ok (.iaload, 1)) (hv : aI M a i = some x) (hp : pc + 1 = pc') (kk : G κ μ cells slots pc' lv (.int x :: st) M) : G κ μ cells slots pc lv (.int i :: .ref a :: st) M := by
  obtain ⟨p, l, e, s, m, args, below, meth, c, z, D, ca, kc, r, M'⟩ := κ
  obtain ⟨cc, nL, own, ret, R, nm⟩ := μ
  intro H ls locs a1 a2 a3 a4 a5
  subst hp
  obtain ⟨n, f, hM, hin, rfl⟩ := aI_spec hv
  exact va_iald (ws := [(a, .inl (ca .int, n, .inl f))]) O.1 O.2.1 O.2.2.2.2.2.2.2.2.1 (sg_P (a3 a _ hM).2.1) 0 0 rfl rfl (inr_in hin) hd (kk H ls locs a1 a2 a3 a4 a5)
theorem g_lald {a : Nat} {i : Int32} {x : Int64} (O : OkK κ μ) (hd : decode μ.1 pc = .ok (.laload, 1)) (hv : aL M a i = some x) (hp : pc + 1 = pc') (kk : G κ μ cells slots pc' lv (.long x :: st) M) : G κ μ cells slots pc lv (.int i :: .ref a :: st) M := by
  obtain ⟨p, l, e, s, m, args, below, meth, c, z, D, ca, kc, r, M'⟩ := κ
  obtain ⟨cc, nL, own, ret, R, nm⟩ := μ
  intro H ls locs a1 a2 a3 a4 a5
  subst hp
  obtain ⟨n, f, hM, hin, rfl⟩ := aL_spec hv
  exact va_lald (ws := [(a, .inl (ca .long, n, .inr (.inl f)))]) O.1 O.2.1 O.2.2.2.2.2.2.2.2.1 (sg_P (a3 a _ hM).2.1) 0 1 rfl rfl (inr_in hin) hd (kk H ls locs a1 a2 a3 a4 a5)
theorem g_bald {a : Nat} {i : Int32} {x : Int32} (O : OkK κ μ) (hd : decode μ.1 pc = .ok (.baload, 1)) (hv : aB M a i = some x) (hp : pc + 1 = pc') (kk : G κ μ cells slots pc' lv (.int x :: st) M) : G κ μ cells slots pc lv (.int i :: .ref a :: st) M := by
  obtain ⟨p, l, e, s, m, args, below, meth, c, z, D, ca, kc, r, M'⟩ := κ
  obtain ⟨cc, nL, own, ret, R, nm⟩ := μ
  intro H ls locs a1 a2 a3 a4 a5
  subst hp
  obtain ⟨n, f, hM, hin, rfl⟩ := aB_spec hv
  exact va_bald (ws := [(a, .inl (ca .byte, n, .inl f))]) O.1 O.2.1 O.2.2.2.2.2.2.2.2.1 (sg_P (a3 a _ hM).2.1) 0 2 rfl rfl (inr_in hin) hd (kk H ls locs a1 a2 a3 a4 a5)
theorem g_zald {a : Nat} {i : Int32} {x : Int32} (O : OkK κ μ) (hd : decode μ.1 pc = .ok (.baload, 1)) (hv : aZ M a i = some x) (hp : pc + 1 = pc') (kk : G κ μ cells slots pc' lv (.int x :: st) M) : G κ μ cells slots pc lv (.int i :: .ref a :: st) M := by
  obtain ⟨p, l, e, s, m, args, below, meth, c, z, D, ca, kc, r, M'⟩ := κ
  obtain ⟨cc, nL, own, ret, R, nm⟩ := μ
  intro H ls locs a1 a2 a3 a4 a5
  subst hp
  obtain ⟨n, f, hM, hin, rfl⟩ := aZ_spec hv
  exact va_zald (ws := [(a, .inl (ca .boolean, n, .inl f))]) O.1 O.2.1 O.2.2.2.2.2.2.2.2.1 (sg_P (a3 a _ hM).2.1) 0 3 rfl rfl (inr_in hin) hd (kk H ls locs a1 a2 a3 a4 a5)
theorem g_aald {a : Nat} {i : Int32} {x : Option Nat} (O : OkK κ μ) (hd : decode μ.1 pc = .ok (.aaload, 1)) (hv : aQ M a i = some x) (hp : pc + 1 = pc') (kk : G κ μ cells slots pc' lv (va_rf x :: st) M) : G κ μ cells slots pc lv (.int i :: .ref a :: st) M := by
  obtain ⟨p, l, e, s, m, args, below, meth, c, z, D, ca, kc, r, M'⟩ := κ
  obtain ⟨cc, nL, own, ret, R, nm⟩ := μ
  intro H ls locs a1 a2 a3 a4 a5
  subst hp
  obtain ⟨C, n, f, hM, hin, rfl⟩ := aQ_spec hv
  obtain ⟨-, h1, t0, ht0⟩ := a3 a _ hM
  exact va_aldq (ws := [(a, .inl (ca (.object C), n, .inr (.inr (.inr (.inr f)))))]) O.1 O.2.1 O.2.2.2.2.2.2.2.2.1 (sg_P h1) 0 t0 rfl ht0 (inr_in hin) hd (kk H ls locs a1 a2 a3 a4 a5)
theorem g_alen {a : Nat} {x : Int32} (O : OkK κ μ) (hd : decode μ.1 pc = .ok (.arraylength, 1)) (hv : aN M a = some x) (hp : pc + 1 = pc') (kk : G κ μ cells slots pc' lv (.int x :: st) M) : G κ μ cells slots pc lv (.ref a :: st) M := by
  obtain ⟨p, l, e, s, m, args, below, meth, c, z, D, ca, kc, r, M'⟩ := κ
  obtain ⟨cc, nL, own, ret, R, nm⟩ := μ
  intro H ls locs a1 a2 a3 a4 a5
  subst hp
  unfold aN at hv
  split at hv
  · rename_i ty n y hM
    obtain ⟨-, h1, t0, ht0⟩ := a3 a _ hM
    exact va_alen (ws := [(a, .inl (ca ty, n, y))]) O.1 O.2.1 O.2.2.2.2.2.2.2.2.1 (sg_P h1) 0 t0 rfl ht0 (Option.some.inj hv) hd (kk H ls locs a1 a2 a3 a4 a5)
  · cases hv
theorem g_kiald {a : Nat} {i x : Int32} (O : OkK κ μ) (hd : decode μ.1 pc = .ok (.iaload, 1)) (hv : kA M .int a i = some x) (hp : pc + 1 = pc') (kk : G κ μ cells slots pc' lv (.int x :: st) M) : G κ μ cells slots pc lv (.int i :: .ref a :: st) M := by
  obtain ⟨p, l, e, s, m, args, below, meth, c, z, D, ca, kc, r, M'⟩ := κ
  obtain ⟨cc, nL, own, ret, R, nm⟩ := μ
  intro H ls locs a1 a2 a3 a4 a5
  subst hp
  obtain ⟨n, f, hM, hin, rfl⟩ := kA_spec hv
  obtain ⟨cell, h1, h2, h3, h4, h5, h6, h7⟩ := (O.2.2.2.2.2.2.2.2.2.1.1 a _ n f (a2 ▸ hM)).kept a4.2.1
  have hi2 := inr_in hin
  have hlt : i.toNatClampNeg < n := Nat.not_le.mp fun q => hi2 (Or.inr q)
  exact W.iald (v := .int (f i.toNatClampNeg)) O.1 O.2.1 h1 h2 h3 (fun q => q.elim (fun q => hi2 (Or.inl q)) (fun q => by omega)) (h6 _ hlt) rfl rfl hd (kk H ls locs a1 a2 a3 a4 a5)
theorem g_kbald {a : Nat} {i x : Int32} (O : OkK κ μ) (hd : decode μ.1 pc = .ok (.baload, 1)) (hv : kA M .byte a i = some x) (hp : pc + 1 = pc') (kk : G κ μ cells slots pc' lv (.int x :: st) M) : G κ μ cells slots pc lv (.int i :: .ref a :: st) M := by
  obtain ⟨p, l, e, s, m, args, below, meth, c, z, D, ca, kc, r, M'⟩ := κ
  obtain ⟨cc, nL, own, ret, R, nm⟩ := μ
  intro H ls locs a1 a2 a3 a4 a5
  subst hp
  obtain ⟨n, f, hM, hin, rfl⟩ := kA_spec hv
  obtain ⟨cell, h1, h2, h3, h4, h5, h6, h7⟩ := (O.2.2.2.2.2.2.2.2.2.1.1 a _ n f (a2 ▸ hM)).kept a4.2.1
  have hi2 := inr_in hin
  have hlt : i.toNatClampNeg < n := Nat.not_le.mp fun q => hi2 (Or.inr q)
  exact W.bald (v := .int (f i.toNatClampNeg)) O.1 O.2.1 h1 h2 h3 (fun q => q.elim (fun q => hi2 (Or.inl q)) (fun q => by omega)) (h6 _ hlt) rfl rfl hd (kk H ls locs a1 a2 a3 a4 a5)
theorem g_kalen {a : Nat} {x : Int32} (O : OkK κ μ) (hd : decode μ.1 pc = .ok (.arraylength, 1)) (hv : kN M a = some x) (hp : pc + 1 = pc') (kk : G κ μ cells slots pc' lv (.int x :: st) M) : G κ μ cells slots pc lv (.ref a :: st) M := by
  obtain ⟨p, l, e, s, m, args, below, meth, c, z, D, ca, kc, r, M'⟩ := κ
  obtain ⟨cc, nL, own, ret, R, nm⟩ := μ
  intro H ls locs a1 a2 a3 a4 a5
  subst hp
  unfold kN at hv
  split at hv
  · rename_i ty n f hM
    obtain ⟨cell, h1, h2, h3, h4, h5, h6, h7⟩ := (O.2.2.2.2.2.2.2.2.2.1.1 a _ n f (a2 ▸ hM)).kept a4.2.1
    exact W.alen (n := x) O.1 O.2.1 h1 h2 (by rw [h5]; exact Option.some.inj hv) rfl rfl hd (kk H ls locs a1 a2 a3 a4 a5)
  · cases hv
theorem g_kV {a v idx : Nat} (O : OkK κ μ) (hd : decode μ.1 pc = .ok (.getfield idx, 3)) (hw : Cond.fieldLink μ.2.2.1 idx RJ0 "value" "[B" ∈ lw_tbl) (hv : kV M a = some v) (hp : pc + 3 = pc') (kk : G κ μ cells slots pc' lv (.ref v :: st) M) : G κ μ cells slots pc lv (.ref a :: st) M := by
  obtain ⟨p, l, e, s, m, args, below, meth, c, z, D, ca, kc, r, M'⟩ := κ
  obtain ⟨cc, nL, own, ret, R, nm⟩ := μ
  intro H ls locs a1 a2 a3 a4 a5
  subst hp
  exact vk_getf O.1 O.2.1 (O.2.2.2.2.2.2.2.2.2.1.2.1 a v (a2 ▸ hv)).2.2 a4 O.2.2.2.1 (O.2.2.2.2.1 _ hw rfl) (fun _ h => h) hd (kk H ls locs a1 a2 a3 a4 a5)
theorem g_kC {a v idx : Nat} (O : OkK κ μ) (hd : decode μ.1 pc = .ok (.getfield idx, 3)) (hw : Cond.fieldLink μ.2.2.1 idx RJ0 "coder" "B" ∈ lw_tbl) (hv : kV M a = some v) (hp : pc + 3 = pc') (kk : G κ μ cells slots pc' lv (.int 0 :: st) M) : G κ μ cells slots pc lv (.ref a :: st) M := by
  obtain ⟨p, l, e, s, m, args, below, meth, c, z, D, ca, kc, r, M'⟩ := κ
  obtain ⟨cc, nL, own, ret, R, nm⟩ := μ
  intro H ls locs a1 a2 a3 a4 a5
  subst hp
  exact vk_getf O.1 O.2.1 (O.2.2.2.2.2.2.2.2.2.1.2.1 a v (a2 ▸ hv)).2.1 a4 O.2.2.2.1 (O.2.2.2.2.1 _ hw rfl) (fun _ h => h) hd (kk H ls locs a1 a2 a3 a4 a5)
theorem g_iast {a : Nat} {i : Int32} {x : Int32} (O : OkK κ μ) (hd : decode μ.1 pc = .ok (.iastore, 1)) (hv : sI M a i x = some M2) (hp : pc + 1 = pc') (kk : G κ μ cells slots pc' lv st M2) : G κ μ cells slots pc lv (.int x :: .int i :: .ref a :: st) M := by
  obtain ⟨p, l, e, s, m, args, below, meth, c, z, D, ca, kc, r, M'⟩ := κ
  obtain ⟨cc, nL, own, ret, R, nm⟩ := μ
  intro H ls locs a1 a2 a3 a4 a5
  subst hp
  obtain ⟨n, f, hM, hin, rfl⟩ := sI_spec hv
  have hi2 := inr_in hin
  have hz := (a3 a _ hM).1
  refine W.iast O.1 O.2.1 (a3 a _ hM).2.1 ((O.2.2.2.2.2.2.2.2.1.2 0 _ rfl).1 n (fun j => .int (f j))) (fun q => by cases q) (by show ¬ (i < 0 ∨ (arrV _ _ _).slots.size ≤ _); rw [arrV_size]; exact hi2) rfl rfl hd fun H1 e1 e2 e3 => ?_
  refine kk H1 ls _ (a1.trans e2.symm) a2 (a3.put hz ⟨?_, 0, rfl⟩ e3) (a4.put e2 e3 hz) a5
  rw [e1]
  show some ((vp_cell _ _).setSlot _ _) = some (vp_cell _ _)
  rw [vp_cell_i, vp_cell_i, arrV_store]
  congr 2
  funext q
  by_cases hq : q = i.toNatClampNeg
  · subst hq
    simp [updV, upd]
    try rfl
  · simp [updV, upd, hq]
theorem g_last {a : Nat} {i : Int32} {x : Int64} (O : OkK κ μ) (hd : decode μ.1 pc = .ok (.lastore, 1)) (hv : sL M a i x = some M2) (hp : pc + 1 = pc') (kk : G κ μ cells slots pc' lv st M2) : G κ μ cells slots pc lv (.long x :: .int i :: .ref a :: st) M := by
  obtain ⟨p, l, e, s, m, args, below, meth, c, z, D, ca, kc, r, M'⟩ := κ
  obtain ⟨cc, nL, own, ret, R, nm⟩ := μ
  intro H ls locs a1 a2 a3 a4 a5
  subst hp
  obtain ⟨n, f, hM, hin, rfl⟩ := sL_spec hv
  have hi2 := inr_in hin
  have hz := (a3 a _ hM).1
  refine W.last O.1 O.2.1 (a3 a _ hM).2.1 ((O.2.2.2.2.2.2.2.2.1.2 1 _ rfl).1 n (fun j => .long (f j))) (fun q => by cases q) (by show ¬ (i < 0 ∨ (arrV _ _ _).slots.size ≤ _); rw [arrV_size]; exact hi2) rfl rfl hd fun H1 e1 e2 e3 => ?_
  refine kk H1 ls _ (a1.trans e2.symm) a2 (a3.put hz ⟨?_, 1, rfl⟩ e3) (a4.put e2 e3 hz) a5
  rw [e1]
  show some ((vp_cell _ _).setSlot _ _) = some (vp_cell _ _)
  rw [vp_cell_l, vp_cell_l, arrV_store]
  congr 2
  funext q
  by_cases hq : q = i.toNatClampNeg
  · subst hq
    simp [updV, vp_updL]
    try rfl
  · simp [updV, vp_updL, hq]
theorem g_bast {a : Nat} {i : Int32} {x : Int32} (O : OkK κ μ) (hd : decode μ.1 pc = .ok (.bastore, 1)) (hv : sB M a i x = some M2) (hp : pc + 1 = pc') (kk : G κ μ cells slots pc' lv st M2) : G κ μ cells slots pc lv (.int x :: .int i :: .ref a :: st) M := by
  obtain ⟨p, l, e, s, m, args, below, meth, c, z, D, ca, kc, r, M'⟩ := κ
  obtain ⟨cc, nL, own, ret, R, nm⟩ := μ
  intro H ls locs a1 a2 a3 a4 a5
  subst hp
  obtain ⟨n, f, hM, hin, rfl⟩ := sB_spec hv
  have hi2 := inr_in hin
  have hz := (a3 a _ hM).1
  refine W.bast O.1 O.2.1 (a3 a _ hM).2.1 ((O.2.2.2.2.2.2.2.2.1.2 2 _ rfl).1 n (fun j => .int (f j))) (fun q => by cases q) (by show ¬ (i < 0 ∨ (arrV _ _ _).slots.size ≤ _); rw [arrV_size]; exact hi2) rfl rfl hd fun H1 e1 e2 e3 => ?_
  refine kk H1 ls _ (a1.trans e2.symm) a2 (a3.put hz ⟨?_, 2, rfl⟩ e3) (a4.put e2 e3 hz) a5
  rw [e1]
  show some ((vp_cell _ _).setSlot _ _) = some (vp_cell _ _)
  rw [vp_cell_i, vp_cell_i, arrV_store]
  congr 2
  funext q
  by_cases hq : q = i.toNatClampNeg
  · subst hq
    simp [updV, upd, vp_nar]
    try rfl
  · simp [updV, upd, hq]
theorem g_zast {a : Nat} {i : Int32} {x : Int32} (O : OkK κ μ) (hd : decode μ.1 pc = .ok (.bastore, 1)) (hv : sZ M a i x = some M2) (hp : pc + 1 = pc') (kk : G κ μ cells slots pc' lv st M2) : G κ μ cells slots pc lv (.int x :: .int i :: .ref a :: st) M := by
  obtain ⟨p, l, e, s, m, args, below, meth, c, z, D, ca, kc, r, M'⟩ := κ
  obtain ⟨cc, nL, own, ret, R, nm⟩ := μ
  intro H ls locs a1 a2 a3 a4 a5
  subst hp
  obtain ⟨n, f, hM, hin, rfl⟩ := sZ_spec hv
  have hi2 := inr_in hin
  have hz := (a3 a _ hM).1
  refine W.zast O.1 O.2.1 (a3 a _ hM).2.1 ((O.2.2.2.2.2.2.2.2.1.2 3 _ rfl).1 n (fun j => .int (f j))) (fun q => by cases q) (by show ¬ (i < 0 ∨ (arrV _ _ _).slots.size ≤ _); rw [arrV_size]; exact hi2) rfl rfl hd fun H1 e1 e2 e3 => ?_
  refine kk H1 ls _ (a1.trans e2.symm) a2 (a3.put hz ⟨?_, 3, rfl⟩ e3) (a4.put e2 e3 hz) a5
  rw [e1]
  show some ((vp_cell _ _).setSlot _ _) = some (vp_cell _ _)
  rw [vp_cell_i, vp_cell_i, arrV_store]
  congr 2
  funext q
  by_cases hq : q = i.toNatClampNeg
  · subst hq
    simp [updV, upd, vp_nar]
    try rfl
  · simp [updV, upd, hq]
theorem g_aast {ci a : Nat} {i : Int32} {v : Option Nat} (O : OkK κ μ) (hd : decode μ.1 pc = .ok (.aastore, 1)) (hv : sQ M ci a i v = some M2) (hp : pc + 1 = pc') (kk : G κ μ cells slots pc' lv st M2) : G κ μ cells slots pc lv (va_rf v :: .int i :: .ref a :: st) M := by
  obtain ⟨p, l, e, s, m, args, below, meth, c, z, D, ca, kc, r, M'⟩ := κ
  obtain ⟨cc, nL, own, ret, R, nm⟩ := μ
  intro H ls locs a1 a2 a3 a4 a5
  subst hp
  obtain ⟨C, n, f, hM, hin, hC, hvb, rfl⟩ := sQ_spec hv
  have hi2 := inr_in hin
  have hlt : i.toNatClampNeg < n := Nat.not_le.mp fun q => hi2 (Or.inr q)
  have h0 : ¬ i < 0 := fun q => hi2 (Or.inl q)
  obtain ⟨hz, hcell, t0, ht0⟩ := a3 a _ hM
  have fin : ∀ (H1 : Heap) (w : Option Nat), w = v → H1[a]? = some ((vp_cell (ca (.object C)) (n, .inr (.inr (.inr (.inr f))))).setSlot i.toNatClampNeg (va_rf w)) → H1.size = H.size → (∀ q : Nat, q ≠ a → H1[q]? = H[q]?) → RepW z D ca (mst M a (.inl (.object C, n, .inr (.inr (.inr (.inr (va_up f i.toNatClampNeg v))))))) H1 := by
    intro H1 w hw e1 e2 e3
    subst hw
    refine a3.put hz ⟨?_, t0, ht0⟩ e3
    rw [e1]
    rw [vp_cell_q, vp_cell_q, arrV_store]
    congr 2
    funext q
    by_cases hq : q = i.toNatClampNeg
    · subst hq
      simp [updV, va_up]
    · simp [updV, va_up, hq]
  cases v with
  | none =>
    refine va_WaastN (C := C) O.1 O.2.1 hcell ((O.2.2.2.2.2.2.2.2.1.2 t0 _ ht0).1 n (fun j => va_rf (f j))) (fun h => by cases h) (by show ¬ (i < 0 ∨ (arrV _ _ _).slots.size ≤ _); rw [arrV_size]; exact hi2) rfl rfl hd fun H1 e1 e2 e3 => ?_
    exact kk H1 ls _ (a1.trans e2.symm) a2 (fin H1 none rfl e1 e2 e3) (a4.put e2 e3 hz) a5
  | some b =>
    obtain ⟨fs, hb⟩ := hvb b rfl
    obtain ⟨-, r0, hr0, cellV, g1, g2, g3, -⟩ := a3 b _ hb
    have hr1 : r0.1 = C := by
      simp only at hr0
      rw [hr0] at hC
      exact Option.some.inj hC
    have hcls := (O.2.2.2.2.2.2.2.2.1.1 ci r0 hr0).2
    rw [hr1] at hcls
    obtain ⟨kA, comp, k1, k2, k3, -⟩ := (O.2.2.2.2.2.2.2.2.1.2 t0 _ ht0).2
    have hcomp : comp = D.1 ci := Option.some.inj (k3.symm.trans hcls.1)
    subst hcomp
    obtain ⟨kC, hkC, -⟩ := hcls.2
    refine W.aast O.1 O.2.1 hcell (fun q h => by cases h) (fun h => by cases h) k1 k2 rfl hkC ⟨h0, by show _ < (arrV _ _ _).slots.size; rw [arrV_size]; exact hlt⟩ g1 (fun q h => by rw [g3] at h; cases h) (by rw [g2]; exact hkC) (by rw [g2]; exact va_assign hcls) rfl rfl hd fun H1 e1 e2 e3 => ?_
    exact kk H1 ls _ (a1.trans e2.symm) a2 (fin H1 (some b) rfl e1 e2 e3) (a4.put e2 e3 hz) a5
theorem g_newI {n : Int32} (cap : Nat) (O : OkK κ μ) (hd : decode μ.1 pc = .ok (.newarray .int, 2)) (hw : Cond.arrayClass .int ∈ lw_tbl) (hv : nA M .int n cap = some M2) (hcap : cap * 8 ≤ 536870912) (hc : cells + 1 ≤ μ.2.2.2.2.1.cells) (hs : slots + cap ≤ μ.2.2.2.2.1.slots) (hp : pc + 2 = pc') (kk : G κ μ (cells + 1) (slots + cap) pc' lv (.ref M.1 :: st) M2) : G κ μ cells slots pc lv (.int n :: st) M := by
  obtain ⟨p, l, e, s, m, args, below, meth, c, z, D, ca, kc, r, M'⟩ := κ
  obtain ⟨cc, nL, own, ret, R, nm⟩ := μ
  intro H ls locs a1 a2 a3 a4 a5
  subst hp
  unfold nA at hv
  by_cases hh : ¬ n < 0 ∧ n.toNatClampNeg ≤ cap
  · rw [if_pos hh] at hv
    cases hv
    refine va_newaK (atype := .int) O.1 O.2.1 (O.2.2.2.2.1 _ hw rfl) rfl hd rfl hh.1 rfl (Nat.le_trans (Nat.mul_le_mul hh.2 (show componentBytes .int ≤ 8 by decide)) hcap) hc (Nat.le_trans (Nat.add_le_add_left hh.2 _) hs) rfl fun H1 cA e1 z1 o1 hAr hNm => ?_
    have hcA : cA = ca .int := Option.some.inj (hNm.symm.trans (O.2.2.2.2.2.2.2.2.1.2 0 _ rfl).2)
    subst hcA
    refine W.widen (Nat.le_refl _) (Nat.add_le_add_left hh.2 _) ?_
    have hz : z ≤ H.size := Nat.le_trans O.2.2.2.2.2.2.2.2.2.2 a4.1
    have k := kk H1 ls locs (by show M.1 + 1 = _; rw [a1, z1]) a2 (a3.mk a1 hz ⟨by rw [e1]; rfl, 0, rfl⟩ o1) ⟨Nat.le_trans a4.1 (by omega), fun x h1 h2 => (o1 x (Nat.lt_of_lt_of_le h1 a4.1)).trans (a4.2.1 x h1 h2), a4.2.2⟩ a5
    rw [a1] at k
    exact k
  · rw [if_neg hh] at hv
    cases hv
theorem g_newJ {n : Int32} (cap : Nat) (O : OkK κ μ) (hd : decode μ.1 pc = .ok (.newarray .long, 2)) (hw : Cond.arrayClass .long ∈ lw_tbl) (hv : nA M .long n cap = some M2) (hcap : cap * 8 ≤ 536870912) (hc : cells + 1 ≤ μ.2.2.2.2.1.cells) (hs : slots + cap ≤ μ.2.2.2.2.1.slots) (hp : pc + 2 = pc') (kk : G κ μ (cells + 1) (slots + cap) pc' lv (.ref M.1 :: st) M2) : G κ μ cells slots pc lv (.int n :: st) M := by
  obtain ⟨p, l, e, s, m, args, below, meth, c, z, D, ca, kc, r, M'⟩ := κ
  obtain ⟨cc, nL, own, ret, R, nm⟩ := μ
  intro H ls locs a1 a2 a3 a4 a5
  subst hp
  unfold nA at hv
  by_cases hh : ¬ n < 0 ∧ n.toNatClampNeg ≤ cap
  · rw [if_pos hh] at hv
    cases hv
    refine va_newaK (atype := .long) O.1 O.2.1 (O.2.2.2.2.1 _ hw rfl) rfl hd rfl hh.1 rfl (Nat.le_trans (Nat.mul_le_mul hh.2 (show componentBytes .long ≤ 8 by decide)) hcap) hc (Nat.le_trans (Nat.add_le_add_left hh.2 _) hs) rfl fun H1 cA e1 z1 o1 hAr hNm => ?_
    have hcA : cA = ca .long := Option.some.inj (hNm.symm.trans (O.2.2.2.2.2.2.2.2.1.2 1 _ rfl).2)
    subst hcA
    refine W.widen (Nat.le_refl _) (Nat.add_le_add_left hh.2 _) ?_
    have hz : z ≤ H.size := Nat.le_trans O.2.2.2.2.2.2.2.2.2.2 a4.1
    have k := kk H1 ls locs (by show M.1 + 1 = _; rw [a1, z1]) a2 (a3.mk a1 hz ⟨by rw [e1]; rfl, 1, rfl⟩ o1) ⟨Nat.le_trans a4.1 (by omega), fun x h1 h2 => (o1 x (Nat.lt_of_lt_of_le h1 a4.1)).trans (a4.2.1 x h1 h2), a4.2.2⟩ a5
    rw [a1] at k
    exact k
  · rw [if_neg hh] at hv
    cases hv
theorem g_newB {n : Int32} (cap : Nat) (O : OkK κ μ) (hd : decode μ.1 pc = .ok (.newarray .byte, 2)) (hw : Cond.arrayClass .byte ∈ lw_tbl) (hv : nA M .byte n cap = some M2) (hcap : cap * 8 ≤ 536870912) (hc : cells + 1 ≤ μ.2.2.2.2.1.cells) (hs : slots + cap ≤ μ.2.2.2.2.1.slots) (hp : pc + 2 = pc') (kk : G κ μ (cells + 1) (slots + cap) pc' lv (.ref M.1 :: st) M2) : G κ μ cells slots pc lv (.int n :: st) M := by
  obtain ⟨p, l, e, s, m, args, below, meth, c, z, D, ca, kc, r, M'⟩ := κ
  obtain ⟨cc, nL, own, ret, R, nm⟩ := μ
  intro H ls locs a1 a2 a3 a4 a5
  subst hp
  unfold nA at hv
  by_cases hh : ¬ n < 0 ∧ n.toNatClampNeg ≤ cap
  · rw [if_pos hh] at hv
    cases hv
    refine va_newaK (atype := .byte) O.1 O.2.1 (O.2.2.2.2.1 _ hw rfl) rfl hd rfl hh.1 rfl (Nat.le_trans (Nat.mul_le_mul hh.2 (show componentBytes .byte ≤ 8 by decide)) hcap) hc (Nat.le_trans (Nat.add_le_add_left hh.2 _) hs) rfl fun H1 cA e1 z1 o1 hAr hNm => ?_
    have hcA : cA = ca .byte := Option.some.inj (hNm.symm.trans (O.2.2.2.2.2.2.2.2.1.2 2 _ rfl).2)
    subst hcA
    refine W.widen (Nat.le_refl _) (Nat.add_le_add_left hh.2 _) ?_
    have hz : z ≤ H.size := Nat.le_trans O.2.2.2.2.2.2.2.2.2.2 a4.1
    have k := kk H1 ls locs (by show M.1 + 1 = _; rw [a1, z1]) a2 (a3.mk a1 hz ⟨by rw [e1]; rfl, 2, rfl⟩ o1) ⟨Nat.le_trans a4.1 (by omega), fun x h1 h2 => (o1 x (Nat.lt_of_lt_of_le h1 a4.1)).trans (a4.2.1 x h1 h2), a4.2.2⟩ a5
    rw [a1] at k
    exact k
  · rw [if_neg hh] at hv
    cases hv
theorem g_newZ {n : Int32} (cap : Nat) (O : OkK κ μ) (hd : decode μ.1 pc = .ok (.newarray .boolean, 2)) (hw : Cond.arrayClass .boolean ∈ lw_tbl) (hv : nA M .boolean n cap = some M2) (hcap : cap * 8 ≤ 536870912) (hc : cells + 1 ≤ μ.2.2.2.2.1.cells) (hs : slots + cap ≤ μ.2.2.2.2.1.slots) (hp : pc + 2 = pc') (kk : G κ μ (cells + 1) (slots + cap) pc' lv (.ref M.1 :: st) M2) : G κ μ cells slots pc lv (.int n :: st) M := by
  obtain ⟨p, l, e, s, m, args, below, meth, c, z, D, ca, kc, r, M'⟩ := κ
  obtain ⟨cc, nL, own, ret, R, nm⟩ := μ
  intro H ls locs a1 a2 a3 a4 a5
  subst hp
  unfold nA at hv
  by_cases hh : ¬ n < 0 ∧ n.toNatClampNeg ≤ cap
  · rw [if_pos hh] at hv
    cases hv
    refine va_newaK (atype := .boolean) O.1 O.2.1 (O.2.2.2.2.1 _ hw rfl) rfl hd rfl hh.1 rfl (Nat.le_trans (Nat.mul_le_mul hh.2 (show componentBytes .boolean ≤ 8 by decide)) hcap) hc (Nat.le_trans (Nat.add_le_add_left hh.2 _) hs) rfl fun H1 cA e1 z1 o1 hAr hNm => ?_
    have hcA : cA = ca .boolean := Option.some.inj (hNm.symm.trans (O.2.2.2.2.2.2.2.2.1.2 3 _ rfl).2)
    subst hcA
    refine W.widen (Nat.le_refl _) (Nat.add_le_add_left hh.2 _) ?_
    have hz : z ≤ H.size := Nat.le_trans O.2.2.2.2.2.2.2.2.2.2 a4.1
    have k := kk H1 ls locs (by show M.1 + 1 = _; rw [a1, z1]) a2 (a3.mk a1 hz ⟨by rw [e1]; rfl, 3, rfl⟩ o1) ⟨Nat.le_trans a4.1 (by omega), fun x h1 h2 => (o1 x (Nat.lt_of_lt_of_le h1 a4.1)).trans (a4.2.1 x h1 h2), a4.2.2⟩ a5
    rw [a1] at k
    exact k
  · rw [if_neg hh] at hv
    cases hv
theorem g_newQLand {n : Int32} {idx : Nat} (cap : Nat) (O : OkK κ μ) (hd : decode μ.1 pc = .ok (.anewarray idx, 3)) (hw : Cond.classLink μ.2.2.1 idx RX1 ∈ lw_tbl) (hv : nA M (.object RX1) n cap = some M2) (hcap : cap * 8 ≤ 536870912) (hc : cells + 1 ≤ μ.2.2.2.2.1.cells) (hs : slots + cap ≤ μ.2.2.2.2.1.slots) (hp : pc + 3 = pc') (kk : G κ μ (cells + 1) (slots + cap) pc' lv (.ref M.1 :: st) M2) : G κ μ cells slots pc lv (.int n :: st) M := by
  obtain ⟨p, l, e, s, m, args, below, meth, c, z, D, ca, kc, r, M'⟩ := κ
  obtain ⟨cc, nL, own, ret, R, nm⟩ := μ
  intro H ls locs a1 a2 a3 a4 a5
  subst hp
  unfold nA at hv
  by_cases hh : ¬ n < 0 ∧ n.toNatClampNeg ≤ cap
  · rw [if_pos hh] at hv
    cases hv
    refine W.anew O.1 O.2.1 O.2.2.2.1 (O.2.2.2.2.1 _ hw rfl) (va_AO.use O.2.2.2.2.2.2.2.2.2.1.2.2.2.2.2.2.1) rfl hd rfl hh.1 (by omega) hc (Nat.le_trans (Nat.add_le_add_left hh.2 _) hs) fun cA kA comp f1 f2 f3 f4 => ?_
    have hcA : cA = ca (.object RX1) := by
      obtain ⟨kA', comp', -, -, -, g4⟩ := (O.2.2.2.2.2.2.2.2.1.2 4 _ rfl).2
      exact Option.some.inj (f1.symm.trans g4)
    subst hcA
    generalize hH1 : H.push ({ cls := ca (.object RX1), slots := Array.replicate n.toNatClampNeg .null, vm := .none } : Cell) = H1
    have z1 : H1.size = H.size + 1 := by rw [← hH1, Array.size_push]
    have e1 : H1[H.size]? = some (arrV (ca (.object RX1)) n.toNatClampNeg (fun _ => .null)) := by rw [← hH1, Array.getElem?_push_size, ← arrV_new]
    have o1 : ∀ q : Nat, q < H.size → H1[q]? = H[q]? := fun q hq => by rw [← hH1, Array.getElem?_push, if_neg (Nat.ne_of_lt hq)]
    refine W.widen (Nat.le_refl _) (Nat.add_le_add_left hh.2 _) ?_
    have hz : z ≤ H.size := Nat.le_trans O.2.2.2.2.2.2.2.2.2.2 a4.1
    have k := kk H1 ls locs (by show M.1 + 1 = _; rw [a1, z1]) a2 (a3.mk a1 hz ⟨by rw [e1]; rfl, 4, rfl⟩ o1) ⟨Nat.le_trans a4.1 (by omega), fun x h1 h2 => (o1 x (Nat.lt_of_lt_of_le h1 a4.1)).trans (a4.2.1 x h1 h2), a4.2.2⟩ a5
    rw [a1] at k
    exact k
  · rw [if_neg hh] at hv
    cases hv
theorem g_newQSheet {n : Int32} {idx : Nat} (cap : Nat) (O : OkK κ μ) (hd : decode μ.1 pc = .ok (.anewarray idx, 3)) (hw : Cond.classLink μ.2.2.1 idx RX3 ∈ lw_tbl) (hv : nA M (.object RX3) n cap = some M2) (hcap : cap * 8 ≤ 536870912) (hc : cells + 1 ≤ μ.2.2.2.2.1.cells) (hs : slots + cap ≤ μ.2.2.2.2.1.slots) (hp : pc + 3 = pc') (kk : G κ μ (cells + 1) (slots + cap) pc' lv (.ref M.1 :: st) M2) : G κ μ cells slots pc lv (.int n :: st) M := by
  obtain ⟨p, l, e, s, m, args, below, meth, c, z, D, ca, kc, r, M'⟩ := κ
  obtain ⟨cc, nL, own, ret, R, nm⟩ := μ
  intro H ls locs a1 a2 a3 a4 a5
  subst hp
  unfold nA at hv
  by_cases hh : ¬ n < 0 ∧ n.toNatClampNeg ≤ cap
  · rw [if_pos hh] at hv
    cases hv
    refine W.anew O.1 O.2.1 O.2.2.2.1 (O.2.2.2.2.1 _ hw rfl) (va_AO.use O.2.2.2.2.2.2.2.2.2.1.2.2.2.2.2.2.2) rfl hd rfl hh.1 (by omega) hc (Nat.le_trans (Nat.add_le_add_left hh.2 _) hs) fun cA kA comp f1 f2 f3 f4 => ?_
    have hcA : cA = ca (.object RX3) := by
      obtain ⟨kA', comp', -, -, -, g4⟩ := (O.2.2.2.2.2.2.2.2.1.2 5 _ rfl).2
      exact Option.some.inj (f1.symm.trans g4)
    subst hcA
    generalize hH1 : H.push ({ cls := ca (.object RX3), slots := Array.replicate n.toNatClampNeg .null, vm := .none } : Cell) = H1
    have z1 : H1.size = H.size + 1 := by rw [← hH1, Array.size_push]
    have e1 : H1[H.size]? = some (arrV (ca (.object RX3)) n.toNatClampNeg (fun _ => .null)) := by rw [← hH1, Array.getElem?_push_size, ← arrV_new]
    have o1 : ∀ q : Nat, q < H.size → H1[q]? = H[q]? := fun q hq => by rw [← hH1, Array.getElem?_push, if_neg (Nat.ne_of_lt hq)]
    refine W.widen (Nat.le_refl _) (Nat.add_le_add_left hh.2 _) ?_
    have hz : z ≤ H.size := Nat.le_trans O.2.2.2.2.2.2.2.2.2.2 a4.1
    have k := kk H1 ls locs (by show M.1 + 1 = _; rw [a1, z1]) a2 (a3.mk a1 hz ⟨by rw [e1]; rfl, 5, rfl⟩ o1) ⟨Nat.le_trans a4.1 (by omega), fun x h1 h2 => (o1 x (Nat.lt_of_lt_of_le h1 a4.1)).trans (a4.2.1 x h1 h2), a4.2.2⟩ a5
    rw [a1] at k
    exact k
  · rw [if_neg hh] at hv
    cases hv
theorem g_newO {C : String} {T : u_T} {N ci idx : Nat} {fs : List Value} (O : OkK κ μ) (hd : decode μ.1 pc = .ok (.new idx, 3)) (hc0 : vwCl[ci]? = some (C, T, N)) (hin : ∀ w ∈ u_ws C T N, w ∈ lw_tbl) (ty : Nat → FieldType) (hty : ∀ k, k < N → parseFieldDescriptor (T k).2.2.1 = some (ty k)) (hfs : ∀ j, j < N → defaultValue (ty j) = vp_V fs j) (hw : Cond.classLink μ.2.2.1 idx C ∈ lw_tbl) (hw2 : Cond.instantiable C N ∈ lw_tbl) (hw3 : Cond.initialized C ∈ lw_tbl) (hc : cells + 1 ≤ μ.2.2.2.2.1.cells) (hs : slots + N ≤ μ.2.2.2.2.1.slots) (hp : pc + 3 = pc') (kk : G κ μ (cells + 1) (slots + N) pc' lv (.ref M.1 :: st) (nO M ci fs)) : G κ μ cells slots pc lv st M := by
  obtain ⟨p, l, e, s, m, args, below, meth, c, z, D, ca, kc, r, M'⟩ := κ
  obtain ⟨cc, nL, own, ret, R, nm⟩ := μ
  intro H ls locs a1 a2 a3 a4 a5
  subst hp
  have hts : ∀ w ∈ gT, w.before args s = true := fun w h => O.2.2.2.2.1 w (List.mem_filter.mp h).1 (List.mem_filter.mp h).2
  have hKn := O.2.2.2.2.2.2.2.2.1.1 ci _ hc0
  refine W.newcK O.1 O.2.1 O.2.2.2.1 (O.2.2.2.2.1 _ hw rfl) (O.2.2.2.2.1 _ hw2 rfl) (O.2.2.2.2.1 _ hw3 rfl) rfl hd hc hs hKn.2.1 rfl fun H1 kC hkC e1 z1 o1 => ?_
  have hz : z ≤ H.size := Nat.le_trans O.2.2.2.2.2.2.2.2.2.2 a4.1
  have k := kk H1 ls locs (by show M.1 + 1 = _; rw [a1, z1]) a2 (a3.mk a1 hz ⟨_, hc0, (u_born ty hts (u_gT hin) hKn hkC e1 hty).to hfs⟩ o1) ⟨Nat.le_trans a4.1 (by omega), fun x h1 h2 => (o1 x (Nat.lt_of_lt_of_le h1 a4.1)).trans (a4.2.1 x h1 h2), a4.2.2⟩ a5
  rw [a1] at k
  exact k
theorem g_objInit {a idx : Nat} (O : OkK κ μ) (hd : decode μ.1 pc = .ok (.invokespecial idx, 3)) (hw : Cond.methodLink μ.2.2.1 idx objectInit ∈ lw_tbl) (hw2 : Cond.instanceMethod objectInit ∈ lw_tbl) (hw3 : Cond.code objectInit ⟨#[0xb1]⟩ 1 none ∈ lw_tbl) (hf : 1 ≤ μ.2.2.2.2.1.frames) (hl : (st.map fun v => v.category).sum + 12 ≤ μ.2.2.2.2.1.locals) (hp : pc + 3 = pc') (kk : G κ μ cells slots pc' lv st M) : G κ μ cells slots pc lv (.ref a :: st) M := by
  obtain ⟨p, l, e, s, m, args, below, meth, c, z, D, ca, kc, r, M'⟩ := κ
  obtain ⟨cc, nL, own, ret, R, nm⟩ := μ
  intro H ls locs a1 a2 a3 a4 a5
  subst hp
  exact W.objInit O.1 O.2.1 O.2.2.2.1 (O.2.2.2.2.1 _ hw rfl) (O.2.2.2.2.1 _ hw2 rfl) (O.2.2.2.2.1 _ hw3 rfl) rfl (a5.1.trans O.2.2.1.symm) rfl hd hf (by have h : (st.map fun v => v.category).sum + 12 ≤ R.locals := hl; show 2 * 0 + _ + 12 ≤ _; omega) (kk H ls locs a1 a2 a3 a4 a5)
/-- the world behind a walk -/
theorem wd_end {z : Nat} {D : va_G} {ca : FieldType → ClassId} {M' : Mem} {s t : State} {H : Heap} {locs : List Loc} (hz : z ≤ s.heap.size) (hK : va_K D vwCl (tysOf ca) s) (hR : RepK z M'.2.2 s s.heap) (a1 : M'.1 = H.size) (a3 : RepW z D ca M' H) (a4 : va_S (fun q => z ≤ q) s.heap H locs) (ht : t.heap = H) (hW : s.WarmedH t.vm) : Wd z D ca M' t := by
  subst ht
  exact ⟨Nat.le_trans hz a4.1, a1, a3, va_K.moved hW.alike hK, RepK.go hW a4 hR⟩
theorem g_ireturn {x : Int32} {ty : FieldType} (O : OkK κ μ) (hd : decode μ.1 pc = .ok (.ireturn, 1)) (hr : μ.2.2.2.1 = some ty) (hn : narrow ty (.int x) = .int x) (hf : κ.2.2.2.2.2.2.2.2.2.2.2.2.2 = (some (.int x), M)) (hc : cells ≤ μ.2.2.2.2.1.cells) (hs : slots ≤ μ.2.2.2.2.1.slots) : G κ μ cells slots pc lv [.int x] M := by
  obtain ⟨p, l, e, s, m, args, below, meth, c, z, D, ca, kc, r, M'⟩ := κ
  obtain ⟨cc, nL, own, ret, R, nm⟩ := μ
  intro H ls locs a1 a2 a3 a4 a5
  cases hf
  refine W.widen hc hs ?_
  exact W.zret O.1 O.2.1 (O.2.2.2.2.2.2.1.trans hr) hn (fun t ht hW => ⟨rfl, a2, wd_end O.2.2.2.2.2.2.2.2.2.2 O.2.2.2.2.2.2.2.2.1 (by rw [a2]; exact O.2.2.2.2.2.2.2.2.2.1) a1 a3 a4 ht hW, a4.F ht⟩) (fun q hq => a4.2.2 q hq) hd O.2.2.2.2.2.1
theorem g_lreturn {x : Int64} (O : OkK κ μ) (hd : decode μ.1 pc = .ok (.lreturn, 1)) (hr : μ.2.2.2.1 = some .long) (hf : κ.2.2.2.2.2.2.2.2.2.2.2.2.2 = (some (.long x), M)) (hc : cells ≤ μ.2.2.2.2.1.cells) (hs : slots ≤ μ.2.2.2.2.1.slots) : G κ μ cells slots pc lv [.long x] M := by
  obtain ⟨p, l, e, s, m, args, below, meth, c, z, D, ca, kc, r, M'⟩ := κ
  obtain ⟨cc, nL, own, ret, R, nm⟩ := μ
  intro H ls locs a1 a2 a3 a4 a5
  cases hf
  refine W.widen hc hs ?_
  exact W.lret O.1 O.2.1 (O.2.2.2.2.2.2.1.trans hr) (fun t ht hW => ⟨rfl, a2, wd_end O.2.2.2.2.2.2.2.2.2.2 O.2.2.2.2.2.2.2.2.1 (by rw [a2]; exact O.2.2.2.2.2.2.2.2.2.1) a1 a3 a4 ht hW, a4.F ht⟩) (fun q hq => a4.2.2 q hq) hd O.2.2.2.2.2.1
theorem g_areturn {x : Option Nat} {ty : FieldType} (O : OkK κ μ) (hd : decode μ.1 pc = .ok (.areturn, 1)) (hr : μ.2.2.2.1 = some ty) (hrt : (∃ n, ty = .object n) ∨ ∃ t, ty = .array t) (hf : κ.2.2.2.2.2.2.2.2.2.2.2.2.2 = (some (va_rf x), M)) (hc : cells ≤ μ.2.2.2.2.1.cells) (hs : slots ≤ μ.2.2.2.2.1.slots) : G κ μ cells slots pc lv [va_rf x] M := by
  obtain ⟨p, l, e, s, m, args, below, meth, c, z, D, ca, kc, r, M'⟩ := κ
  obtain ⟨cc, nL, own, ret, R, nm⟩ := μ
  intro H ls locs a1 a2 a3 a4 a5
  cases hf
  refine W.widen hc hs ?_
  exact W.aret O.1 O.2.1 (O.2.2.2.2.2.2.1.trans hr) hrt (by cases x <;> simp [va_rf]) (fun t ht hW => ⟨rfl, a2, wd_end O.2.2.2.2.2.2.2.2.2.2 O.2.2.2.2.2.2.2.2.1 (by rw [a2]; exact O.2.2.2.2.2.2.2.2.2.1) a1 a3 a4 ht hW, a4.F ht⟩) (fun q hq => a4.2.2 q hq) hd O.2.2.2.2.2.1
theorem g_vreturn (O : OkK κ μ) (hd : decode μ.1 pc = .ok (.return_, 1)) (hr : μ.2.2.2.1 = none) (hf : κ.2.2.2.2.2.2.2.2.2.2.2.2.2 = (none, M)) (hc : cells ≤ μ.2.2.2.2.1.cells) (hs : slots ≤ μ.2.2.2.2.1.slots) : G κ μ cells slots pc lv [] M := by
  obtain ⟨p, l, e, s, m, args, below, meth, c, z, D, ca, kc, r, M'⟩ := κ
  obtain ⟨cc, nL, own, ret, R, nm⟩ := μ
  intro H ls locs a1 a2 a3 a4 a5
  cases hf
  refine W.widen hc hs ?_
  exact W.vret O.1 O.2.1 (O.2.2.2.2.2.2.1.trans hr) (fun t ht hW => ⟨rfl, a2, wd_end O.2.2.2.2.2.2.2.2.2.2 O.2.2.2.2.2.2.2.2.1 (by rw [a2]; exact O.2.2.2.2.2.2.2.2.2.1) a1 a3 a4 ht hW, a4.F ht⟩) (fun q hq => a4.2.2 q hq) hd O.2.2.2.2.2.1
theorem recvO {z : Nat} {D : va_G} {ca : FieldType → ClassId} {s : State} {H : Heap} {ci b : Nat} {C : String} {u : Unit} (hK : va_K D vwCl (tysOf ca) s) (a3 : RepW z D ca M H) (h : ck M ci b = some u) (hC : (vwCl[ci]?).map (fun q => q.1) = some C) : ∃ cell : Cell, H[b]? = some cell ∧ cell.vm.isStatics = false ∧ s.vm.findClass C = some cell.cls := by
  obtain ⟨fs, hM⟩ := ck_spec h
  obtain ⟨-, r0, hr0, cellV, g1, g2, g3, -⟩ := a3 b _ hM
  simp only at hr0
  rw [hr0] at hC
  cases hC
  exact ⟨cellV, g1, by rw [g3]; rfl, by rw [g2]; exact (hK.1 ci r0 hr0).2.1⟩
theorem g_callV {y : MethodName} {ν : MD} {idx b n : Nat} {As : List Value} {r1 : Option Value} (O : OkK κ μ) {ci : Nat} {u : Unit} (hd : decode μ.1 pc = .ok (.invokevirtual idx, 3)) (hcd : Cond.code y ν.1 ν.2.1 ν.2.2.2.1 ∈ lw_tbl) (hini : Cond.initialized y.cls ∈ lw_tbl) (hin : Cond.instanceMethod y ∈ lw_tbl) (hsel : Cond.selects y.cls y y ∈ lw_tbl) (hlink : Cond.methodLink μ.2.2.1 idx y ∈ lw_tbl) (hy : y.cls ≠ "java/lang/invoke/MethodHandle" ∧ y.cls ≠ "java/lang/invoke/VarHandle" ∧ (parseMethodDescriptor y.desc).map (fun d => d.parameters.length) = some n) (hn : As.length = n) (hC : (vwCl[ci]?).map (fun q => q.1) = some y.cls) (hck : ck M ci b = some u) (hcn : Cn κ.2.1 y ν (.ref b :: As) M r1 M2) (hcat : (st.map fun v => v.category).sum ≤ 8) (hroom : ν.2.2.2.2.1.frames + 1 ≤ μ.2.2.2.2.1.frames ∧ 8 + (ν.2.1 + 11) + ν.2.2.2.2.1.locals ≤ μ.2.2.2.2.1.locals) (hcs : cells + ν.2.2.2.2.1.cells ≤ μ.2.2.2.2.1.cells ∧ slots + ν.2.2.2.2.1.slots ≤ μ.2.2.2.2.1.slots) (hp : pc + 3 = pc') (kk : G κ μ (cells + ν.2.2.2.2.1.cells) (slots + ν.2.2.2.2.1.slots) pc' lv (r1.toList ++ st) M2) : G κ μ cells slots pc lv (As.reverse ++ .ref b :: st) M := by
  obtain ⟨p, l, e, s, m, args, below, meth, c, z, D, ca, kc, r, M'⟩ := κ
  obtain ⟨cc, nL, own, ret, R, nm⟩ := μ
  intro H ls locs a1 a2 a3 a4 a5
  subst hp
  have hG := goodIn_gT (args := args) (s := s) hcd O.2.2.2.2.1
  have hrv := recvO O.2.2.2.2.2.2.2.2.1 a3 hck hC
  have run := va_runV (cc := cc) (nL := nL) (As := As) (rest := st) (H := H) (R := R) (locs := locs) (cells := cells) (slots := slots) (e := e) (below := below) (meth := meth) (g := F0 m pc ls (As.reverse ++ .ref b :: st)) ⟨O.1, O.2.1, O.2.2.1, O.2.2.2.1, fun w (h : w ∈ gT) => O.2.2.2.2.1 w (List.mem_filter.mp h).1 (List.mem_filter.mp h).2⟩ (hcn z D ca) ⟨⟨rfl, rfl, hroom.1, hroom.2, hG, List.mem_cons_self, O.2.2.2.2.1 _ hcd rfl, O.2.2.2.2.1 _ hini rfl, ⟨hy.1, hy.2.1⟩, fun sig h => by have h2 := hy.2.2; rw [h] at h2; exact (Option.some.inj h2).symm, O.2.2.2.2.1 _ hlink rfl⟩, O.2.2.2.2.1 _ hin rfl, O.2.2.2.2.1 _ hsel rfl⟩ ⟨fun a U g mk q => ⟨q.1, q.2.blind⟩, hrv, fun U hU hW => ⟨rfl, by subst hU; exact ⟨Nat.le_trans O.2.2.2.2.2.2.2.2.2.2 a4.1, a1, a3, va_K.moved hW.alike O.2.2.2.2.2.2.2.2.1, a2 ▸ RepK.go hW a4 O.2.2.2.2.2.2.2.2.2.1⟩⟩⟩ rfl hn a5.1 rfl (lv_room hcat) hd hcs
  refine fun T hT X => ?_
  obtain ⟨v, st₀, t, T', L, h0, X', hL, e1, e2, ⟨hv, hM2, hWd, hFr⟩, stp⟩ := run T hT X
  cases hv
  obtain ⟨w1, w2, w3, w4, w5⟩ := hWd
  rw [← e1] at w1 w2 w3
  have hsz : H.size ≤ T'.heap.size := by rw [e1, ← h0]; exact hFr.1
  obtain ⟨t2, b1, b2⟩ := kk T'.heap ls (locs ++ L) w2 (hM2.trans a2) w3 ⟨Nat.le_trans a4.1 hsz, fun q h1 h2 => by
      rw [e1, hFr.2 q (by rw [h0]; exact Nat.lt_of_lt_of_le h1 a4.1) h2, h0]
      exact a4.2.1 q h1 h2, fun q hq => by
      rcases List.mem_append.mp hq with h | h
      · exact a4.2.2 q h
      · exact hL q h⟩ a5 T' rfl X'
  exact ⟨t2, stp t2 b1, b2⟩
theorem g_callVS {y : MethodName} {ν : MD} {idx b n : Nat} {As : List Value} {r1 : Option Value} (O : OkK κ μ) {u : Unit} (hd : decode μ.1 pc = .ok (.invokevirtual idx, 3)) (hcd : Cond.code y ν.1 ν.2.1 ν.2.2.2.1 ∈ lw_tbl) (hini : Cond.initialized y.cls ∈ lw_tbl) (hin : Cond.instanceMethod y ∈ lw_tbl) (hsel : Cond.selects y.cls y y ∈ lw_tbl) (hlink : Cond.methodLink μ.2.2.1 idx y ∈ lw_tbl) (hy : y.cls ≠ "java/lang/invoke/MethodHandle" ∧ y.cls ≠ "java/lang/invoke/VarHandle" ∧ (parseMethodDescriptor y.desc).map (fun d => d.parameters.length) = some n) (hn : As.length = n) (hC : y.cls = RJ0) (hck : ckS M b = some u) (hcn : Cn κ.2.1 y ν (.ref b :: As) M r1 M2) (hcat : (st.map fun v => v.category).sum ≤ 8) (hroom : ν.2.2.2.2.1.frames + 1 ≤ μ.2.2.2.2.1.frames ∧ 8 + (ν.2.1 + 11) + ν.2.2.2.2.1.locals ≤ μ.2.2.2.2.1.locals) (hcs : cells + ν.2.2.2.2.1.cells ≤ μ.2.2.2.2.1.cells ∧ slots + ν.2.2.2.2.1.slots ≤ μ.2.2.2.2.1.slots) (hp : pc + 3 = pc') (kk : G κ μ (cells + ν.2.2.2.2.1.cells) (slots + ν.2.2.2.2.1.slots) pc' lv (r1.toList ++ st) M2) : G κ μ cells slots pc lv (As.reverse ++ .ref b :: st) M := by
  obtain ⟨p, l, e, s, m, args, below, meth, c, z, D, ca, kc, r, M'⟩ := κ
  obtain ⟨cc, nL, own, ret, R, nm⟩ := μ
  intro H ls locs a1 a2 a3 a4 a5
  subst hp
  have hG := goodIn_gT (args := args) (s := s) hcd O.2.2.2.2.1
  have hrv : ∃ cell : Cell, H[b]? = some cell ∧ cell.vm.isStatics = false ∧ s.vm.findClass y.cls = some cell.cls := by
    unfold ckS at hck
    split at hck
    · rename_i v hv
      obtain ⟨cell, h1, h2, h3, -⟩ := (O.2.2.2.2.2.2.2.2.2.1.2.1 b v (a2 ▸ hv)).1.kept a4.2.1
      exact ⟨cell, h1, h2, by rw [hC]; exact h3⟩
    · cases hck
  have run := va_runV (cc := cc) (nL := nL) (As := As) (rest := st) (H := H) (R := R) (locs := locs) (cells := cells) (slots := slots) (e := e) (below := below) (meth := meth) (g := F0 m pc ls (As.reverse ++ .ref b :: st)) ⟨O.1, O.2.1, O.2.2.1, O.2.2.2.1, fun w (h : w ∈ gT) => O.2.2.2.2.1 w (List.mem_filter.mp h).1 (List.mem_filter.mp h).2⟩ (hcn z D ca) ⟨⟨rfl, rfl, hroom.1, hroom.2, hG, List.mem_cons_self, O.2.2.2.2.1 _ hcd rfl, O.2.2.2.2.1 _ hini rfl, ⟨hy.1, hy.2.1⟩, fun sig h => by have h2 := hy.2.2; rw [h] at h2; exact (Option.some.inj h2).symm, O.2.2.2.2.1 _ hlink rfl⟩, O.2.2.2.2.1 _ hin rfl, O.2.2.2.2.1 _ hsel rfl⟩ ⟨fun a U g mk q => ⟨q.1, q.2.blind⟩, hrv, fun U hU hW => ⟨rfl, by subst hU; exact ⟨Nat.le_trans O.2.2.2.2.2.2.2.2.2.2 a4.1, a1, a3, va_K.moved hW.alike O.2.2.2.2.2.2.2.2.1, a2 ▸ RepK.go hW a4 O.2.2.2.2.2.2.2.2.2.1⟩⟩⟩ rfl hn a5.1 rfl (lv_room hcat) hd hcs
  refine fun T hT X => ?_
  obtain ⟨v, st₀, t, T', L, h0, X', hL, e1, e2, ⟨hv, hM2, hWd, hFr⟩, stp⟩ := run T hT X
  cases hv
  obtain ⟨w1, w2, w3, w4, w5⟩ := hWd
  rw [← e1] at w1 w2 w3
  have hsz : H.size ≤ T'.heap.size := by rw [e1, ← h0]; exact hFr.1
  obtain ⟨t2, b1, b2⟩ := kk T'.heap ls (locs ++ L) w2 (hM2.trans a2) w3 ⟨Nat.le_trans a4.1 hsz, fun q h1 h2 => by
      rw [e1, hFr.2 q (by rw [h0]; exact Nat.lt_of_lt_of_le h1 a4.1) h2, h0]
      exact a4.2.1 q h1 h2, fun q hq => by
      rcases List.mem_append.mp hq with h | h
      · exact a4.2.2 q h
      · exact hL q h⟩ a5 T' rfl X'
  exact ⟨t2, stp t2 b1, b2⟩
theorem g_callI {y : MethodName} {ν : MD} {idx b n : Nat} {As : List Value} {r1 : Option Value} (O : OkK κ μ) (hd : decode μ.1 pc = .ok (.invokespecial idx, 3)) (hcd : Cond.code y ν.1 ν.2.1 ν.2.2.2.1 ∈ lw_tbl) (hini : Cond.initialized y.cls ∈ lw_tbl) (hin : Cond.instanceMethod y ∈ lw_tbl) (hlink : Cond.methodLink μ.2.2.1 idx y ∈ lw_tbl) (hy : y.cls ≠ "java/lang/invoke/MethodHandle" ∧ y.cls ≠ "java/lang/invoke/VarHandle" ∧ (parseMethodDescriptor y.desc).map (fun d => d.parameters.length) = some n) (hn : As.length = n) (hname : y.name = "<init>") (hret : ν.2.2.2.1 = none) (hcn : Cn κ.2.1 y ν (.ref b :: As) M r1 M2) (hcat : (st.map fun v => v.category).sum ≤ 8) (hroom : ν.2.2.2.2.1.frames + 1 ≤ μ.2.2.2.2.1.frames ∧ 8 + (ν.2.1 + 11) + ν.2.2.2.2.1.locals ≤ μ.2.2.2.2.1.locals) (hcs : cells + ν.2.2.2.2.1.cells ≤ μ.2.2.2.2.1.cells ∧ slots + ν.2.2.2.2.1.slots ≤ μ.2.2.2.2.1.slots) (hp : pc + 3 = pc') (kk : G κ μ (cells + ν.2.2.2.2.1.cells) (slots + ν.2.2.2.2.1.slots) pc' lv (r1.toList ++ st) M2) : G κ μ cells slots pc lv (As.reverse ++ .ref b :: st) M := by
  obtain ⟨p, l, e, s, m, args, below, meth, c, z, D, ca, kc, r, M'⟩ := κ
  obtain ⟨cc, nL, own, ret, R, nm⟩ := μ
  intro H ls locs a1 a2 a3 a4 a5
  subst hp
  obtain ⟨cc2, nL2, own2, ret2, R2, nm2⟩ := ν
  simp only at hret
  subst hret
  have hG := goodIn_gT (args := args) (s := s) hcd O.2.2.2.2.1
  have run := va_runI (cc := cc) (nL := nL) (As := As) (rest := st) (H := H) (R := R) (locs := locs) (cells := cells) (slots := slots) (e := e) (below := below) (meth := meth) (g := F0 m pc ls (As.reverse ++ .ref b :: st)) ⟨O.1, O.2.1, O.2.2.1, O.2.2.2.1, fun w (h : w ∈ gT) => O.2.2.2.2.1 w (List.mem_filter.mp h).1 (List.mem_filter.mp h).2⟩ (hcn z D ca) ⟨⟨rfl, rfl, hroom.1, hroom.2, hG, List.mem_cons_self, O.2.2.2.2.1 _ hcd rfl, O.2.2.2.2.1 _ hini rfl, ⟨hy.1, hy.2.1⟩, fun sig h => by have h2 := hy.2.2; rw [h] at h2; exact (Option.some.inj h2).symm, O.2.2.2.2.1 _ hlink rfl⟩, hname, O.2.2.2.2.1 _ hin rfl⟩ ⟨fun a U g mk q => ⟨q.1, q.2.blind⟩, fun U hU hW => ⟨rfl, by subst hU; exact ⟨Nat.le_trans O.2.2.2.2.2.2.2.2.2.2 a4.1, a1, a3, va_K.moved hW.alike O.2.2.2.2.2.2.2.2.1, a2 ▸ RepK.go hW a4 O.2.2.2.2.2.2.2.2.2.1⟩⟩⟩ rfl hn a5.1 rfl (lv_room hcat) hd hcs
  refine fun T hT X => ?_
  obtain ⟨v, st₀, t, T', L, h0, X', hL, e1, e2, ⟨hv, hM2, hWd, hFr⟩, stp⟩ := run T hT X
  cases hv
  obtain ⟨w1, w2, w3, w4, w5⟩ := hWd
  rw [← e1] at w1 w2 w3
  have hsz : H.size ≤ T'.heap.size := by rw [e1, ← h0]; exact hFr.1
  obtain ⟨t2, b1, b2⟩ := kk T'.heap ls (locs ++ L) w2 (hM2.trans a2) w3 ⟨Nat.le_trans a4.1 hsz, fun q h1 h2 => by
      rw [e1, hFr.2 q (by rw [h0]; exact Nat.lt_of_lt_of_le h1 a4.1) h2, h0]
      exact a4.2.1 q h1 h2, fun q hq => by
      rcases List.mem_append.mp hq with h | h
      · exact a4.2.2 q h
      · exact hL q h⟩ a5 T' rfl X'
  exact ⟨t2, stp t2 b1, b2⟩
theorem g_callS {y : MethodName} {ν : MD} {idx b n : Nat} {As : List Value} {r1 : Option Value} (O : OkK κ μ) (hd : decode μ.1 pc = .ok (.invokestatic idx, 3)) (hcd : Cond.code y ν.1 ν.2.1 ν.2.2.2.1 ∈ lw_tbl) (hini : Cond.initialized y.cls ∈ lw_tbl) (hin : Cond.static y ∈ lw_tbl) (hlink : Cond.methodLink μ.2.2.1 idx y ∈ lw_tbl) (hy : y.cls ≠ "java/lang/invoke/MethodHandle" ∧ y.cls ≠ "java/lang/invoke/VarHandle" ∧ (parseMethodDescriptor y.desc).map (fun d => d.parameters.length) = some n) (hn : As.length = n) (hcn : Cn κ.2.1 y ν As M r1 M2) (hcat : (st.map fun v => v.category).sum ≤ 8) (hroom : ν.2.2.2.2.1.frames + 1 ≤ μ.2.2.2.2.1.frames ∧ 8 + (ν.2.1 + 11) + ν.2.2.2.2.1.locals ≤ μ.2.2.2.2.1.locals) (hcs : cells + ν.2.2.2.2.1.cells ≤ μ.2.2.2.2.1.cells ∧ slots + ν.2.2.2.2.1.slots ≤ μ.2.2.2.2.1.slots) (hp : pc + 3 = pc') (kk : G κ μ (cells + ν.2.2.2.2.1.cells) (slots + ν.2.2.2.2.1.slots) pc' lv (r1.toList ++ st) M2) : G κ μ cells slots pc lv (As.reverse ++ st) M := by
  obtain ⟨p, l, e, s, m, args, below, meth, c, z, D, ca, kc, r, M'⟩ := κ
  obtain ⟨cc, nL, own, ret, R, nm⟩ := μ
  intro H ls locs a1 a2 a3 a4 a5
  subst hp
  have hG := goodIn_gT (args := args) (s := s) hcd O.2.2.2.2.1
  have run := va_runS (cc := cc) (nL := nL) (As := As) (rest := st) (H := H) (R := R) (locs := locs) (cells := cells) (slots := slots) (e := e) (below := below) (meth := meth) (g := F0 m pc ls (As.reverse ++ st)) ⟨O.1, O.2.1, O.2.2.1, O.2.2.2.1, fun w (h : w ∈ gT) => O.2.2.2.2.1 w (List.mem_filter.mp h).1 (List.mem_filter.mp h).2⟩ (hcn z D ca) ⟨⟨rfl, rfl, hroom.1, hroom.2, hG, List.mem_cons_self, O.2.2.2.2.1 _ hcd rfl, O.2.2.2.2.1 _ hini rfl, ⟨hy.1, hy.2.1⟩, fun sig h => by have h2 := hy.2.2; rw [h] at h2; exact (Option.some.inj h2).symm, O.2.2.2.2.1 _ hlink rfl⟩, O.2.2.2.2.1 _ hin rfl⟩ ⟨fun a U g mk q => ⟨q.1, q.2.blind⟩, fun U hU hW => ⟨rfl, by subst hU; exact ⟨Nat.le_trans O.2.2.2.2.2.2.2.2.2.2 a4.1, a1, a3, va_K.moved hW.alike O.2.2.2.2.2.2.2.2.1, a2 ▸ RepK.go hW a4 O.2.2.2.2.2.2.2.2.2.1⟩⟩⟩ rfl hn a5.1 rfl (lv_room hcat) hd hcs
  refine fun T hT X => ?_
  obtain ⟨v, st₀, t, T', L, h0, X', hL, e1, e2, ⟨hv, hM2, hWd, hFr⟩, stp⟩ := run T hT X
  cases hv
  obtain ⟨w1, w2, w3, w4, w5⟩ := hWd
  rw [← e1] at w1 w2 w3
  have hsz : H.size ≤ T'.heap.size := by rw [e1, ← h0]; exact hFr.1
  obtain ⟨t2, b1, b2⟩ := kk T'.heap ls (locs ++ L) w2 (hM2.trans a2) w3 ⟨Nat.le_trans a4.1 hsz, fun q h1 h2 => by
      rw [e1, hFr.2 q (by rw [h0]; exact Nat.lt_of_lt_of_le h1 a4.1) h2, h0]
      exact a4.2.1 q h1 h2, fun q hq => by
      rcases List.mem_append.mp hq with h | h
      · exact a4.2.2 q h
      · exact hL q h⟩ a5 T' rfl X'
  exact ⟨t2, stp t2 b1, b2⟩
theorem g_callSN {y : MethodName} {ν : MD} {idx b n : Nat} {As : List Value} {r1 : Option Value} (O : OkK κ μ) (hd : decode μ.1 pc = .ok (.invokestatic idx, 3)) (hcd : Cond.code y ν.1 ν.2.1 ν.2.2.2.1 ∈ lw_tbl) (hini : Cond.initialized y.cls ∈ lw_tbl) (hin : Cond.static y ∈ lw_tbl) (hlink : (idx, μ.2.2.1, y) ∈ nestTbl) (hy : y.cls ≠ "java/lang/invoke/MethodHandle" ∧ y.cls ≠ "java/lang/invoke/VarHandle" ∧ (parseMethodDescriptor y.desc).map (fun d => d.parameters.length) = some n) (hn : As.length = n) (hcn : Cn κ.2.1 y ν As M r1 M2) (hcat : (st.map fun v => v.category).sum ≤ 8) (hroom : ν.2.2.2.2.1.frames + 1 ≤ μ.2.2.2.2.1.frames ∧ 8 + (ν.2.1 + 11) + ν.2.2.2.2.1.locals ≤ μ.2.2.2.2.1.locals) (hcs : cells + ν.2.2.2.2.1.cells ≤ μ.2.2.2.2.1.cells ∧ slots + ν.2.2.2.2.1.slots ≤ μ.2.2.2.2.1.slots) (hp : pc + 3 = pc') (kk : G κ μ (cells + ν.2.2.2.2.1.cells) (slots + ν.2.2.2.2.1.slots) pc' lv (r1.toList ++ st) M2) : G κ μ cells slots pc lv (As.reverse ++ st) M := by
  obtain ⟨p, l, e, s, m, args, below, meth, c, z, D, ca, kc, r, M'⟩ := κ
  obtain ⟨cc, nL, own, ret, R, nm⟩ := μ
  intro H ls locs a1 a2 a3 a4 a5
  subst hp
  have hG := goodIn_gT (args := args) (s := s) hcd O.2.2.2.2.1
  have run := va_runSN (cc := cc) (nL := nL) (As := As) (rest := st) (H := H) (R := R) (locs := locs) (cells := cells) (slots := slots) (e := e) (below := below) (meth := meth) (g := F0 m pc ls (As.reverse ++ st)) (host := RX7) ⟨O.1, O.2.1, O.2.2.1, O.2.2.2.1, fun w (h : w ∈ gT) => O.2.2.2.2.1 w (List.mem_filter.mp h).1 (List.mem_filter.mp h).2⟩ (hcn z D ca) ⟨⟨⟨rfl, rfl, hroom.1, hroom.2, hG, List.mem_cons_self⟩, O.2.2.2.2.1 _ hcd rfl, O.2.2.2.2.1 _ hini rfl, ⟨hy.1, hy.2.1⟩, fun sig h => by have h2 := hy.2.2; rw [h] at h2; exact (Option.some.inj h2).symm, va_Nw.use rfl (O.2.2.2.2.2.2.2.2.2.1.2.2.2.2.2.1 _ hlink)⟩, O.2.2.2.2.1 _ hin rfl, trivial⟩ ⟨fun a U g mk q => ⟨q.1, q.2.blind⟩, fun U hU hW => ⟨rfl, by subst hU; exact ⟨Nat.le_trans O.2.2.2.2.2.2.2.2.2.2 a4.1, a1, a3, va_K.moved hW.alike O.2.2.2.2.2.2.2.2.1, a2 ▸ RepK.go hW a4 O.2.2.2.2.2.2.2.2.2.1⟩⟩⟩ rfl hn a5.1 rfl (lv_room hcat) hd hcs
  refine fun T hT X => ?_
  obtain ⟨v, st₀, t, T', L, h0, X', hL, e1, e2, ⟨hv, hM2, hWd, hFr⟩, stp⟩ := run T hT X
  cases hv
  obtain ⟨w1, w2, w3, w4, w5⟩ := hWd
  rw [← e1] at w1 w2 w3
  have hsz : H.size ≤ T'.heap.size := by rw [e1, ← h0]; exact hFr.1
  obtain ⟨t2, b1, b2⟩ := kk T'.heap ls (locs ++ L) w2 (hM2.trans a2) w3 ⟨Nat.le_trans a4.1 hsz, fun q h1 h2 => by
      rw [e1, hFr.2 q (by rw [h0]; exact Nat.lt_of_lt_of_le h1 a4.1) h2, h0]
      exact a4.2.1 q h1 h2, fun q hq => by
      rcases List.mem_append.mp hq with h | h
      · exact a4.2.2 q h
      · exact hL q h⟩ a5 T' rfl X'
  exact ⟨t2, stp t2 b1, b2⟩
end MEMROWS
end
section
theorem nn_clamp {z : Int32} (hz : ¬ z < 0) : z.toInt = (z.toNatClampNeg : Int) := by
  have hz0 : (0 : Int) ≤ z.toInt := by
    have := Int32.not_lt.mp hz
    simpa using Int32.le_iff_toInt_le.mp this
  show z.toInt = ((z.toInt.toNat : Nat) : Int)
  omega
section CPROWS
variable {κ : KT} {μ : MD} {cells slots pc pc' : Nat} {lv lv' : List (Nat × Value)} {st : List Value} {M M2 : Mem}
theorem cpI_spec {M M2 : Mem} {a0 a : Nat} {sp dp n : Int32} (h : cpI M a0 sp a dp n = some M2) : ∃ n0 f n1 g, M.2.1 a0 = some (.inl (.int, n0, .inl f)) ∧ M.2.1 a = some (.inl (.int, n1, .inl g)) ∧ ((¬ sp < 0 ∧ ¬ dp < 0 ∧ ¬ n < 0) ∧ sp.toNatClampNeg + n.toNatClampNeg ≤ n0 ∧ dp.toNatClampNeg + n.toNatClampNeg ≤ n1) ∧ M2 = mst M a (.inl (.int, n1, .inl (va_cpy f g sp.toNatClampNeg dp.toNatClampNeg n.toNatClampNeg))) := by
  unfold cpI at h
  split at h
  · rename_i n0 f n1 g h0 h1
    by_cases hc : (¬ sp < 0 ∧ ¬ dp < 0 ∧ ¬ n < 0) ∧ sp.toNatClampNeg + n.toNatClampNeg ≤ n0 ∧ dp.toNatClampNeg + n.toNatClampNeg ≤ n1
    · rw [if_pos hc] at h
      exact ⟨n0, f, n1, g, h0, h1, hc, (Option.some.inj h).symm⟩
    · rw [if_neg hc] at h
      cases h
  · cases h
theorem g_cpI {a0 a idx : Nat} {sp dp n : Int32} (O : OkK κ μ) (hd : decode μ.1 pc = .ok (.invokestatic idx, 3)) (hw : Cond.methodLink μ.2.2.1 idx arraycopyName ∈ lw_tbl) (hw2 : Cond.native arraycopyName ∈ lw_tbl) (hw3 : Cond.static arraycopyName ∈ lw_tbl) (hw4 : Cond.initialized "java/lang/System" ∈ lw_tbl) (hv : cpI M a0 sp a dp n = some M2) (hf : 1 ≤ μ.2.2.2.2.1.frames) (hlo : (st.map fun v => v.category).sum + (nativeFrameWords "java/lang/System" "arraycopy" 5 + 11) ≤ μ.2.2.2.2.1.locals) (hp : pc + 3 = pc') (kk : G κ μ cells slots pc' lv st M2) : G κ μ cells slots pc lv (.int n :: .int dp :: .ref a :: .int sp :: .ref a0 :: st) M := by
  obtain ⟨p, l, e, s, m, args, below, meth, c, z, D, ca, kc, r, M'⟩ := κ
  obtain ⟨cc, nL, own, ret, R, nm⟩ := μ
  intro H ls locs a1 a2 a3 a4 a5
  subst hp
  obtain ⟨n0, f, n1, g, hM0, hM1, ⟨⟨h1, h2, h3⟩, h4, h5⟩, rfl⟩ := cpI_spec hv
  have hz := (a3 a _ hM1).1
  have hc0 : H[a0]? = some (vp_cell (ca .int) (n0, .inl f)) := (a3 a0 _ hM0).2.1
  have hc1 : H[a]? = some (vp_cell (ca .int) (n1, .inl g)) := (a3 a _ hM1).2.1
  obtain ⟨-, k0, hk0, cm0, hkk0⟩ := (O.2.2.2.2.2.2.2.2.1.2 0 _ rfl).1 n0 (fun j => .int (f j))
  obtain ⟨-, k1, hk1, cm1, hkk1⟩ := (O.2.2.2.2.2.2.2.2.1.2 0 _ rfl).1 n1 (fun j => .int (g j))
  intro T hT X
  obtain ⟨vm', X', step⟩ := X.arraycopy O.1 O.2.2.2.1 (O.2.2.2.2.1 _ hw rfl) (O.2.2.2.2.1 _ hw2 rfl) (O.2.2.2.2.1 _ hw3 rfl) (O.2.2.2.2.1 _ hw4 rfl) (src := a0) (dst := a) (cs := vp_cell (ca .int) (n0, .inl f)) (cd := vp_cell (ca .int) (n1, .inl g)) (srcPos := sp) (destPos := dp) (n := n) (by rw [hT]; exact hc0) (by rw [hT]; exact hc1)
    (fun _ h => by cases h) (fun _ h => by cases h) (fun h => by cases h) (fun h => by cases h) hk0 hk1 hkk0 hkk1 (by simp [refKind]) h1 h2 h3
    (by rw [nn_clamp h1, nn_clamp h3]; show ¬ _ > ((arrV _ n0 (fun j => .int (f j))).slots.size : Int); rw [arrV_size]; omega)
    (by rw [nn_clamp h2, nn_clamp h3]; show ¬ _ > ((arrV _ n1 (fun j => .int (g j))).slots.size : Int); rw [arrV_size]; omega)
    (fun vm₁ _ i hi => by
      have e : (vp_cell (ca .int) (n0, .inl f)).slots.getD (sp.toNatClampNeg + i) .null = .int (f (sp.toNatClampNeg + i)) := by
        show (arrV _ n0 (fun j => .int (f j))).slots.getD _ _ = _
        rw [Array.getD_eq_getD_getElem?, arrV_read _ _ (by omega)]
        rfl
      refine ⟨?_, ?_⟩
      · rw [e]
        rfl
      · rw [e]
        exact trivial)
    (g := F0 m pc ls (.int n :: .int dp :: .ref a :: .int sp :: .ref a0 :: st)) rfl (a5.1.trans O.2.2.1.symm) (rest := st) rfl (by rw [O.2.1]; exact hd) hf (by have hlo2 : (st.map fun v => v.category).sum + (nativeFrameWords "java/lang/System" "arraycopy" 5 + 11) ≤ R.locals := hlo; show 2 * 0 + _ + _ ≤ _; omega)
  have e1 : copied (vp_cell (ca .int) (n0, .inl f)) (vp_cell (ca .int) (n1, .inl g)) sp dp n = vp_cell (ca .int) (n1, .inl (va_cpy f g sp.toNatClampNeg dp.toNatClampNeg n.toNatClampNeg)) := va_copied (fun z => .int z) (ca .int) (ca .int) f g h4
  rw [e1] at X' step
  have hl : a < H.size := (Array.getElem?_eq_some_iff.mp hc1).1
  have hheap : ((T.setVm vm').setCell a (vp_cell (ca .int) (n1, .inl (va_cpy f g sp.toNatClampNeg dp.toNatClampNeg n.toNatClampNeg)))).heap = H.setIfInBounds a (vp_cell (ca .int) (n1, .inl (va_cpy f g sp.toNatClampNeg dp.toNatClampNeg n.toNatClampNeg))) := by rw [← hT]; rfl
  have oq : ∀ q : Nat, q ≠ a → (H.setIfInBounds a (vp_cell (ca .int) (n1, .inl (va_cpy f g sp.toNatClampNeg dp.toNatClampNeg n.toNatClampNeg))))[q]? = H[q]? := fun q hq => by simp [Array.getElem?_setIfInBounds, Ne.symm hq]
  obtain ⟨t, b1, b2⟩ := kk _ ls _ (by simp; exact a1) a2 (a3.put hz ⟨show (H.setIfInBounds a _)[a]? = some _ by simp [Array.getElem?_setIfInBounds, hl], 0, rfl⟩ oq) ⟨by simp; exact a4.1, fun q g1 g2 => by
      rw [oq q (fun e => g2 (by rw [e]; exact hz))]
      exact a4.2.1 q g1 g2, fun q hq => by
      rcases List.mem_append.mp hq with h | h
      · exact a4.2.2 q h
      · obtain ⟨y, -, hy⟩ := List.mem_map.mp h
        rw [← hy]
        exact hz⟩ a5 _ hheap X'
  exact ⟨t, step t b1, b2⟩
theorem cpL_spec {M M2 : Mem} {a0 a : Nat} {sp dp n : Int32} (h : cpL M a0 sp a dp n = some M2) : ∃ n0 f n1 g, M.2.1 a0 = some (.inl (.long, n0, .inr (.inl f))) ∧ M.2.1 a = some (.inl (.long, n1, .inr (.inl g))) ∧ ((¬ sp < 0 ∧ ¬ dp < 0 ∧ ¬ n < 0) ∧ sp.toNatClampNeg + n.toNatClampNeg ≤ n0 ∧ dp.toNatClampNeg + n.toNatClampNeg ≤ n1) ∧ M2 = mst M a (.inl (.long, n1, .inr (.inl (va_cpy f g sp.toNatClampNeg dp.toNatClampNeg n.toNatClampNeg)))) := by
  unfold cpL at h
  split at h
  · rename_i n0 f n1 g h0 h1
    by_cases hc : (¬ sp < 0 ∧ ¬ dp < 0 ∧ ¬ n < 0) ∧ sp.toNatClampNeg + n.toNatClampNeg ≤ n0 ∧ dp.toNatClampNeg + n.toNatClampNeg ≤ n1
    · rw [if_pos hc] at h
      exact ⟨n0, f, n1, g, h0, h1, hc, (Option.some.inj h).symm⟩
    · rw [if_neg hc] at h
      cases h
  · cases h
theorem g_cpL {a0 a idx : Nat} {sp dp n : Int32} (O : OkK κ μ) (hd : decode μ.1 pc = .ok (.invokestatic idx, 3)) (hw : Cond.methodLink μ.2.2.1 idx arraycopyName ∈ lw_tbl) (hw2 : Cond.native arraycopyName ∈ lw_tbl) (hw3 : Cond.static arraycopyName ∈ lw_tbl) (hw4 : Cond.initialized "java/lang/System" ∈ lw_tbl) (hv : cpL M a0 sp a dp n = some M2) (hf : 1 ≤ μ.2.2.2.2.1.frames) (hlo : (st.map fun v => v.category).sum + (nativeFrameWords "java/lang/System" "arraycopy" 5 + 11) ≤ μ.2.2.2.2.1.locals) (hp : pc + 3 = pc') (kk : G κ μ cells slots pc' lv st M2) : G κ μ cells slots pc lv (.int n :: .int dp :: .ref a :: .int sp :: .ref a0 :: st) M := by
  obtain ⟨p, l, e, s, m, args, below, meth, c, z, D, ca, kc, r, M'⟩ := κ
  obtain ⟨cc, nL, own, ret, R, nm⟩ := μ
  intro H ls locs a1 a2 a3 a4 a5
  subst hp
  obtain ⟨n0, f, n1, g, hM0, hM1, ⟨⟨h1, h2, h3⟩, h4, h5⟩, rfl⟩ := cpL_spec hv
  have hz := (a3 a _ hM1).1
  have hc0 : H[a0]? = some (vp_cell (ca .long) (n0, .inr (.inl f))) := (a3 a0 _ hM0).2.1
  have hc1 : H[a]? = some (vp_cell (ca .long) (n1, .inr (.inl g))) := (a3 a _ hM1).2.1
  obtain ⟨-, k0, hk0, cm0, hkk0⟩ := (O.2.2.2.2.2.2.2.2.1.2 1 _ rfl).1 n0 (fun j => .long (f j))
  obtain ⟨-, k1, hk1, cm1, hkk1⟩ := (O.2.2.2.2.2.2.2.2.1.2 1 _ rfl).1 n1 (fun j => .long (g j))
  intro T hT X
  obtain ⟨vm', X', step⟩ := X.arraycopy O.1 O.2.2.2.1 (O.2.2.2.2.1 _ hw rfl) (O.2.2.2.2.1 _ hw2 rfl) (O.2.2.2.2.1 _ hw3 rfl) (O.2.2.2.2.1 _ hw4 rfl) (src := a0) (dst := a) (cs := vp_cell (ca .long) (n0, .inr (.inl f))) (cd := vp_cell (ca .long) (n1, .inr (.inl g))) (srcPos := sp) (destPos := dp) (n := n) (by rw [hT]; exact hc0) (by rw [hT]; exact hc1)
    (fun _ h => by cases h) (fun _ h => by cases h) (fun h => by cases h) (fun h => by cases h) hk0 hk1 hkk0 hkk1 (by simp [refKind]) h1 h2 h3
    (by rw [nn_clamp h1, nn_clamp h3]; show ¬ _ > ((arrV _ n0 (fun j => .long (f j))).slots.size : Int); rw [arrV_size]; omega)
    (by rw [nn_clamp h2, nn_clamp h3]; show ¬ _ > ((arrV _ n1 (fun j => .long (g j))).slots.size : Int); rw [arrV_size]; omega)
    (fun vm₁ _ i hi => by
      have e : (vp_cell (ca .long) (n0, .inr (.inl f))).slots.getD (sp.toNatClampNeg + i) .null = .long (f (sp.toNatClampNeg + i)) := by
        show (arrV _ n0 (fun j => .long (f j))).slots.getD _ _ = _
        rw [Array.getD_eq_getD_getElem?, arrV_read _ _ (by omega)]
        rfl
      refine ⟨?_, ?_⟩
      · rw [e]
        rfl
      · rw [e]
        exact trivial)
    (g := F0 m pc ls (.int n :: .int dp :: .ref a :: .int sp :: .ref a0 :: st)) rfl (a5.1.trans O.2.2.1.symm) (rest := st) rfl (by rw [O.2.1]; exact hd) hf (by have hlo2 : (st.map fun v => v.category).sum + (nativeFrameWords "java/lang/System" "arraycopy" 5 + 11) ≤ R.locals := hlo; show 2 * 0 + _ + _ ≤ _; omega)
  have e1 : copied (vp_cell (ca .long) (n0, .inr (.inl f))) (vp_cell (ca .long) (n1, .inr (.inl g))) sp dp n = vp_cell (ca .long) (n1, .inr (.inl (va_cpy f g sp.toNatClampNeg dp.toNatClampNeg n.toNatClampNeg))) := va_copied (fun z => .long z) (ca .long) (ca .long) f g h4
  rw [e1] at X' step
  have hl : a < H.size := (Array.getElem?_eq_some_iff.mp hc1).1
  have hheap : ((T.setVm vm').setCell a (vp_cell (ca .long) (n1, .inr (.inl (va_cpy f g sp.toNatClampNeg dp.toNatClampNeg n.toNatClampNeg))))).heap = H.setIfInBounds a (vp_cell (ca .long) (n1, .inr (.inl (va_cpy f g sp.toNatClampNeg dp.toNatClampNeg n.toNatClampNeg)))) := by rw [← hT]; rfl
  have oq : ∀ q : Nat, q ≠ a → (H.setIfInBounds a (vp_cell (ca .long) (n1, .inr (.inl (va_cpy f g sp.toNatClampNeg dp.toNatClampNeg n.toNatClampNeg)))))[q]? = H[q]? := fun q hq => by simp [Array.getElem?_setIfInBounds, Ne.symm hq]
  obtain ⟨t, b1, b2⟩ := kk _ ls _ (by simp; exact a1) a2 (a3.put hz ⟨show (H.setIfInBounds a _)[a]? = some _ by simp [Array.getElem?_setIfInBounds, hl], 1, rfl⟩ oq) ⟨by simp; exact a4.1, fun q g1 g2 => by
      rw [oq q (fun e => g2 (by rw [e]; exact hz))]
      exact a4.2.1 q g1 g2, fun q hq => by
      rcases List.mem_append.mp hq with h | h
      · exact a4.2.2 q h
      · obtain ⟨y, -, hy⟩ := List.mem_map.mp h
        rw [← hy]
        exact hz⟩ a5 _ hheap X'
  exact ⟨t, step t b1, b2⟩
end CPROWS
end
section
theorem tw_362 : Cond.fieldLink RX0 7 "TypedAmounts$Days" "LENGTHS" "[I" ∈ lw_tbl := List.mem_of_getElem? (i := 362) (by decide +kernel)
theorem tw_358 : Cond.code yX0_isLeap cX0_isLeap 1 (some .boolean) ∈ lw_tbl := List.mem_of_getElem? (i := 358) (by decide +kernel)
theorem tw_60 : Cond.initialized RX0 ∈ lw_tbl := List.mem_of_getElem? (i := 60) (by decide +kernel)
theorem tw_357 : Cond.static yX0_isLeap ∈ lw_tbl := List.mem_of_getElem? (i := 357) (by decide +kernel)
theorem tw_356 : Cond.methodLink RX0 13 yX0_isLeap ∈ lw_tbl := List.mem_of_getElem? (i := 356) (by decide +kernel)
theorem tw_361 : Cond.code yX0_lengthOf cX0_lengthOf 2 (some .int) ∈ lw_tbl := List.mem_of_getElem? (i := 361) (by decide +kernel)
theorem tw_360 : Cond.static yX0_lengthOf ∈ lw_tbl := List.mem_of_getElem? (i := 360) (by decide +kernel)
theorem tw_359 : Cond.methodLink RX0 17 yX0_lengthOf ∈ lw_tbl := List.mem_of_getElem? (i := 359) (by decide +kernel)
theorem tw_369 : Cond.code yX0_beforeYear cX0_beforeYear 2 (some .int) ∈ lw_tbl := List.mem_of_getElem? (i := 369) (by decide +kernel)
theorem tw_368 : Cond.static yX0_beforeYear ∈ lw_tbl := List.mem_of_getElem? (i := 368) (by decide +kernel)
theorem tw_367 : Cond.methodLink RX0 21 yX0_beforeYear ∈ lw_tbl := List.mem_of_getElem? (i := 367) (by decide +kernel)
theorem tw_455 : Cond.constant RX0 25 (146097) ∈ lw_tbl := List.mem_of_getElem? (i := 455) (by decide +kernel)
theorem tw_456 : Cond.constant RX0 26 (36524) ∈ lw_tbl := List.mem_of_getElem? (i := 456) (by decide +kernel)
theorem tw_312 : Cond.code yJ9_min_7cf53 cJ9_min_7cf53 2 (some .int) ∈ lw_tbl := List.mem_of_getElem? (i := 312) (by decide +kernel)
theorem tw_56 : Cond.initialized RJ9 ∈ lw_tbl := List.mem_of_getElem? (i := 56) (by decide +kernel)
theorem tw_311 : Cond.static yJ9_min_7cf53 ∈ lw_tbl := List.mem_of_getElem? (i := 311) (by decide +kernel)
theorem tw_457 : Cond.methodLink RX0 27 yJ9_min_7cf53 ∈ lw_tbl := List.mem_of_getElem? (i := 457) (by decide +kernel)
theorem tw_211 : Cond.methodLink RX1 3 objectInit ∈ lw_tbl := List.mem_of_getElem? (i := 211) (by decide +kernel)
theorem tw_74 : Cond.instanceMethod objectInit ∈ lw_tbl := List.mem_of_getElem? (i := 74) (by decide +kernel)
theorem tw_75 : Cond.code objectInit ⟨#[0xb1]⟩ 1 none ∈ lw_tbl := List.mem_of_getElem? (i := 75) (by decide +kernel)
theorem tw_212 : Cond.fieldLink RX1 9 "TypedAmounts$Land" "point" "I" ∈ lw_tbl := List.mem_of_getElem? (i := 212) (by decide +kernel)
theorem tw_215 : Cond.fieldLink RX1 15 "TypedAmounts$Land" "group" "I" ∈ lw_tbl := List.mem_of_getElem? (i := 215) (by decide +kernel)
theorem tw_218 : Cond.fieldLink RX1 18 "TypedAmounts$Land" "byTwo" "Z" ∈ lw_tbl := List.mem_of_getElem? (i := 218) (by decide +kernel)
theorem tw_220 : Cond.fieldLink RX1 22 "TypedAmounts$Land" "minus" "I" ∈ lw_tbl := List.mem_of_getElem? (i := 220) (by decide +kernel)
theorem tw_222 : Cond.fieldLink RX1 25 "TypedAmounts$Land" "mark" "I" ∈ lw_tbl := List.mem_of_getElem? (i := 222) (by decide +kernel)
theorem tw_223 : Cond.fieldLink RX1 28 "TypedAmounts$Land" "markBehind" "Z" ∈ lw_tbl := List.mem_of_getElem? (i := 223) (by decide +kernel)
theorem tw_226 : Cond.fieldLink RX1 31 "TypedAmounts$Land" "order" "I" ∈ lw_tbl := List.mem_of_getElem? (i := 226) (by decide +kernel)
theorem tw_227 : Cond.fieldLink RX1 34 "TypedAmounts$Land" "daySign" "I" ∈ lw_tbl := List.mem_of_getElem? (i := 227) (by decide +kernel)
theorem tw_202 : Cond.code yX1_isCapital cX1_isCapital 1 (some .boolean) ∈ lw_tbl := List.mem_of_getElem? (i := 202) (by decide +kernel)
theorem tw_59 : Cond.initialized RX1 ∈ lw_tbl := List.mem_of_getElem? (i := 59) (by decide +kernel)
theorem tw_201 : Cond.static yX1_isCapital ∈ lw_tbl := List.mem_of_getElem? (i := 201) (by decide +kernel)
theorem tw_200 : Cond.methodLink RX1 37 yX1_isCapital ∈ lw_tbl := List.mem_of_getElem? (i := 200) (by decide +kernel)
theorem tw_271 : Cond.code yX7_byteOf cX7_byteOf 2 (some .int) ∈ lw_tbl := List.mem_of_getElem? (i := 271) (by decide +kernel)
theorem tw_53 : Cond.initialized RX7 ∈ lw_tbl := List.mem_of_getElem? (i := 53) (by decide +kernel)
theorem tw_270 : Cond.static yX7_byteOf ∈ lw_tbl := List.mem_of_getElem? (i := 270) (by decide +kernel)
theorem tw_145 : Cond.methodLink RX2 3 objectInit ∈ lw_tbl := List.mem_of_getElem? (i := 145) (by decide +kernel)
theorem tw_100 : Cond.arrayClass .int ∈ lw_tbl := List.mem_of_getElem? (i := 100) (by decide +kernel)
theorem tw_146 : Cond.fieldLink RX2 9 "TypedAmounts$Reader" "bytes" "[I" ∈ lw_tbl := List.mem_of_getElem? (i := 146) (by decide +kernel)
theorem tw_153 : Cond.fieldLink RX2 17 "TypedAmounts$Reader" "parts" "[I" ∈ lw_tbl := List.mem_of_getElem? (i := 153) (by decide +kernel)
theorem tw_154 : Cond.fieldLink RX2 20 "TypedAmounts$Reader" "widths" "[I" ∈ lw_tbl := List.mem_of_getElem? (i := 154) (by decide +kernel)
theorem tw_149 : Cond.fieldLink RX2 39 "TypedAmounts$Reader" "status" "I" ∈ lw_tbl := List.mem_of_getElem? (i := 149) (by decide +kernel)
theorem tw_147 : Cond.fieldLink RX2 29 "TypedAmounts$Reader" "at" "I" ∈ lw_tbl := List.mem_of_getElem? (i := 147) (by decide +kernel)
theorem tw_148 : Cond.fieldLink RX2 36 "TypedAmounts$Reader" "end" "I" ∈ lw_tbl := List.mem_of_getElem? (i := 148) (by decide +kernel)
theorem tw_328 : Cond.code yX2_passes cX2_passes 2 (some .boolean) ∈ lw_tbl := List.mem_of_getElem? (i := 328) (by decide +kernel)
theorem tw_57 : Cond.initialized RX2 ∈ lw_tbl := List.mem_of_getElem? (i := 57) (by decide +kernel)
theorem tw_327 : Cond.instanceMethod yX2_passes ∈ lw_tbl := List.mem_of_getElem? (i := 327) (by decide +kernel)
theorem tw_3 : Cond.selects RX2 yX2_passes yX2_passes ∈ lw_tbl := List.mem_of_getElem? (i := 3) (by decide +kernel)
theorem tw_325 : Cond.methodLink RX2 61 yX2_passes ∈ lw_tbl := List.mem_of_getElem? (i := 325) (by decide +kernel)
theorem tw_332 : Cond.code yX2_lack cX2_lack 1 none ∈ lw_tbl := List.mem_of_getElem? (i := 332) (by decide +kernel)
theorem tw_331 : Cond.instanceMethod yX2_lack ∈ lw_tbl := List.mem_of_getElem? (i := 331) (by decide +kernel)
theorem tw_4 : Cond.selects RX2 yX2_lack yX2_lack ∈ lw_tbl := List.mem_of_getElem? (i := 4) (by decide +kernel)
theorem tw_329 : Cond.methodLink RX2 105 yX2_lack ∈ lw_tbl := List.mem_of_getElem? (i := 329) (by decide +kernel)
theorem tw_347 : Cond.code yX7_isDigit cX7_isDigit 1 (some .boolean) ∈ lw_tbl := List.mem_of_getElem? (i := 347) (by decide +kernel)
theorem tw_346 : Cond.static yX7_isDigit ∈ lw_tbl := List.mem_of_getElem? (i := 346) (by decide +kernel)
theorem tw_150 : Cond.fieldLink RX2 42 "TypedAmounts$Reader" "number" "J" ∈ lw_tbl := List.mem_of_getElem? (i := 150) (by decide +kernel)
theorem tw_348 : Cond.constantLong RX2 120 (10) ∈ lw_tbl := List.mem_of_getElem? (i := 348) (by decide +kernel)
theorem tw_344 : Cond.code yX2_passDigits cX2_passDigits 3 (some .int) ∈ lw_tbl := List.mem_of_getElem? (i := 344) (by decide +kernel)
theorem tw_343 : Cond.instanceMethod yX2_passDigits ∈ lw_tbl := List.mem_of_getElem? (i := 343) (by decide +kernel)
theorem tw_6 : Cond.selects RX2 yX2_passDigits yX2_passDigits ∈ lw_tbl := List.mem_of_getElem? (i := 6) (by decide +kernel)
theorem tw_341 : Cond.methodLink RX2 102 yX2_passDigits ∈ lw_tbl := List.mem_of_getElem? (i := 341) (by decide +kernel)
theorem tw_155 : Cond.fieldLink RX2 122 "TypedAmounts$Reader" "growing" "I" ∈ lw_tbl := List.mem_of_getElem? (i := 155) (by decide +kernel)
theorem tw_90 : Cond.code yJ9_max_7cf53 cJ9_max_7cf53 2 (some .int) ∈ lw_tbl := List.mem_of_getElem? (i := 90) (by decide +kernel)
theorem tw_89 : Cond.static yJ9_max_7cf53 ∈ lw_tbl := List.mem_of_getElem? (i := 89) (by decide +kernel)
theorem tw_309 : Cond.methodLink RX2 23 yJ9_max_7cf53 ∈ lw_tbl := List.mem_of_getElem? (i := 309) (by decide +kernel)
theorem tw_374 : Cond.methodLink RX2 148 yX0_isLeap ∈ lw_tbl := List.mem_of_getElem? (i := 374) (by decide +kernel)
theorem tw_378 : Cond.code yX2_leastDay cX2_leastDay 4 (some .int) ∈ lw_tbl := List.mem_of_getElem? (i := 378) (by decide +kernel)
theorem tw_377 : Cond.instanceMethod yX2_leastDay ∈ lw_tbl := List.mem_of_getElem? (i := 377) (by decide +kernel)
theorem tw_9 : Cond.selects RX2 yX2_leastDay yX2_leastDay ∈ lw_tbl := List.mem_of_getElem? (i := 9) (by decide +kernel)
theorem tw_375 : Cond.methodLink RX2 151 yX2_leastDay ∈ lw_tbl := List.mem_of_getElem? (i := 375) (by decide +kernel)
theorem tw_382 : Cond.code yX2_couldBeMonth cX2_couldBeMonth 5 (some .boolean) ∈ lw_tbl := List.mem_of_getElem? (i := 382) (by decide +kernel)
theorem tw_381 : Cond.instanceMethod yX2_couldBeMonth ∈ lw_tbl := List.mem_of_getElem? (i := 381) (by decide +kernel)
theorem tw_10 : Cond.selects RX2 yX2_couldBeMonth yX2_couldBeMonth ∈ lw_tbl := List.mem_of_getElem? (i := 10) (by decide +kernel)
theorem tw_379 : Cond.methodLink RX2 154 yX2_couldBeMonth ∈ lw_tbl := List.mem_of_getElem? (i := 379) (by decide +kernel)
theorem tw_383 : Cond.methodLink RX2 157 yX0_lengthOf ∈ lw_tbl := List.mem_of_getElem? (i := 383) (by decide +kernel)
theorem tw_352 : Cond.code yX2_needEnd cX2_needEnd 1 none ∈ lw_tbl := List.mem_of_getElem? (i := 352) (by decide +kernel)
theorem tw_351 : Cond.instanceMethod yX2_needEnd ∈ lw_tbl := List.mem_of_getElem? (i := 351) (by decide +kernel)
theorem tw_7 : Cond.selects RX2 yX2_needEnd yX2_needEnd ∈ lw_tbl := List.mem_of_getElem? (i := 7) (by decide +kernel)
theorem tw_349 : Cond.methodLink RX2 95 yX2_needEnd ∈ lw_tbl := List.mem_of_getElem? (i := 349) (by decide +kernel)
theorem tw_355 : Cond.code yX0_isDay cX0_isDay 3 (some .boolean) ∈ lw_tbl := List.mem_of_getElem? (i := 355) (by decide +kernel)
theorem tw_354 : Cond.static yX0_isDay ∈ lw_tbl := List.mem_of_getElem? (i := 354) (by decide +kernel)
theorem tw_353 : Cond.methodLink RX2 134 yX0_isDay ∈ lw_tbl := List.mem_of_getElem? (i := 353) (by decide +kernel)
theorem tw_366 : Cond.code yX0_numberOf cX0_numberOf 6 (some .int) ∈ lw_tbl := List.mem_of_getElem? (i := 366) (by decide +kernel)
theorem tw_365 : Cond.static yX0_numberOf ∈ lw_tbl := List.mem_of_getElem? (i := 365) (by decide +kernel)
theorem tw_364 : Cond.methodLink RX2 140 yX0_numberOf ∈ lw_tbl := List.mem_of_getElem? (i := 364) (by decide +kernel)
theorem tw_151 : Cond.fieldLink RX2 46 "TypedAmounts$Reader" "found" "J" ∈ lw_tbl := List.mem_of_getElem? (i := 151) (by decide +kernel)
theorem tw_320 : Cond.code yX1_signOfDays cX1_signOfDays 1 (some .int) ∈ lw_tbl := List.mem_of_getElem? (i := 320) (by decide +kernel)
theorem tw_318 : Cond.instanceMethod yX1_signOfDays ∈ lw_tbl := List.mem_of_getElem? (i := 318) (by decide +kernel)
theorem tw_319 : Cond.selects RX1 yX1_signOfDays yX1_signOfDays ∈ lw_tbl := List.mem_of_getElem? (i := 319) (by decide +kernel)
theorem tw_317 : Cond.methodLink RX2 125 yX1_signOfDays ∈ lw_tbl := List.mem_of_getElem? (i := 317) (by decide +kernel)
theorem tw_324 : Cond.code yX2_need cX2_need 2 none ∈ lw_tbl := List.mem_of_getElem? (i := 324) (by decide +kernel)
theorem tw_323 : Cond.instanceMethod yX2_need ∈ lw_tbl := List.mem_of_getElem? (i := 323) (by decide +kernel)
theorem tw_2 : Cond.selects RX2 yX2_need yX2_need ∈ lw_tbl := List.mem_of_getElem? (i := 2) (by decide +kernel)
theorem tw_321 : Cond.methodLink RX2 92 yX2_need ∈ lw_tbl := List.mem_of_getElem? (i := 321) (by decide +kernel)
theorem tw_373 : Cond.code yX2_couldBeDay cX2_couldBeDay 6 (some .boolean) ∈ lw_tbl := List.mem_of_getElem? (i := 373) (by decide +kernel)
theorem tw_372 : Cond.instanceMethod yX2_couldBeDay ∈ lw_tbl := List.mem_of_getElem? (i := 372) (by decide +kernel)
theorem tw_8 : Cond.selects RX2 yX2_couldBeDay yX2_couldBeDay ∈ lw_tbl := List.mem_of_getElem? (i := 8) (by decide +kernel)
theorem tw_370 : Cond.methodLink RX2 144 yX2_couldBeDay ∈ lw_tbl := List.mem_of_getElem? (i := 370) (by decide +kernel)
theorem tw_336 : Cond.code yX1_partAt cX1_partAt 2 (some .int) ∈ lw_tbl := List.mem_of_getElem? (i := 336) (by decide +kernel)
theorem tw_334 : Cond.instanceMethod yX1_partAt ∈ lw_tbl := List.mem_of_getElem? (i := 334) (by decide +kernel)
theorem tw_335 : Cond.selects RX1 yX1_partAt yX1_partAt ∈ lw_tbl := List.mem_of_getElem? (i := 335) (by decide +kernel)
theorem tw_333 : Cond.methodLink RX2 128 yX1_partAt ∈ lw_tbl := List.mem_of_getElem? (i := 333) (by decide +kernel)
theorem tw_340 : Cond.code yX2_needPart cX2_needPart 3 none ∈ lw_tbl := List.mem_of_getElem? (i := 340) (by decide +kernel)
theorem tw_339 : Cond.instanceMethod yX2_needPart ∈ lw_tbl := List.mem_of_getElem? (i := 339) (by decide +kernel)
theorem tw_5 : Cond.selects RX2 yX2_needPart yX2_needPart ∈ lw_tbl := List.mem_of_getElem? (i := 5) (by decide +kernel)
theorem tw_337 : Cond.methodLink RX2 131 yX2_needPart ∈ lw_tbl := List.mem_of_getElem? (i := 337) (by decide +kernel)
theorem tw_399 : Cond.code yX1_markByte cX1_markByte 2 (some .int) ∈ lw_tbl := List.mem_of_getElem? (i := 399) (by decide +kernel)
theorem tw_397 : Cond.instanceMethod yX1_markByte ∈ lw_tbl := List.mem_of_getElem? (i := 397) (by decide +kernel)
theorem tw_398 : Cond.selects RX1 yX1_markByte yX1_markByte ∈ lw_tbl := List.mem_of_getElem? (i := 398) (by decide +kernel)
theorem tw_396 : Cond.methodLink RX2 98 yX1_markByte ∈ lw_tbl := List.mem_of_getElem? (i := 396) (by decide +kernel)
theorem tw_216 : Cond.fieldLink RX2 108 "TypedAmounts$Land" "group" "I" ∈ lw_tbl := List.mem_of_getElem? (i := 216) (by decide +kernel)
theorem tw_219 : Cond.fieldLink RX2 111 "TypedAmounts$Land" "byTwo" "Z" ∈ lw_tbl := List.mem_of_getElem? (i := 219) (by decide +kernel)
theorem tw_412 : Cond.code yX2_isGroupNext cX2_isGroupNext 2 (some .boolean) ∈ lw_tbl := List.mem_of_getElem? (i := 412) (by decide +kernel)
theorem tw_411 : Cond.instanceMethod yX2_isGroupNext ∈ lw_tbl := List.mem_of_getElem? (i := 411) (by decide +kernel)
theorem tw_15 : Cond.selects RX2 yX2_isGroupNext yX2_isGroupNext ∈ lw_tbl := List.mem_of_getElem? (i := 15) (by decide +kernel)
theorem tw_409 : Cond.methodLink RX2 114 yX2_isGroupNext ∈ lw_tbl := List.mem_of_getElem? (i := 409) (by decide +kernel)
theorem tw_391 : Cond.code yX1_minusAhead cX1_minusAhead 1 (some .int) ∈ lw_tbl := List.mem_of_getElem? (i := 391) (by decide +kernel)
theorem tw_389 : Cond.instanceMethod yX1_minusAhead ∈ lw_tbl := List.mem_of_getElem? (i := 389) (by decide +kernel)
theorem tw_390 : Cond.selects RX1 yX1_minusAhead yX1_minusAhead ∈ lw_tbl := List.mem_of_getElem? (i := 390) (by decide +kernel)
theorem tw_388 : Cond.methodLink RX2 57 yX1_minusAhead ∈ lw_tbl := List.mem_of_getElem? (i := 388) (by decide +kernel)
theorem tw_224 : Cond.fieldLink RX2 65 "TypedAmounts$Land" "markBehind" "Z" ∈ lw_tbl := List.mem_of_getElem? (i := 224) (by decide +kernel)
theorem tw_395 : Cond.code yX2_needMark cX2_needMark 3 none ∈ lw_tbl := List.mem_of_getElem? (i := 395) (by decide +kernel)
theorem tw_394 : Cond.instanceMethod yX2_needMark ∈ lw_tbl := List.mem_of_getElem? (i := 394) (by decide +kernel)
theorem tw_12 : Cond.selects RX2 yX2_needMark yX2_needMark ∈ lw_tbl := List.mem_of_getElem? (i := 12) (by decide +kernel)
theorem tw_392 : Cond.methodLink RX2 69 yX2_needMark ∈ lw_tbl := List.mem_of_getElem? (i := 392) (by decide +kernel)
theorem tw_404 : Cond.code yX2_needFirstDigits cX2_needFirstDigits 2 (some .int) ∈ lw_tbl := List.mem_of_getElem? (i := 404) (by decide +kernel)
theorem tw_403 : Cond.instanceMethod yX2_needFirstDigits ∈ lw_tbl := List.mem_of_getElem? (i := 403) (by decide +kernel)
theorem tw_13 : Cond.selects RX2 yX2_needFirstDigits yX2_needFirstDigits ∈ lw_tbl := List.mem_of_getElem? (i := 13) (by decide +kernel)
theorem tw_401 : Cond.methodLink RX2 72 yX2_needFirstDigits ∈ lw_tbl := List.mem_of_getElem? (i := 401) (by decide +kernel)
theorem tw_408 : Cond.code yX2_needGroups cX2_needGroups 8 none ∈ lw_tbl := List.mem_of_getElem? (i := 408) (by decide +kernel)
theorem tw_407 : Cond.instanceMethod yX2_needGroups ∈ lw_tbl := List.mem_of_getElem? (i := 407) (by decide +kernel)
theorem tw_14 : Cond.selects RX2 yX2_needGroups yX2_needGroups ∈ lw_tbl := List.mem_of_getElem? (i := 14) (by decide +kernel)
theorem tw_405 : Cond.methodLink RX2 75 yX2_needGroups ∈ lw_tbl := List.mem_of_getElem? (i := 405) (by decide +kernel)
theorem tw_213 : Cond.fieldLink RX2 79 "TypedAmounts$Land" "point" "I" ∈ lw_tbl := List.mem_of_getElem? (i := 213) (by decide +kernel)
theorem tw_416 : Cond.code yX2_passFraction cX2_passFraction 4 none ∈ lw_tbl := List.mem_of_getElem? (i := 416) (by decide +kernel)
theorem tw_415 : Cond.instanceMethod yX2_passFraction ∈ lw_tbl := List.mem_of_getElem? (i := 415) (by decide +kernel)
theorem tw_16 : Cond.selects RX2 yX2_passFraction yX2_passFraction ∈ lw_tbl := List.mem_of_getElem? (i := 16) (by decide +kernel)
theorem tw_413 : Cond.methodLink RX2 82 yX2_passFraction ∈ lw_tbl := List.mem_of_getElem? (i := 413) (by decide +kernel)
theorem tw_221 : Cond.fieldLink RX2 86 "TypedAmounts$Land" "minus" "I" ∈ lw_tbl := List.mem_of_getElem? (i := 221) (by decide +kernel)
theorem tw_420 : Cond.code yX1_minusBehind cX1_minusBehind 1 (some .int) ∈ lw_tbl := List.mem_of_getElem? (i := 420) (by decide +kernel)
theorem tw_418 : Cond.instanceMethod yX1_minusBehind ∈ lw_tbl := List.mem_of_getElem? (i := 418) (by decide +kernel)
theorem tw_419 : Cond.selects RX1 yX1_minusBehind yX1_minusBehind ∈ lw_tbl := List.mem_of_getElem? (i := 419) (by decide +kernel)
theorem tw_417 : Cond.methodLink RX2 89 yX1_minusBehind ∈ lw_tbl := List.mem_of_getElem? (i := 417) (by decide +kernel)
theorem tw_310 : Cond.methodLink RX2 33 yJ9_min_7cf53 ∈ lw_tbl := List.mem_of_getElem? (i := 310) (by decide +kernel)
theorem tw_316 : Cond.code yX2_readDay cX2_readDay 5 none ∈ lw_tbl := List.mem_of_getElem? (i := 316) (by decide +kernel)
theorem tw_315 : Cond.instanceMethod yX2_readDay ∈ lw_tbl := List.mem_of_getElem? (i := 315) (by decide +kernel)
theorem tw_1 : Cond.selects RX2 yX2_readDay yX2_readDay ∈ lw_tbl := List.mem_of_getElem? (i := 1) (by decide +kernel)
theorem tw_313 : Cond.methodLink RX2 49 yX2_readDay ∈ lw_tbl := List.mem_of_getElem? (i := 313) (by decide +kernel)
theorem tw_387 : Cond.code yX2_readAmount cX2_readAmount 5 none ∈ lw_tbl := List.mem_of_getElem? (i := 387) (by decide +kernel)
theorem tw_386 : Cond.instanceMethod yX2_readAmount ∈ lw_tbl := List.mem_of_getElem? (i := 386) (by decide +kernel)
theorem tw_11 : Cond.selects RX2 yX2_readAmount yX2_readAmount ∈ lw_tbl := List.mem_of_getElem? (i := 11) (by decide +kernel)
theorem tw_384 : Cond.methodLink RX2 53 yX2_readAmount ∈ lw_tbl := List.mem_of_getElem? (i := 384) (by decide +kernel)
theorem tw_87 : Cond.methodLink RX4 3 objectInit ∈ lw_tbl := List.mem_of_getElem? (i := 87) (by decide +kernel)
theorem tw_88 : Cond.methodLink RX4 9 yJ9_max_7cf53 ∈ lw_tbl := List.mem_of_getElem? (i := 88) (by decide +kernel)
theorem tw_91 : Cond.fieldLink RX4 15 "TypedAmounts$Text" "bytes" "[I" ∈ lw_tbl := List.mem_of_getElem? (i := 91) (by decide +kernel)
theorem tw_81 : Cond.methodLink RX3 3 objectInit ∈ lw_tbl := List.mem_of_getElem? (i := 81) (by decide +kernel)
theorem tw_82 : Cond.classLink RX3 9 RX4 ∈ lw_tbl := List.mem_of_getElem? (i := 82) (by decide +kernel)
theorem tw_83 : Cond.instantiable RX4 2 ∈ lw_tbl := List.mem_of_getElem? (i := 83) (by decide +kernel)
theorem tw_55 : Cond.initialized RX4 ∈ lw_tbl := List.mem_of_getElem? (i := 55) (by decide +kernel)
theorem tw_86 : Cond.code yX4_init cX4_init 2 none ∈ lw_tbl := List.mem_of_getElem? (i := 86) (by decide +kernel)
theorem tw_85 : Cond.instanceMethod yX4_init ∈ lw_tbl := List.mem_of_getElem? (i := 85) (by decide +kernel)
theorem tw_84 : Cond.methodLink RX3 11 yX4_init ∈ lw_tbl := List.mem_of_getElem? (i := 84) (by decide +kernel)
theorem tw_105 : Cond.fieldLink RX3 14 "TypedAmounts$Sheet" "line" "LTypedAmounts$Text;" ∈ lw_tbl := List.mem_of_getElem? (i := 105) (by decide +kernel)
theorem tw_107 : Cond.fieldLink RX3 20 "TypedAmounts$Sheet" "display" "LTypedAmounts$Text;" ∈ lw_tbl := List.mem_of_getElem? (i := 107) (by decide +kernel)
theorem tw_101 : Cond.classLink RX3 23 RX1 ∈ lw_tbl := List.mem_of_getElem? (i := 101) (by decide +kernel)
theorem tw_109 : Cond.fieldLink RX3 25 "TypedAmounts$Sheet" "lands" "[LTypedAmounts$Land;" ∈ lw_tbl := List.mem_of_getElem? (i := 109) (by decide +kernel)
theorem tw_112 : Cond.fieldLink RX3 29 "TypedAmounts$Sheet" "rows" "[I" ∈ lw_tbl := List.mem_of_getElem? (i := 112) (by decide +kernel)
theorem tw_114 : Cond.fieldLink RX3 33 "TypedAmounts$Sheet" "rowLengths" "[I" ∈ lw_tbl := List.mem_of_getElem? (i := 114) (by decide +kernel)
theorem tw_138 : Cond.arrayClass .long ∈ lw_tbl := List.mem_of_getElem? (i := 138) (by decide +kernel)
theorem tw_117 : Cond.fieldLink RX3 36 "TypedAmounts$Sheet" "least" "[J" ∈ lw_tbl := List.mem_of_getElem? (i := 117) (by decide +kernel)
theorem tw_118 : Cond.fieldLink RX3 40 "TypedAmounts$Sheet" "greatest" "[J" ∈ lw_tbl := List.mem_of_getElem? (i := 118) (by decide +kernel)
theorem tw_103 : Cond.constantLong RX3 43 (-9223372036854775808) ∈ lw_tbl := List.mem_of_getElem? (i := 103) (by decide +kernel)
theorem tw_104 : Cond.constantLong RX3 45 (9223372036854775807) ∈ lw_tbl := List.mem_of_getElem? (i := 104) (by decide +kernel)
theorem tw_111 : Cond.fieldLink RX3 47 "TypedAmounts$Sheet" "landCount" "I" ∈ lw_tbl := List.mem_of_getElem? (i := 111) (by decide +kernel)
theorem tw_286 : Cond.code yX7_isKind cX7_isKind 1 (some .boolean) ∈ lw_tbl := List.mem_of_getElem? (i := 286) (by decide +kernel)
theorem tw_285 : Cond.static yX7_isKind ∈ lw_tbl := List.mem_of_getElem? (i := 285) (by decide +kernel)
theorem tw_94 : Cond.fieldLink RX4 21 "TypedAmounts$Text" "length" "I" ∈ lw_tbl := List.mem_of_getElem? (i := 94) (by decide +kernel)
theorem tw_115 : Cond.fieldLink RX3 55 "TypedAmounts$Sheet" "rowCount" "I" ∈ lw_tbl := List.mem_of_getElem? (i := 115) (by decide +kernel)
theorem tw_260 : Cond.code yX4_length cX4_length 1 (some .int) ∈ lw_tbl := List.mem_of_getElem? (i := 260) (by decide +kernel)
theorem tw_258 : Cond.instanceMethod yX4_length ∈ lw_tbl := List.mem_of_getElem? (i := 258) (by decide +kernel)
theorem tw_259 : Cond.selects RX4 yX4_length yX4_length ∈ lw_tbl := List.mem_of_getElem? (i := 259) (by decide +kernel)
theorem tw_659 : Cond.methodLink RX3 58 yX4_length ∈ lw_tbl := List.mem_of_getElem? (i := 659) (by decide +kernel)
theorem tw_92 : Cond.fieldLink RX3 62 "TypedAmounts$Text" "bytes" "[I" ∈ lw_tbl := List.mem_of_getElem? (i := 92) (by decide +kernel)
theorem tw_663 : Cond.code yX3_rowStart cX3_rowStart 2 (some .int) ∈ lw_tbl := List.mem_of_getElem? (i := 663) (by decide +kernel)
theorem tw_54 : Cond.initialized RX3 ∈ lw_tbl := List.mem_of_getElem? (i := 54) (by decide +kernel)
theorem tw_661 : Cond.instanceMethod yX3_rowStart ∈ lw_tbl := List.mem_of_getElem? (i := 661) (by decide +kernel)
theorem tw_662 : Cond.selects RX3 yX3_rowStart yX3_rowStart ∈ lw_tbl := List.mem_of_getElem? (i := 662) (by decide +kernel)
theorem tw_660 : Cond.methodLink RX3 65 yX3_rowStart ∈ lw_tbl := List.mem_of_getElem? (i := 660) (by decide +kernel)
theorem tw_664 : Cond.methodLink RX3 69 arraycopyName ∈ lw_tbl := List.mem_of_getElem? (i := 664) (by decide +kernel)
theorem tw_627 : Cond.native arraycopyName ∈ lw_tbl := List.mem_of_getElem? (i := 627) (by decide +kernel)
theorem tw_626 : Cond.static arraycopyName ∈ lw_tbl := List.mem_of_getElem? (i := 626) (by decide +kernel)
theorem tw_67 : Cond.initialized "java/lang/System" ∈ lw_tbl := List.mem_of_getElem? (i := 67) (by decide +kernel)
theorem tw_464 : Cond.code yX4_empty cX4_empty 1 none ∈ lw_tbl := List.mem_of_getElem? (i := 464) (by decide +kernel)
theorem tw_462 : Cond.instanceMethod yX4_empty ∈ lw_tbl := List.mem_of_getElem? (i := 462) (by decide +kernel)
theorem tw_463 : Cond.selects RX4 yX4_empty yX4_empty ∈ lw_tbl := List.mem_of_getElem? (i := 463) (by decide +kernel)
theorem tw_665 : Cond.methodLink RX3 75 yX4_empty ∈ lw_tbl := List.mem_of_getElem? (i := 665) (by decide +kernel)
theorem tw_624 : Cond.methodLink RX4 35 yJ9_min_7cf53 ∈ lw_tbl := List.mem_of_getElem? (i := 624) (by decide +kernel)
theorem tw_625 : Cond.methodLink RX4 38 arraycopyName ∈ lw_tbl := List.mem_of_getElem? (i := 625) (by decide +kernel)
theorem tw_623 : Cond.code yX4_copyFrom cX4_copyFrom 2 none ∈ lw_tbl := List.mem_of_getElem? (i := 623) (by decide +kernel)
theorem tw_621 : Cond.instanceMethod yX4_copyFrom ∈ lw_tbl := List.mem_of_getElem? (i := 621) (by decide +kernel)
theorem tw_622 : Cond.selects RX4 yX4_copyFrom yX4_copyFrom ∈ lw_tbl := List.mem_of_getElem? (i := 622) (by decide +kernel)
theorem tw_703 : Cond.methodLink RX3 78 yX4_copyFrom ∈ lw_tbl := List.mem_of_getElem? (i := 703) (by decide +kernel)
theorem tw_475 : Cond.constantLong RX6 15 (10) ∈ lw_tbl := List.mem_of_getElem? (i := 475) (by decide +kernel)
theorem tw_474 : Cond.code yX6_digitOf cX6_digitOf 6 (some .int) ∈ lw_tbl := List.mem_of_getElem? (i := 474) (by decide +kernel)
theorem tw_61 : Cond.initialized RX6 ∈ lw_tbl := List.mem_of_getElem? (i := 61) (by decide +kernel)
theorem tw_473 : Cond.static yX6_digitOf ∈ lw_tbl := List.mem_of_getElem? (i := 473) (by decide +kernel)
theorem tw_472 : Cond.methodLink RX4 25 yX6_digitOf ∈ lw_tbl := List.mem_of_getElem? (i := 472) (by decide +kernel)
theorem tw_264 : Cond.code yX4_add cX4_add 2 none ∈ lw_tbl := List.mem_of_getElem? (i := 264) (by decide +kernel)
theorem tw_262 : Cond.instanceMethod yX4_add ∈ lw_tbl := List.mem_of_getElem? (i := 262) (by decide +kernel)
theorem tw_263 : Cond.selects RX4 yX4_add yX4_add ∈ lw_tbl := List.mem_of_getElem? (i := 263) (by decide +kernel)
theorem tw_476 : Cond.methodLink RX4 31 yX4_add ∈ lw_tbl := List.mem_of_getElem? (i := 476) (by decide +kernel)
theorem tw_615 : Cond.code yX4_byteAt cX4_byteAt 2 (some .int) ∈ lw_tbl := List.mem_of_getElem? (i := 615) (by decide +kernel)
theorem tw_613 : Cond.instanceMethod yX4_byteAt ∈ lw_tbl := List.mem_of_getElem? (i := 613) (by decide +kernel)
theorem tw_614 : Cond.selects RX4 yX4_byteAt yX4_byteAt ∈ lw_tbl := List.mem_of_getElem? (i := 614) (by decide +kernel)
theorem tw_646 : Cond.methodLink RX4 44 yX4_byteAt ∈ lw_tbl := List.mem_of_getElem? (i := 646) (by decide +kernel)
theorem tw_563 : Cond.fieldLink RJ0 38 "java/lang/String" "COMPACT_STRINGS" "Z" ∈ lw_tbl := List.mem_of_getElem? (i := 563) (by decide +kernel)
theorem tw_1092 : Cond.fieldLink RJ0 15 "java/lang/String" "coder" "B" ∈ lw_tbl := List.mem_of_getElem? (i := 1092) (by decide +kernel)
theorem tw_1091 : Cond.fieldLink RJ0 9 "java/lang/String" "value" "[B" ∈ lw_tbl := List.mem_of_getElem? (i := 1091) (by decide +kernel)
theorem tw_562 : Cond.code yJ0_coder_7d493 cJ0_coder_7d493 1 (some .byte) ∈ lw_tbl := List.mem_of_getElem? (i := 562) (by decide +kernel)
theorem tw_63 : Cond.initialized RJ0 ∈ lw_tbl := List.mem_of_getElem? (i := 63) (by decide +kernel)
theorem tw_560 : Cond.instanceMethod yJ0_coder_7d493 ∈ lw_tbl := List.mem_of_getElem? (i := 560) (by decide +kernel)
theorem tw_561 : Cond.selects RJ0 yJ0_coder_7d493 yJ0_coder_7d493 ∈ lw_tbl := List.mem_of_getElem? (i := 561) (by decide +kernel)
theorem tw_559 : Cond.methodLink RJ0 335 yJ0_coder_7d493 ∈ lw_tbl := List.mem_of_getElem? (i := 559) (by decide +kernel)
theorem tw_572 : Cond.code yJ0_isLatin1_aae02 cJ0_isLatin1_aae02 1 (some .boolean) ∈ lw_tbl := List.mem_of_getElem? (i := 572) (by decide +kernel)
theorem tw_570 : Cond.instanceMethod yJ0_isLatin1_aae02 ∈ lw_tbl := List.mem_of_getElem? (i := 570) (by decide +kernel)
theorem tw_571 : Cond.selects RJ0 yJ0_isLatin1_aae02 yJ0_isLatin1_aae02 ∈ lw_tbl := List.mem_of_getElem? (i := 571) (by decide +kernel)
theorem tw_569 : Cond.methodLink RJ0 492 yJ0_isLatin1_aae02 ∈ lw_tbl := List.mem_of_getElem? (i := 569) (by decide +kernel)
theorem tw_575 : Cond.code yJ1_charAt_3b067 cJ1_charAt_3b067 2 (some .char) ∈ lw_tbl := List.mem_of_getElem? (i := 575) (by decide +kernel)
theorem tw_64 : Cond.initialized RJ1 ∈ lw_tbl := List.mem_of_getElem? (i := 64) (by decide +kernel)
theorem tw_574 : Cond.static yJ1_charAt_3b067 ∈ lw_tbl := List.mem_of_getElem? (i := 574) (by decide +kernel)
theorem tw_573 : Cond.methodLink RJ0 495 yJ1_charAt_3b067 ∈ lw_tbl := List.mem_of_getElem? (i := 573) (by decide +kernel)
theorem tw_518 : Cond.methodLink RX5 25 yX4_length ∈ lw_tbl := List.mem_of_getElem? (i := 518) (by decide +kernel)
theorem tw_519 : Cond.methodLink RX5 29 yX4_add ∈ lw_tbl := List.mem_of_getElem? (i := 519) (by decide +kernel)
theorem tw_522 : Cond.code yX5_nameOf cX5_nameOf 1 (some (.object "java/lang/String")) ∈ lw_tbl := List.mem_of_getElem? (i := 522) (by decide +kernel)
theorem tw_62 : Cond.initialized RX5 ∈ lw_tbl := List.mem_of_getElem? (i := 62) (by decide +kernel)
theorem tw_521 : Cond.static yX5_nameOf ∈ lw_tbl := List.mem_of_getElem? (i := 521) (by decide +kernel)
theorem tw_520 : Cond.methodLink RX5 33 yX5_nameOf ∈ lw_tbl := List.mem_of_getElem? (i := 520) (by decide +kernel)
theorem tw_558 : Cond.code yJ0_length_8abf5 cJ0_length_8abf5 1 (some .int) ∈ lw_tbl := List.mem_of_getElem? (i := 558) (by decide +kernel)
theorem tw_556 : Cond.instanceMethod yJ0_length_8abf5 ∈ lw_tbl := List.mem_of_getElem? (i := 556) (by decide +kernel)
theorem tw_557 : Cond.selects RJ0 yJ0_length_8abf5 yJ0_length_8abf5 ∈ lw_tbl := List.mem_of_getElem? (i := 557) (by decide +kernel)
theorem tw_555 : Cond.methodLink RX5 37 yJ0_length_8abf5 ∈ lw_tbl := List.mem_of_getElem? (i := 555) (by decide +kernel)
theorem tw_568 : Cond.code yJ0_charAt_5068e cJ0_charAt_5068e 2 (some .char) ∈ lw_tbl := List.mem_of_getElem? (i := 568) (by decide +kernel)
theorem tw_566 : Cond.instanceMethod yJ0_charAt_5068e ∈ lw_tbl := List.mem_of_getElem? (i := 566) (by decide +kernel)
theorem tw_567 : Cond.selects RJ0 yJ0_charAt_5068e yJ0_charAt_5068e ∈ lw_tbl := List.mem_of_getElem? (i := 567) (by decide +kernel)
theorem tw_565 : Cond.methodLink RX5 40 yJ0_charAt_5068e ∈ lw_tbl := List.mem_of_getElem? (i := 565) (by decide +kernel)
theorem tw_517 : Cond.code yX5_addName cX5_addName 4 none ∈ lw_tbl := List.mem_of_getElem? (i := 517) (by decide +kernel)
theorem tw_516 : Cond.static yX5_addName ∈ lw_tbl := List.mem_of_getElem? (i := 516) (by decide +kernel)
theorem tw_515 : Cond.methodLink RX5 14 yX5_addName ∈ lw_tbl := List.mem_of_getElem? (i := 515) (by decide +kernel)
theorem tw_514 : Cond.methodLink RX5 9 yX4_empty ∈ lw_tbl := List.mem_of_getElem? (i := 514) (by decide +kernel)
theorem tw_603 : Cond.constant RX5 20 (1000000) ∈ lw_tbl := List.mem_of_getElem? (i := 603) (by decide +kernel)
theorem tw_606 : Cond.code yX5_addPart cX5_addPart 4 none ∈ lw_tbl := List.mem_of_getElem? (i := 606) (by decide +kernel)
theorem tw_605 : Cond.static yX5_addPart ∈ lw_tbl := List.mem_of_getElem? (i := 605) (by decide +kernel)
theorem tw_604 : Cond.methodLink RX5 21 yX5_addPart ∈ lw_tbl := List.mem_of_getElem? (i := 604) (by decide +kernel)
theorem tw_635 : Cond.methodLink RX5 44 yX4_byteAt ∈ lw_tbl := List.mem_of_getElem? (i := 635) (by decide +kernel)
theorem tw_641 : Cond.code yX5_stands cX5_stands 5 (some .boolean) ∈ lw_tbl := List.mem_of_getElem? (i := 641) (by decide +kernel)
theorem tw_640 : Cond.static yX5_stands ∈ lw_tbl := List.mem_of_getElem? (i := 640) (by decide +kernel)
theorem tw_639 : Cond.methodLink RX5 52 yX5_stands ∈ lw_tbl := List.mem_of_getElem? (i := 639) (by decide +kernel)
theorem tw_638 : Cond.code yX5_nameIn cX5_nameIn 4 (some .int) ∈ lw_tbl := List.mem_of_getElem? (i := 638) (by decide +kernel)
theorem tw_637 : Cond.static yX5_nameIn ∈ lw_tbl := List.mem_of_getElem? (i := 637) (by decide +kernel)
theorem tw_636 : Cond.methodLink RX5 48 yX5_nameIn ∈ lw_tbl := List.mem_of_getElem? (i := 636) (by decide +kernel)
theorem tw_487 : Cond.code yJ9_abs_067f4 cJ9_abs_067f4 2 (some .long) ∈ lw_tbl := List.mem_of_getElem? (i := 487) (by decide +kernel)
theorem tw_486 : Cond.static yJ9_abs_067f4 ∈ lw_tbl := List.mem_of_getElem? (i := 486) (by decide +kernel)
theorem tw_485 : Cond.methodLink RX6 9 yJ9_abs_067f4 ∈ lw_tbl := List.mem_of_getElem? (i := 485) (by decide +kernel)
theorem tw_488 : Cond.constantLong RX6 17 (5) ∈ lw_tbl := List.mem_of_getElem? (i := 488) (by decide +kernel)
theorem tw_496 : Cond.methodLink RX6 51 yX1_markByte ∈ lw_tbl := List.mem_of_getElem? (i := 496) (by decide +kernel)
theorem tw_466 : Cond.methodLink RX6 30 yX4_add ∈ lw_tbl := List.mem_of_getElem? (i := 466) (by decide +kernel)
theorem tw_500 : Cond.methodLink RX6 55 yX6_digitOf ∈ lw_tbl := List.mem_of_getElem? (i := 500) (by decide +kernel)
theorem tw_214 : Cond.fieldLink RX6 67 "TypedAmounts$Land" "point" "I" ∈ lw_tbl := List.mem_of_getElem? (i := 214) (by decide +kernel)
theorem tw_504 : Cond.code yX1_groupsAhead cX1_groupsAhead 2 (some .boolean) ∈ lw_tbl := List.mem_of_getElem? (i := 504) (by decide +kernel)
theorem tw_502 : Cond.instanceMethod yX1_groupsAhead ∈ lw_tbl := List.mem_of_getElem? (i := 502) (by decide +kernel)
theorem tw_503 : Cond.selects RX1 yX1_groupsAhead yX1_groupsAhead ∈ lw_tbl := List.mem_of_getElem? (i := 503) (by decide +kernel)
theorem tw_501 : Cond.methodLink RX6 59 yX1_groupsAhead ∈ lw_tbl := List.mem_of_getElem? (i := 501) (by decide +kernel)
theorem tw_217 : Cond.fieldLink RX6 63 "TypedAmounts$Land" "group" "I" ∈ lw_tbl := List.mem_of_getElem? (i := 217) (by decide +kernel)
theorem tw_461 : Cond.methodLink RX6 19 yX4_empty ∈ lw_tbl := List.mem_of_getElem? (i := 461) (by decide +kernel)
theorem tw_492 : Cond.methodLink RX6 24 yX1_minusAhead ∈ lw_tbl := List.mem_of_getElem? (i := 492) (by decide +kernel)
theorem tw_225 : Cond.fieldLink RX6 34 "TypedAmounts$Land" "markBehind" "Z" ∈ lw_tbl := List.mem_of_getElem? (i := 225) (by decide +kernel)
theorem tw_495 : Cond.code yX6_addMark cX6_addMark 3 none ∈ lw_tbl := List.mem_of_getElem? (i := 495) (by decide +kernel)
theorem tw_494 : Cond.static yX6_addMark ∈ lw_tbl := List.mem_of_getElem? (i := 494) (by decide +kernel)
theorem tw_493 : Cond.methodLink RX6 38 yX6_addMark ∈ lw_tbl := List.mem_of_getElem? (i := 493) (by decide +kernel)
theorem tw_499 : Cond.code yX6_addNumber cX6_addNumber 7 none ∈ lw_tbl := List.mem_of_getElem? (i := 499) (by decide +kernel)
theorem tw_498 : Cond.static yX6_addNumber ∈ lw_tbl := List.mem_of_getElem? (i := 498) (by decide +kernel)
theorem tw_497 : Cond.methodLink RX6 44 yX6_addNumber ∈ lw_tbl := List.mem_of_getElem? (i := 497) (by decide +kernel)
theorem tw_505 : Cond.methodLink RX6 48 yX1_minusBehind ∈ lw_tbl := List.mem_of_getElem? (i := 505) (by decide +kernel)
theorem tw_454 : Cond.code yX0_yearOf cX0_yearOf 5 (some .int) ∈ lw_tbl := List.mem_of_getElem? (i := 454) (by decide +kernel)
theorem tw_453 : Cond.static yX0_yearOf ∈ lw_tbl := List.mem_of_getElem? (i := 453) (by decide +kernel)
theorem tw_452 : Cond.methodLink RX6 70 yX0_yearOf ∈ lw_tbl := List.mem_of_getElem? (i := 452) (by decide +kernel)
theorem tw_458 : Cond.methodLink RX6 75 yX0_isLeap ∈ lw_tbl := List.mem_of_getElem? (i := 458) (by decide +kernel)
theorem tw_459 : Cond.methodLink RX6 78 yX0_beforeYear ∈ lw_tbl := List.mem_of_getElem? (i := 459) (by decide +kernel)
theorem tw_460 : Cond.methodLink RX6 81 yX0_lengthOf ∈ lw_tbl := List.mem_of_getElem? (i := 460) (by decide +kernel)
theorem tw_465 : Cond.methodLink RX6 85 yX1_signOfDays ∈ lw_tbl := List.mem_of_getElem? (i := 465) (by decide +kernel)
theorem tw_467 : Cond.methodLink RX6 88 yX1_partAt ∈ lw_tbl := List.mem_of_getElem? (i := 467) (by decide +kernel)
theorem tw_471 : Cond.code yX4_addDigits cX4_addDigits 4 none ∈ lw_tbl := List.mem_of_getElem? (i := 471) (by decide +kernel)
theorem tw_469 : Cond.instanceMethod yX4_addDigits ∈ lw_tbl := List.mem_of_getElem? (i := 469) (by decide +kernel)
theorem tw_470 : Cond.selects RX4 yX4_addDigits yX4_addDigits ∈ lw_tbl := List.mem_of_getElem? (i := 470) (by decide +kernel)
theorem tw_468 : Cond.methodLink RX6 91 yX4_addDigits ∈ lw_tbl := List.mem_of_getElem? (i := 468) (by decide +kernel)
theorem tw_73 : Cond.methodLink RX7 1 objectInit ∈ lw_tbl := List.mem_of_getElem? (i := 73) (by decide +kernel)
theorem tw_76 : Cond.classLink RX7 7 RX3 ∈ lw_tbl := List.mem_of_getElem? (i := 76) (by decide +kernel)
theorem tw_77 : Cond.instantiable RX3 9 ∈ lw_tbl := List.mem_of_getElem? (i := 77) (by decide +kernel)
theorem tw_80 : Cond.code yX3_init cX3_init 2 none ∈ lw_tbl := List.mem_of_getElem? (i := 80) (by decide +kernel)
theorem tw_79 : Cond.instanceMethod yX3_init ∈ lw_tbl := List.mem_of_getElem? (i := 79) (by decide +kernel)
theorem tw_78 : Cond.methodLink RX7 9 yX3_init ∈ lw_tbl := List.mem_of_getElem? (i := 78) (by decide +kernel)
theorem tw_177 : Cond.fieldLink RX7 10 "TypedAmounts" "now" "LTypedAmounts$Sheet;" ∈ lw_tbl := List.mem_of_getElem? (i := 177) (by decide +kernel)
theorem tw_178 : Cond.fieldLink RX7 16 "TypedAmounts" "images" "[LTypedAmounts$Sheet;" ∈ lw_tbl := List.mem_of_getElem? (i := 178) (by decide +kernel)
theorem tw_140 : Cond.classLink RX7 20 RX2 ∈ lw_tbl := List.mem_of_getElem? (i := 140) (by decide +kernel)
theorem tw_141 : Cond.instantiable RX2 9 ∈ lw_tbl := List.mem_of_getElem? (i := 141) (by decide +kernel)
theorem tw_144 : Cond.code yX2_init cX2_init 1 none ∈ lw_tbl := List.mem_of_getElem? (i := 144) (by decide +kernel)
theorem tw_143 : Cond.instanceMethod yX2_init ∈ lw_tbl := List.mem_of_getElem? (i := 143) (by decide +kernel)
theorem tw_142 : Cond.methodLink RX7 22 yX2_init ∈ lw_tbl := List.mem_of_getElem? (i := 142) (by decide +kernel)
theorem tw_179 : Cond.fieldLink RX7 23 "TypedAmounts" "reader" "LTypedAmounts$Reader;" ∈ lw_tbl := List.mem_of_getElem? (i := 179) (by decide +kernel)
theorem tw_175 : Cond.classLink RX7 27 RX4 ∈ lw_tbl := List.mem_of_getElem? (i := 175) (by decide +kernel)
theorem tw_176 : Cond.methodLink RX7 29 yX4_init ∈ lw_tbl := List.mem_of_getElem? (i := 176) (by decide +kernel)
theorem tw_180 : Cond.fieldLink RX7 32 "TypedAmounts" "draft" "LTypedAmounts$Text;" ∈ lw_tbl := List.mem_of_getElem? (i := 180) (by decide +kernel)
theorem tw_110 : Cond.fieldLink RX7 36 "TypedAmounts$Sheet" "landCount" "I" ∈ lw_tbl := List.mem_of_getElem? (i := 110) (by decide +kernel)
theorem tw_196 : Cond.code yX1_canWriteNumbers cX1_canWriteNumbers 6 (some .boolean) ∈ lw_tbl := List.mem_of_getElem? (i := 196) (by decide +kernel)
theorem tw_195 : Cond.static yX1_canWriteNumbers ∈ lw_tbl := List.mem_of_getElem? (i := 195) (by decide +kernel)
theorem tw_194 : Cond.methodLink RX7 40 yX1_canWriteNumbers ∈ lw_tbl := List.mem_of_getElem? (i := 194) (by decide +kernel)
theorem tw_199 : Cond.code yX1_canWriteMoney cX1_canWriteMoney 1 (some .boolean) ∈ lw_tbl := List.mem_of_getElem? (i := 199) (by decide +kernel)
theorem tw_198 : Cond.static yX1_canWriteMoney ∈ lw_tbl := List.mem_of_getElem? (i := 198) (by decide +kernel)
theorem tw_197 : Cond.methodLink RX7 46 yX1_canWriteMoney ∈ lw_tbl := List.mem_of_getElem? (i := 197) (by decide +kernel)
theorem tw_205 : Cond.code yX1_canWriteDays cX1_canWriteDays 2 (some .boolean) ∈ lw_tbl := List.mem_of_getElem? (i := 205) (by decide +kernel)
theorem tw_204 : Cond.static yX1_canWriteDays ∈ lw_tbl := List.mem_of_getElem? (i := 204) (by decide +kernel)
theorem tw_203 : Cond.methodLink RX7 50 yX1_canWriteDays ∈ lw_tbl := List.mem_of_getElem? (i := 203) (by decide +kernel)
theorem tw_206 : Cond.classLink RX7 41 RX1 ∈ lw_tbl := List.mem_of_getElem? (i := 206) (by decide +kernel)
theorem tw_207 : Cond.instantiable RX1 8 ∈ lw_tbl := List.mem_of_getElem? (i := 207) (by decide +kernel)
theorem tw_210 : Cond.code yX1_init cX1_init 7 none ∈ lw_tbl := List.mem_of_getElem? (i := 210) (by decide +kernel)
theorem tw_209 : Cond.instanceMethod yX1_init ∈ lw_tbl := List.mem_of_getElem? (i := 209) (by decide +kernel)
theorem tw_208 : Cond.methodLink RX7 54 yX1_init ∈ lw_tbl := List.mem_of_getElem? (i := 208) (by decide +kernel)
theorem tw_248 : Cond.code yX1_setDays cX1_setDays 3 none ∈ lw_tbl := List.mem_of_getElem? (i := 248) (by decide +kernel)
theorem tw_246 : Cond.instanceMethod yX1_setDays ∈ lw_tbl := List.mem_of_getElem? (i := 246) (by decide +kernel)
theorem tw_247 : Cond.selects RX1 yX1_setDays yX1_setDays ∈ lw_tbl := List.mem_of_getElem? (i := 247) (by decide +kernel)
theorem tw_245 : Cond.methodLink RX7 57 yX1_setDays ∈ lw_tbl := List.mem_of_getElem? (i := 245) (by decide +kernel)
theorem tw_252 : Cond.code yX3_addLand cX3_addLand 2 (some .int) ∈ lw_tbl := List.mem_of_getElem? (i := 252) (by decide +kernel)
theorem tw_250 : Cond.instanceMethod yX3_addLand ∈ lw_tbl := List.mem_of_getElem? (i := 250) (by decide +kernel)
theorem tw_251 : Cond.selects RX3 yX3_addLand yX3_addLand ∈ lw_tbl := List.mem_of_getElem? (i := 251) (by decide +kernel)
theorem tw_249 : Cond.methodLink RX7 61 yX3_addLand ∈ lw_tbl := List.mem_of_getElem? (i := 249) (by decide +kernel)
theorem tw_106 : Cond.fieldLink RX7 65 "TypedAmounts$Sheet" "line" "LTypedAmounts$Text;" ∈ lw_tbl := List.mem_of_getElem? (i := 106) (by decide +kernel)
theorem tw_257 : Cond.methodLink RX7 68 yX4_length ∈ lw_tbl := List.mem_of_getElem? (i := 257) (by decide +kernel)
theorem tw_261 : Cond.methodLink RX7 72 yX4_add ∈ lw_tbl := List.mem_of_getElem? (i := 261) (by decide +kernel)
theorem tw_269 : Cond.methodLink RX7 75 yX7_byteOf ∈ lw_tbl := List.mem_of_getElem? (i := 269) (by decide +kernel)
theorem tw_279 : Cond.code yX4_shorten cX4_shorten 2 none ∈ lw_tbl := List.mem_of_getElem? (i := 279) (by decide +kernel)
theorem tw_277 : Cond.instanceMethod yX4_shorten ∈ lw_tbl := List.mem_of_getElem? (i := 277) (by decide +kernel)
theorem tw_278 : Cond.selects RX4 yX4_shorten yX4_shorten ∈ lw_tbl := List.mem_of_getElem? (i := 278) (by decide +kernel)
theorem tw_276 : Cond.methodLink RX7 79 yX4_shorten ∈ lw_tbl := List.mem_of_getElem? (i := 276) (by decide +kernel)
theorem tw_284 : Cond.methodLink RX7 82 yX7_isKind ∈ lw_tbl := List.mem_of_getElem? (i := 284) (by decide +kernel)
theorem tw_290 : Cond.code yX3_setBounds cX3_setBounds 6 none ∈ lw_tbl := List.mem_of_getElem? (i := 290) (by decide +kernel)
theorem tw_288 : Cond.instanceMethod yX3_setBounds ∈ lw_tbl := List.mem_of_getElem? (i := 288) (by decide +kernel)
theorem tw_289 : Cond.selects RX3 yX3_setBounds yX3_setBounds ∈ lw_tbl := List.mem_of_getElem? (i := 289) (by decide +kernel)
theorem tw_287 : Cond.methodLink RX7 85 yX3_setBounds ∈ lw_tbl := List.mem_of_getElem? (i := 287) (by decide +kernel)
theorem tw_93 : Cond.fieldLink RX7 133 "TypedAmounts$Text" "bytes" "[I" ∈ lw_tbl := List.mem_of_getElem? (i := 93) (by decide +kernel)
theorem tw_308 : Cond.code yX2_read cX2_read 6 (some .int) ∈ lw_tbl := List.mem_of_getElem? (i := 308) (by decide +kernel)
theorem tw_306 : Cond.instanceMethod yX2_read ∈ lw_tbl := List.mem_of_getElem? (i := 306) (by decide +kernel)
theorem tw_307 : Cond.selects RX2 yX2_read yX2_read ∈ lw_tbl := List.mem_of_getElem? (i := 307) (by decide +kernel)
theorem tw_305 : Cond.methodLink RX7 137 yX2_read ∈ lw_tbl := List.mem_of_getElem? (i := 305) (by decide +kernel)
theorem tw_152 : Cond.fieldLink RX7 141 "TypedAmounts$Reader" "found" "J" ∈ lw_tbl := List.mem_of_getElem? (i := 152) (by decide +kernel)
theorem tw_428 : Cond.code yX3_isWithin cX3_isWithin 4 (some .boolean) ∈ lw_tbl := List.mem_of_getElem? (i := 428) (by decide +kernel)
theorem tw_426 : Cond.instanceMethod yX3_isWithin ∈ lw_tbl := List.mem_of_getElem? (i := 426) (by decide +kernel)
theorem tw_427 : Cond.selects RX3 yX3_isWithin yX3_isWithin ∈ lw_tbl := List.mem_of_getElem? (i := 427) (by decide +kernel)
theorem tw_425 : Cond.methodLink RX7 158 yX3_isWithin ∈ lw_tbl := List.mem_of_getElem? (i := 425) (by decide +kernel)
theorem tw_300 : Cond.constantLong RX7 93 (-9223372036854775808) ∈ lw_tbl := List.mem_of_getElem? (i := 300) (by decide +kernel)
theorem tw_299 : Cond.code yX3_landAt cX3_landAt 2 (some (.object "TypedAmounts$Land")) ∈ lw_tbl := List.mem_of_getElem? (i := 299) (by decide +kernel)
theorem tw_297 : Cond.instanceMethod yX3_landAt ∈ lw_tbl := List.mem_of_getElem? (i := 297) (by decide +kernel)
theorem tw_298 : Cond.selects RX3 yX3_landAt yX3_landAt ∈ lw_tbl := List.mem_of_getElem? (i := 298) (by decide +kernel)
theorem tw_296 : Cond.methodLink RX7 89 yX3_landAt ∈ lw_tbl := List.mem_of_getElem? (i := 296) (by decide +kernel)
theorem tw_304 : Cond.code yX7_readLine cX7_readLine 4 (some .int) ∈ lw_tbl := List.mem_of_getElem? (i := 304) (by decide +kernel)
theorem tw_303 : Cond.instanceMethod yX7_readLine ∈ lw_tbl := List.mem_of_getElem? (i := 303) (by decide +kernel)
theorem tw_0 : Cond.selects RX7 yX7_readLine yX7_readLine ∈ lw_tbl := List.mem_of_getElem? (i := 0) (by decide +kernel)
theorem tw_301 : Cond.methodLink RX7 95 yX7_readLine ∈ lw_tbl := List.mem_of_getElem? (i := 301) (by decide +kernel)
theorem tw_424 : Cond.code yX7_countedValue cX7_countedValue 3 (some .long) ∈ lw_tbl := List.mem_of_getElem? (i := 424) (by decide +kernel)
theorem tw_423 : Cond.instanceMethod yX7_countedValue ∈ lw_tbl := List.mem_of_getElem? (i := 423) (by decide +kernel)
theorem tw_17 : Cond.selects RX7 yX7_countedValue yX7_countedValue ∈ lw_tbl := List.mem_of_getElem? (i := 17) (by decide +kernel)
theorem tw_421 : Cond.methodLink RX7 99 yX7_countedValue ∈ lw_tbl := List.mem_of_getElem? (i := 421) (by decide +kernel)
theorem tw_480 : Cond.constantLong RX7 193 (-999999999999999) ∈ lw_tbl := List.mem_of_getElem? (i := 480) (by decide +kernel)
theorem tw_481 : Cond.constantLong RX7 195 (999999999999999) ∈ lw_tbl := List.mem_of_getElem? (i := 481) (by decide +kernel)
theorem tw_448 : Cond.constantLong RX7 173 (3652058) ∈ lw_tbl := List.mem_of_getElem? (i := 448) (by decide +kernel)
theorem tw_451 : Cond.code yX6_writeDay cX6_writeDay 9 none ∈ lw_tbl := List.mem_of_getElem? (i := 451) (by decide +kernel)
theorem tw_450 : Cond.static yX6_writeDay ∈ lw_tbl := List.mem_of_getElem? (i := 450) (by decide +kernel)
theorem tw_449 : Cond.methodLink RX7 175 yX6_writeDay ∈ lw_tbl := List.mem_of_getElem? (i := 449) (by decide +kernel)
theorem tw_479 : Cond.code yX7_isAmount cX7_isAmount 2 (some .boolean) ∈ lw_tbl := List.mem_of_getElem? (i := 479) (by decide +kernel)
theorem tw_478 : Cond.static yX7_isAmount ∈ lw_tbl := List.mem_of_getElem? (i := 478) (by decide +kernel)
theorem tw_477 : Cond.methodLink RX7 181 yX7_isAmount ∈ lw_tbl := List.mem_of_getElem? (i := 477) (by decide +kernel)
theorem tw_484 : Cond.code yX6_rounded cX6_rounded 8 (some .long) ∈ lw_tbl := List.mem_of_getElem? (i := 484) (by decide +kernel)
theorem tw_483 : Cond.static yX6_rounded ∈ lw_tbl := List.mem_of_getElem? (i := 483) (by decide +kernel)
theorem tw_482 : Cond.methodLink RX7 185 yX6_rounded ∈ lw_tbl := List.mem_of_getElem? (i := 482) (by decide +kernel)
theorem tw_491 : Cond.code yX6_writeAmount cX6_writeAmount 7 none ∈ lw_tbl := List.mem_of_getElem? (i := 491) (by decide +kernel)
theorem tw_490 : Cond.static yX6_writeAmount ∈ lw_tbl := List.mem_of_getElem? (i := 490) (by decide +kernel)
theorem tw_489 : Cond.methodLink RX7 189 yX6_writeAmount ∈ lw_tbl := List.mem_of_getElem? (i := 489) (by decide +kernel)
theorem tw_108 : Cond.fieldLink RX7 103 "TypedAmounts$Sheet" "display" "LTypedAmounts$Text;" ∈ lw_tbl := List.mem_of_getElem? (i := 108) (by decide +kernel)
theorem tw_447 : Cond.code yX7_writeValue cX7_writeValue 8 (some .int) ∈ lw_tbl := List.mem_of_getElem? (i := 447) (by decide +kernel)
theorem tw_446 : Cond.static yX7_writeValue ∈ lw_tbl := List.mem_of_getElem? (i := 446) (by decide +kernel)
theorem tw_445 : Cond.methodLink RX7 106 yX7_writeValue ∈ lw_tbl := List.mem_of_getElem? (i := 445) (by decide +kernel)
theorem tw_510 : Cond.constant RX7 110 (999999999) ∈ lw_tbl := List.mem_of_getElem? (i := 510) (by decide +kernel)
theorem tw_513 : Cond.code yX5_write cX5_write 2 none ∈ lw_tbl := List.mem_of_getElem? (i := 513) (by decide +kernel)
theorem tw_512 : Cond.static yX5_write ∈ lw_tbl := List.mem_of_getElem? (i := 512) (by decide +kernel)
theorem tw_511 : Cond.methodLink RX7 111 yX5_write ∈ lw_tbl := List.mem_of_getElem? (i := 511) (by decide +kernel)
theorem tw_612 : Cond.methodLink RX7 117 yX4_byteAt ∈ lw_tbl := List.mem_of_getElem? (i := 612) (by decide +kernel)
theorem tw_620 : Cond.methodLink RX7 121 yX4_copyFrom ∈ lw_tbl := List.mem_of_getElem? (i := 620) (by decide +kernel)
theorem tw_634 : Cond.code yX5_meaning cX5_meaning 6 (some .int) ∈ lw_tbl := List.mem_of_getElem? (i := 634) (by decide +kernel)
theorem tw_633 : Cond.static yX5_meaning ∈ lw_tbl := List.mem_of_getElem? (i := 633) (by decide +kernel)
theorem tw_632 : Cond.methodLink RX7 125 yX5_meaning ∈ lw_tbl := List.mem_of_getElem? (i := 632) (by decide +kernel)
theorem tw_645 : Cond.code yX4_sameAs cX4_sameAs 3 (some .boolean) ∈ lw_tbl := List.mem_of_getElem? (i := 645) (by decide +kernel)
theorem tw_643 : Cond.instanceMethod yX4_sameAs ∈ lw_tbl := List.mem_of_getElem? (i := 643) (by decide +kernel)
theorem tw_644 : Cond.selects RX4 yX4_sameAs yX4_sameAs ∈ lw_tbl := List.mem_of_getElem? (i := 644) (by decide +kernel)
theorem tw_642 : Cond.methodLink RX7 129 yX4_sameAs ∈ lw_tbl := List.mem_of_getElem? (i := 642) (by decide +kernel)
theorem tw_658 : Cond.code yX3_moveLineToRows cX3_moveLineToRows 1 (some .int) ∈ lw_tbl := List.mem_of_getElem? (i := 658) (by decide +kernel)
theorem tw_656 : Cond.instanceMethod yX3_moveLineToRows ∈ lw_tbl := List.mem_of_getElem? (i := 656) (by decide +kernel)
theorem tw_657 : Cond.selects RX3 yX3_moveLineToRows yX3_moveLineToRows ∈ lw_tbl := List.mem_of_getElem? (i := 657) (by decide +kernel)
theorem tw_655 : Cond.methodLink RX7 145 yX3_moveLineToRows ∈ lw_tbl := List.mem_of_getElem? (i := 655) (by decide +kernel)
theorem tw_116 : Cond.fieldLink RX7 148 "TypedAmounts$Sheet" "rowCount" "I" ∈ lw_tbl := List.mem_of_getElem? (i := 116) (by decide +kernel)
theorem tw_678 : Cond.methodLink RX7 162 yX3_rowStart ∈ lw_tbl := List.mem_of_getElem? (i := 678) (by decide +kernel)
theorem tw_113 : Cond.fieldLink RX7 165 "TypedAmounts$Sheet" "rows" "[I" ∈ lw_tbl := List.mem_of_getElem? (i := 113) (by decide +kernel)
theorem tw_682 : Cond.code yX3_rowLength cX3_rowLength 2 (some .int) ∈ lw_tbl := List.mem_of_getElem? (i := 682) (by decide +kernel)
theorem tw_680 : Cond.instanceMethod yX3_rowLength ∈ lw_tbl := List.mem_of_getElem? (i := 680) (by decide +kernel)
theorem tw_681 : Cond.selects RX3 yX3_rowLength yX3_rowLength ∈ lw_tbl := List.mem_of_getElem? (i := 681) (by decide +kernel)
theorem tw_679 : Cond.methodLink RX7 168 yX3_rowLength ∈ lw_tbl := List.mem_of_getElem? (i := 679) (by decide +kernel)
theorem tw_677 : Cond.code yX7_rowValue cX7_rowValue 6 (some .long) ∈ lw_tbl := List.mem_of_getElem? (i := 677) (by decide +kernel)
theorem tw_676 : Cond.instanceMethod yX7_rowValue ∈ lw_tbl := List.mem_of_getElem? (i := 676) (by decide +kernel)
theorem tw_18 : Cond.selects RX7 yX7_rowValue yX7_rowValue ∈ lw_tbl := List.mem_of_getElem? (i := 18) (by decide +kernel)
theorem tw_674 : Cond.methodLink RX7 151 yX7_rowValue ∈ lw_tbl := List.mem_of_getElem? (i := 674) (by decide +kernel)
theorem tw_702 : Cond.code yX3_copyFrom cX3_copyFrom 3 none ∈ lw_tbl := List.mem_of_getElem? (i := 702) (by decide +kernel)
theorem tw_700 : Cond.instanceMethod yX3_copyFrom ∈ lw_tbl := List.mem_of_getElem? (i := 700) (by decide +kernel)
theorem tw_701 : Cond.selects RX3 yX3_copyFrom yX3_copyFrom ∈ lw_tbl := List.mem_of_getElem? (i := 701) (by decide +kernel)
theorem tw_699 : Cond.methodLink RX7 155 yX3_copyFrom ∈ lw_tbl := List.mem_of_getElem? (i := 699) (by decide +kernel)
theorem tw_713 : Cond.methodLink RX8 1 objectInit ∈ lw_tbl := List.mem_of_getElem? (i := 713) (by decide +kernel)
theorem tw_717 : Cond.fieldLink RX8 7 "TypedAmountsModel" "lands" "[I" ∈ lw_tbl := List.mem_of_getElem? (i := 717) (by decide +kernel)
theorem tw_718 : Cond.fieldLink RX8 13 "TypedAmountsModel" "point" "[I" ∈ lw_tbl := List.mem_of_getElem? (i := 718) (by decide +kernel)
theorem tw_719 : Cond.fieldLink RX8 16 "TypedAmountsModel" "group" "[I" ∈ lw_tbl := List.mem_of_getElem? (i := 719) (by decide +kernel)
theorem tw_720 : Cond.fieldLink RX8 19 "TypedAmountsModel" "grouping" "[I" ∈ lw_tbl := List.mem_of_getElem? (i := 720) (by decide +kernel)
theorem tw_721 : Cond.fieldLink RX8 22 "TypedAmountsModel" "minus" "[I" ∈ lw_tbl := List.mem_of_getElem? (i := 721) (by decide +kernel)
theorem tw_722 : Cond.fieldLink RX8 25 "TypedAmountsModel" "mark" "[I" ∈ lw_tbl := List.mem_of_getElem? (i := 722) (by decide +kernel)
theorem tw_804 : Cond.arrayClass .boolean ∈ lw_tbl := List.mem_of_getElem? (i := 804) (by decide +kernel)
theorem tw_723 : Cond.fieldLink RX8 28 "TypedAmountsModel" "behind" "[Z" ∈ lw_tbl := List.mem_of_getElem? (i := 723) (by decide +kernel)
theorem tw_724 : Cond.fieldLink RX8 32 "TypedAmountsModel" "order" "[I" ∈ lw_tbl := List.mem_of_getElem? (i := 724) (by decide +kernel)
theorem tw_725 : Cond.fieldLink RX8 35 "TypedAmountsModel" "daySign" "[I" ∈ lw_tbl := List.mem_of_getElem? (i := 725) (by decide +kernel)
theorem tw_726 : Cond.fieldLink RX8 38 "TypedAmountsModel" "size" "[I" ∈ lw_tbl := List.mem_of_getElem? (i := 726) (by decide +kernel)
theorem tw_727 : Cond.fieldLink RX8 41 "TypedAmountsModel" "line" "[I" ∈ lw_tbl := List.mem_of_getElem? (i := 727) (by decide +kernel)
theorem tw_728 : Cond.fieldLink RX8 44 "TypedAmountsModel" "low" "[J" ∈ lw_tbl := List.mem_of_getElem? (i := 728) (by decide +kernel)
theorem tw_729 : Cond.fieldLink RX8 48 "TypedAmountsModel" "high" "[J" ∈ lw_tbl := List.mem_of_getElem? (i := 729) (by decide +kernel)
theorem tw_730 : Cond.fieldLink RX8 51 "TypedAmountsModel" "rows" "[I" ∈ lw_tbl := List.mem_of_getElem? (i := 730) (by decide +kernel)
theorem tw_731 : Cond.fieldLink RX8 54 "TypedAmountsModel" "rowSize" "[I" ∈ lw_tbl := List.mem_of_getElem? (i := 731) (by decide +kernel)
theorem tw_607 : Cond.arrayClass .byte ∈ lw_tbl := List.mem_of_getElem? (i := 607) (by decide +kernel)
theorem tw_732 : Cond.fieldLink RX8 57 "TypedAmountsModel" "row" "[B" ∈ lw_tbl := List.mem_of_getElem? (i := 732) (by decide +kernel)
theorem tw_733 : Cond.fieldLink RX8 61 "TypedAmountsModel" "showSize" "[I" ∈ lw_tbl := List.mem_of_getElem? (i := 733) (by decide +kernel)
theorem tw_734 : Cond.fieldLink RX8 64 "TypedAmountsModel" "show" "[I" ∈ lw_tbl := List.mem_of_getElem? (i := 734) (by decide +kernel)
theorem tw_735 : Cond.fieldLink RX8 67 "TypedAmountsModel" "text" "[I" ∈ lw_tbl := List.mem_of_getElem? (i := 735) (by decide +kernel)
theorem tw_737 : Cond.fieldLink RX8 70 "TypedAmountsModel" "may" "[I" ∈ lw_tbl := List.mem_of_getElem? (i := 737) (by decide +kernel)
theorem tw_738 : Cond.fieldLink RX8 73 "TypedAmountsModel" "counts" "[I" ∈ lw_tbl := List.mem_of_getElem? (i := 738) (by decide +kernel)
theorem tw_741 : Cond.fieldLink RX8 76 "TypedAmountsModel" "made" "[I" ∈ lw_tbl := List.mem_of_getElem? (i := 741) (by decide +kernel)
theorem tw_744 : Cond.fieldLink RX8 79 "TypedAmountsModel" "has" "[Z" ∈ lw_tbl := List.mem_of_getElem? (i := 744) (by decide +kernel)
theorem tw_714 : Cond.constantLong RX8 82 (-9223372036854775808) ∈ lw_tbl := List.mem_of_getElem? (i := 714) (by decide +kernel)
theorem tw_715 : Cond.constantLong RX8 84 (9223372036854775807) ∈ lw_tbl := List.mem_of_getElem? (i := 715) (by decide +kernel)
theorem tw_1085 : Cond.code yX8_move cX8_move 5 none ∈ lw_tbl := List.mem_of_getElem? (i := 1085) (by decide +kernel)
theorem tw_58 : Cond.initialized RX8 ∈ lw_tbl := List.mem_of_getElem? (i := 58) (by decide +kernel)
theorem tw_1084 : Cond.static yX8_move ∈ lw_tbl := List.mem_of_getElem? (i := 1084) (by decide +kernel)
theorem tw_1083 : Cond.methodLink RX8 90 yX8_move ∈ lw_tbl := List.mem_of_getElem? (i := 1083) (by decide +kernel)
theorem tw_811 : Cond.code yX8_in cX8_in 3 (some .boolean) ∈ lw_tbl := List.mem_of_getElem? (i := 811) (by decide +kernel)
theorem tw_810 : Cond.static yX8_in ∈ lw_tbl := List.mem_of_getElem? (i := 810) (by decide +kernel)
theorem tw_809 : Cond.methodLink RX8 94 yX8_in ∈ lw_tbl := List.mem_of_getElem? (i := 809) (by decide +kernel)
theorem tw_716 : Cond.fieldLink RX8 86 "TypedAmountsModel" "code" "I" ∈ lw_tbl := List.mem_of_getElem? (i := 716) (by decide +kernel)
theorem tw_736 : Cond.fieldLink RX8 98 "TypedAmountsModel" "length" "I" ∈ lw_tbl := List.mem_of_getElem? (i := 736) (by decide +kernel)
theorem tw_739 : Cond.fieldLink RX8 101 "TypedAmountsModel" "places" "I" ∈ lw_tbl := List.mem_of_getElem? (i := 739) (by decide +kernel)
theorem tw_859 : Cond.code yX8_put cX8_put 3 none ∈ lw_tbl := List.mem_of_getElem? (i := 859) (by decide +kernel)
theorem tw_858 : Cond.instanceMethod yX8_put ∈ lw_tbl := List.mem_of_getElem? (i := 858) (by decide +kernel)
theorem tw_25 : Cond.selects RX8 yX8_put yX8_put ∈ lw_tbl := List.mem_of_getElem? (i := 25) (by decide +kernel)
theorem tw_856 : Cond.methodLink RX8 104 yX8_put ∈ lw_tbl := List.mem_of_getElem? (i := 856) (by decide +kernel)
theorem tw_871 : Cond.code yX8_isSignBehind cX8_isSignBehind 3 (some .boolean) ∈ lw_tbl := List.mem_of_getElem? (i := 871) (by decide +kernel)
theorem tw_870 : Cond.instanceMethod yX8_isSignBehind ∈ lw_tbl := List.mem_of_getElem? (i := 870) (by decide +kernel)
theorem tw_28 : Cond.selects RX8 yX8_isSignBehind yX8_isSignBehind ∈ lw_tbl := List.mem_of_getElem? (i := 28) (by decide +kernel)
theorem tw_868 : Cond.methodLink RX8 108 yX8_isSignBehind ∈ lw_tbl := List.mem_of_getElem? (i := 868) (by decide +kernel)
theorem tw_863 : Cond.code yX8_putMark cX8_putMark 2 none ∈ lw_tbl := List.mem_of_getElem? (i := 863) (by decide +kernel)
theorem tw_862 : Cond.instanceMethod yX8_putMark ∈ lw_tbl := List.mem_of_getElem? (i := 862) (by decide +kernel)
theorem tw_26 : Cond.selects RX8 yX8_putMark yX8_putMark ∈ lw_tbl := List.mem_of_getElem? (i := 26) (by decide +kernel)
theorem tw_860 : Cond.methodLink RX8 112 yX8_putMark ∈ lw_tbl := List.mem_of_getElem? (i := 860) (by decide +kernel)
theorem tw_867 : Cond.code yX8_putNumber cX8_putNumber 6 none ∈ lw_tbl := List.mem_of_getElem? (i := 867) (by decide +kernel)
theorem tw_866 : Cond.instanceMethod yX8_putNumber ∈ lw_tbl := List.mem_of_getElem? (i := 866) (by decide +kernel)
theorem tw_27 : Cond.selects RX8 yX8_putNumber yX8_putNumber ∈ lw_tbl := List.mem_of_getElem? (i := 27) (by decide +kernel)
theorem tw_864 : Cond.methodLink RX8 116 yX8_putNumber ∈ lw_tbl := List.mem_of_getElem? (i := 864) (by decide +kernel)
theorem tw_880 : Cond.constantLong RX8 120 (1000000) ∈ lw_tbl := List.mem_of_getElem? (i := 880) (by decide +kernel)
theorem tw_881 : Cond.constantLong RX8 122 (10) ∈ lw_tbl := List.mem_of_getElem? (i := 881) (by decide +kernel)
theorem tw_740 : Cond.fieldLink RX8 124 "TypedAmountsModel" "found" "J" ∈ lw_tbl := List.mem_of_getElem? (i := 740) (by decide +kernel)
theorem tw_855 : Cond.code yX8_putAmount cX8_putAmount 9 none ∈ lw_tbl := List.mem_of_getElem? (i := 855) (by decide +kernel)
theorem tw_854 : Cond.instanceMethod yX8_putAmount ∈ lw_tbl := List.mem_of_getElem? (i := 854) (by decide +kernel)
theorem tw_24 : Cond.selects RX8 yX8_putAmount yX8_putAmount ∈ lw_tbl := List.mem_of_getElem? (i := 24) (by decide +kernel)
theorem tw_852 : Cond.methodLink RX8 128 yX8_putAmount ∈ lw_tbl := List.mem_of_getElem? (i := 852) (by decide +kernel)
theorem tw_875 : Cond.code yX8_matched cX8_matched 4 (some .int) ∈ lw_tbl := List.mem_of_getElem? (i := 875) (by decide +kernel)
theorem tw_874 : Cond.instanceMethod yX8_matched ∈ lw_tbl := List.mem_of_getElem? (i := 874) (by decide +kernel)
theorem tw_29 : Cond.selects RX8 yX8_matched yX8_matched ∈ lw_tbl := List.mem_of_getElem? (i := 29) (by decide +kernel)
theorem tw_872 : Cond.methodLink RX8 132 yX8_matched ∈ lw_tbl := List.mem_of_getElem? (i := 872) (by decide +kernel)
theorem tw_879 : Cond.code yX8_findValue cX8_findValue 7 none ∈ lw_tbl := List.mem_of_getElem? (i := 879) (by decide +kernel)
theorem tw_878 : Cond.instanceMethod yX8_findValue ∈ lw_tbl := List.mem_of_getElem? (i := 878) (by decide +kernel)
theorem tw_30 : Cond.selects RX8 yX8_findValue yX8_findValue ∈ lw_tbl := List.mem_of_getElem? (i := 30) (by decide +kernel)
theorem tw_876 : Cond.methodLink RX8 136 yX8_findValue ∈ lw_tbl := List.mem_of_getElem? (i := 876) (by decide +kernel)
theorem tw_896 : Cond.code yX8_isLeap cX8_isLeap 1 (some .boolean) ∈ lw_tbl := List.mem_of_getElem? (i := 896) (by decide +kernel)
theorem tw_895 : Cond.static yX8_isLeap ∈ lw_tbl := List.mem_of_getElem? (i := 895) (by decide +kernel)
theorem tw_894 : Cond.methodLink RX8 140 yX8_isLeap ∈ lw_tbl := List.mem_of_getElem? (i := 894) (by decide +kernel)
theorem tw_903 : Cond.constantLong RX8 144 (365) ∈ lw_tbl := List.mem_of_getElem? (i := 903) (by decide +kernel)
theorem tw_904 : Cond.constantLong RX8 146 (4) ∈ lw_tbl := List.mem_of_getElem? (i := 904) (by decide +kernel)
theorem tw_905 : Cond.constantLong RX8 148 (100) ∈ lw_tbl := List.mem_of_getElem? (i := 905) (by decide +kernel)
theorem tw_906 : Cond.constantLong RX8 150 (400) ∈ lw_tbl := List.mem_of_getElem? (i := 906) (by decide +kernel)
theorem tw_899 : Cond.code yX8_daysOf cX8_daysOf 2 (some .int) ∈ lw_tbl := List.mem_of_getElem? (i := 899) (by decide +kernel)
theorem tw_898 : Cond.static yX8_daysOf ∈ lw_tbl := List.mem_of_getElem? (i := 898) (by decide +kernel)
theorem tw_897 : Cond.methodLink RX8 152 yX8_daysOf ∈ lw_tbl := List.mem_of_getElem? (i := 897) (by decide +kernel)
theorem tw_889 : Cond.code yX8_isSign cX8_isSign 4 (some .boolean) ∈ lw_tbl := List.mem_of_getElem? (i := 889) (by decide +kernel)
theorem tw_888 : Cond.instanceMethod yX8_isSign ∈ lw_tbl := List.mem_of_getElem? (i := 888) (by decide +kernel)
theorem tw_32 : Cond.selects RX8 yX8_isSign yX8_isSign ∈ lw_tbl := List.mem_of_getElem? (i := 32) (by decide +kernel)
theorem tw_886 : Cond.methodLink RX8 156 yX8_isSign ∈ lw_tbl := List.mem_of_getElem? (i := 886) (by decide +kernel)
theorem tw_893 : Cond.code yX8_begins cX8_begins 7 (some .boolean) ∈ lw_tbl := List.mem_of_getElem? (i := 893) (by decide +kernel)
theorem tw_892 : Cond.instanceMethod yX8_begins ∈ lw_tbl := List.mem_of_getElem? (i := 892) (by decide +kernel)
theorem tw_33 : Cond.selects RX8 yX8_begins yX8_begins ∈ lw_tbl := List.mem_of_getElem? (i := 33) (by decide +kernel)
theorem tw_890 : Cond.methodLink RX8 159 yX8_begins ∈ lw_tbl := List.mem_of_getElem? (i := 890) (by decide +kernel)
theorem tw_902 : Cond.code yX8_dayNumber cX8_dayNumber 8 (some .long) ∈ lw_tbl := List.mem_of_getElem? (i := 902) (by decide +kernel)
theorem tw_901 : Cond.static yX8_dayNumber ∈ lw_tbl := List.mem_of_getElem? (i := 901) (by decide +kernel)
theorem tw_900 : Cond.methodLink RX8 163 yX8_dayNumber ∈ lw_tbl := List.mem_of_getElem? (i := 900) (by decide +kernel)
theorem tw_851 : Cond.code yX8_amount cX8_amount 11 (some .int) ∈ lw_tbl := List.mem_of_getElem? (i := 851) (by decide +kernel)
theorem tw_850 : Cond.instanceMethod yX8_amount ∈ lw_tbl := List.mem_of_getElem? (i := 850) (by decide +kernel)
theorem tw_23 : Cond.selects RX8 yX8_amount yX8_amount ∈ lw_tbl := List.mem_of_getElem? (i := 23) (by decide +kernel)
theorem tw_848 : Cond.methodLink RX8 167 yX8_amount ∈ lw_tbl := List.mem_of_getElem? (i := 848) (by decide +kernel)
theorem tw_885 : Cond.code yX8_someDay cX8_someDay 17 (some .int) ∈ lw_tbl := List.mem_of_getElem? (i := 885) (by decide +kernel)
theorem tw_884 : Cond.instanceMethod yX8_someDay ∈ lw_tbl := List.mem_of_getElem? (i := 884) (by decide +kernel)
theorem tw_31 : Cond.selects RX8 yX8_someDay yX8_someDay ∈ lw_tbl := List.mem_of_getElem? (i := 31) (by decide +kernel)
theorem tw_882 : Cond.methodLink RX8 171 yX8_someDay ∈ lw_tbl := List.mem_of_getElem? (i := 882) (by decide +kernel)
theorem tw_847 : Cond.code yX8_held cX8_held 8 (some .int) ∈ lw_tbl := List.mem_of_getElem? (i := 847) (by decide +kernel)
theorem tw_846 : Cond.instanceMethod yX8_held ∈ lw_tbl := List.mem_of_getElem? (i := 846) (by decide +kernel)
theorem tw_22 : Cond.selects RX8 yX8_held yX8_held ∈ lw_tbl := List.mem_of_getElem? (i := 22) (by decide +kernel)
theorem tw_844 : Cond.methodLink RX8 175 yX8_held ∈ lw_tbl := List.mem_of_getElem? (i := 844) (by decide +kernel)
theorem tw_835 : Cond.code yX8_isLand cX8_isLand 2 (some .boolean) ∈ lw_tbl := List.mem_of_getElem? (i := 835) (by decide +kernel)
theorem tw_834 : Cond.instanceMethod yX8_isLand ∈ lw_tbl := List.mem_of_getElem? (i := 834) (by decide +kernel)
theorem tw_19 : Cond.selects RX8 yX8_isLand yX8_isLand ∈ lw_tbl := List.mem_of_getElem? (i := 19) (by decide +kernel)
theorem tw_832 : Cond.methodLink RX8 178 yX8_isLand ∈ lw_tbl := List.mem_of_getElem? (i := 832) (by decide +kernel)
theorem tw_839 : Cond.code yX8_lineText cX8_lineText 2 none ∈ lw_tbl := List.mem_of_getElem? (i := 839) (by decide +kernel)
theorem tw_838 : Cond.instanceMethod yX8_lineText ∈ lw_tbl := List.mem_of_getElem? (i := 838) (by decide +kernel)
theorem tw_20 : Cond.selects RX8 yX8_lineText yX8_lineText ∈ lw_tbl := List.mem_of_getElem? (i := 20) (by decide +kernel)
theorem tw_836 : Cond.methodLink RX8 181 yX8_lineText ∈ lw_tbl := List.mem_of_getElem? (i := 836) (by decide +kernel)
theorem tw_843 : Cond.code yX8_countsNow cX8_countsNow 3 (some .boolean) ∈ lw_tbl := List.mem_of_getElem? (i := 843) (by decide +kernel)
theorem tw_842 : Cond.instanceMethod yX8_countsNow ∈ lw_tbl := List.mem_of_getElem? (i := 842) (by decide +kernel)
theorem tw_21 : Cond.selects RX8 yX8_countsNow yX8_countsNow ∈ lw_tbl := List.mem_of_getElem? (i := 21) (by decide +kernel)
theorem tw_840 : Cond.methodLink RX8 184 yX8_countsNow ∈ lw_tbl := List.mem_of_getElem? (i := 840) (by decide +kernel)
theorem tw_742 : Cond.fieldLink RX8 187 "TypedAmountsModel" "makes" "I" ∈ lw_tbl := List.mem_of_getElem? (i := 742) (by decide +kernel)
theorem tw_939 : Cond.code yX8_say cX8_say 2 none ∈ lw_tbl := List.mem_of_getElem? (i := 939) (by decide +kernel)
theorem tw_938 : Cond.instanceMethod yX8_say ∈ lw_tbl := List.mem_of_getElem? (i := 938) (by decide +kernel)
theorem tw_37 : Cond.selects RX8 yX8_say yX8_say ∈ lw_tbl := List.mem_of_getElem? (i := 37) (by decide +kernel)
theorem tw_936 : Cond.methodLink RX8 190 yX8_say ∈ lw_tbl := List.mem_of_getElem? (i := 936) (by decide +kernel)
theorem tw_944 : Cond.constantLong RX8 193 (999999999999999) ∈ lw_tbl := List.mem_of_getElem? (i := 944) (by decide +kernel)
theorem tw_945 : Cond.constantLong RX8 195 (-999999999999999) ∈ lw_tbl := List.mem_of_getElem? (i := 945) (by decide +kernel)
theorem tw_946 : Cond.constantLong RX8 197 (2) ∈ lw_tbl := List.mem_of_getElem? (i := 946) (by decide +kernel)
theorem tw_950 : Cond.code yX8_sayMark cX8_sayMark 2 none ∈ lw_tbl := List.mem_of_getElem? (i := 950) (by decide +kernel)
theorem tw_949 : Cond.instanceMethod yX8_sayMark ∈ lw_tbl := List.mem_of_getElem? (i := 949) (by decide +kernel)
theorem tw_39 : Cond.selects RX8 yX8_sayMark yX8_sayMark ∈ lw_tbl := List.mem_of_getElem? (i := 39) (by decide +kernel)
theorem tw_947 : Cond.methodLink RX8 199 yX8_sayMark ∈ lw_tbl := List.mem_of_getElem? (i := 947) (by decide +kernel)
theorem tw_951 : Cond.constant RX8 202 (100000) ∈ lw_tbl := List.mem_of_getElem? (i := 951) (by decide +kernel)
theorem tw_931 : Cond.constantLong RX8 203 (366) ∈ lw_tbl := List.mem_of_getElem? (i := 931) (by decide +kernel)
theorem tw_935 : Cond.code yX8_sayDigits cX8_sayDigits 5 none ∈ lw_tbl := List.mem_of_getElem? (i := 935) (by decide +kernel)
theorem tw_934 : Cond.instanceMethod yX8_sayDigits ∈ lw_tbl := List.mem_of_getElem? (i := 934) (by decide +kernel)
theorem tw_36 : Cond.selects RX8 yX8_sayDigits yX8_sayDigits ∈ lw_tbl := List.mem_of_getElem? (i := 36) (by decide +kernel)
theorem tw_932 : Cond.methodLink RX8 205 yX8_sayDigits ∈ lw_tbl := List.mem_of_getElem? (i := 932) (by decide +kernel)
theorem tw_943 : Cond.code yX8_makeAmount cX8_makeAmount 16 (some .boolean) ∈ lw_tbl := List.mem_of_getElem? (i := 943) (by decide +kernel)
theorem tw_942 : Cond.instanceMethod yX8_makeAmount ∈ lw_tbl := List.mem_of_getElem? (i := 942) (by decide +kernel)
theorem tw_38 : Cond.selects RX8 yX8_makeAmount yX8_makeAmount ∈ lw_tbl := List.mem_of_getElem? (i := 38) (by decide +kernel)
theorem tw_940 : Cond.methodLink RX8 212 yX8_makeAmount ∈ lw_tbl := List.mem_of_getElem? (i := 940) (by decide +kernel)
theorem tw_930 : Cond.code yX8_makeDay cX8_makeDay 7 (some .boolean) ∈ lw_tbl := List.mem_of_getElem? (i := 930) (by decide +kernel)
theorem tw_929 : Cond.instanceMethod yX8_makeDay ∈ lw_tbl := List.mem_of_getElem? (i := 929) (by decide +kernel)
theorem tw_35 : Cond.selects RX8 yX8_makeDay yX8_makeDay ∈ lw_tbl := List.mem_of_getElem? (i := 35) (by decide +kernel)
theorem tw_927 : Cond.methodLink RX8 208 yX8_makeDay ∈ lw_tbl := List.mem_of_getElem? (i := 927) (by decide +kernel)
theorem tw_926 : Cond.code yX8_make cX8_make 6 (some .boolean) ∈ lw_tbl := List.mem_of_getElem? (i := 926) (by decide +kernel)
theorem tw_925 : Cond.instanceMethod yX8_make ∈ lw_tbl := List.mem_of_getElem? (i := 925) (by decide +kernel)
theorem tw_34 : Cond.selects RX8 yX8_make yX8_make ∈ lw_tbl := List.mem_of_getElem? (i := 34) (by decide +kernel)
theorem tw_923 : Cond.methodLink RX8 216 yX8_make ∈ lw_tbl := List.mem_of_getElem? (i := 923) (by decide +kernel)
theorem tw_955 : Cond.code yX8_keep cX8_keep 2 (some .int) ∈ lw_tbl := List.mem_of_getElem? (i := 955) (by decide +kernel)
theorem tw_954 : Cond.instanceMethod yX8_keep ∈ lw_tbl := List.mem_of_getElem? (i := 954) (by decide +kernel)
theorem tw_40 : Cond.selects RX8 yX8_keep yX8_keep ∈ lw_tbl := List.mem_of_getElem? (i := 40) (by decide +kernel)
theorem tw_952 : Cond.methodLink RX8 219 yX8_keep ∈ lw_tbl := List.mem_of_getElem? (i := 952) (by decide +kernel)
theorem tw_970 : Cond.constantLong RX8 223 (255) ∈ lw_tbl := List.mem_of_getElem? (i := 970) (by decide +kernel)
theorem tw_981 : Cond.constantLong RX8 225 (7302757) ∈ lw_tbl := List.mem_of_getElem? (i := 981) (by decide +kernel)
theorem tw_969 : Cond.code yX8_sayWord cX8_sayWord 5 none ∈ lw_tbl := List.mem_of_getElem? (i := 969) (by decide +kernel)
theorem tw_968 : Cond.instanceMethod yX8_sayWord ∈ lw_tbl := List.mem_of_getElem? (i := 968) (by decide +kernel)
theorem tw_42 : Cond.selects RX8 yX8_sayWord yX8_sayWord ∈ lw_tbl := List.mem_of_getElem? (i := 42) (by decide +kernel)
theorem tw_966 : Cond.methodLink RX8 227 yX8_sayWord ∈ lw_tbl := List.mem_of_getElem? (i := 966) (by decide +kernel)
theorem tw_982 : Cond.constantLong RX8 231 (7632751) ∈ lw_tbl := List.mem_of_getElem? (i := 982) (by decide +kernel)
theorem tw_983 : Cond.constantLong RX8 233 (499968533861) ∈ lw_tbl := List.mem_of_getElem? (i := 983) (by decide +kernel)
theorem tw_984 : Cond.constantLong RX8 235 (1718580594) ∈ lw_tbl := List.mem_of_getElem? (i := 984) (by decide +kernel)
theorem tw_985 : Cond.constantLong RX8 237 (1718187621) ∈ lw_tbl := List.mem_of_getElem? (i := 985) (by decide +kernel)
theorem tw_986 : Cond.constantLong RX8 239 (7563640) ∈ lw_tbl := List.mem_of_getElem? (i := 986) (by decide +kernel)
theorem tw_987 : Cond.constantLong RX8 241 (495623497070) ∈ lw_tbl := List.mem_of_getElem? (i := 987) (by decide +kernel)
theorem tw_988 : Cond.constantLong RX8 243 (435560081524) ∈ lw_tbl := List.mem_of_getElem? (i := 988) (by decide +kernel)
theorem tw_989 : Cond.constantLong RX8 245 (1852403301) ∈ lw_tbl := List.mem_of_getElem? (i := 989) (by decide +kernel)
theorem tw_990 : Cond.constantLong RX8 247 (7628142) ∈ lw_tbl := List.mem_of_getElem? (i := 990) (by decide +kernel)
theorem tw_991 : Cond.constantLong RX8 249 (111516233131374) ∈ lw_tbl := List.mem_of_getElem? (i := 991) (by decide +kernel)
theorem tw_992 : Cond.constantLong RX8 251 (128056151537253) ∈ lw_tbl := List.mem_of_getElem? (i := 992) (by decide +kernel)
theorem tw_993 : Cond.constantLong RX8 253 (8388070246277539182) ∈ lw_tbl := List.mem_of_getElem? (i := 993) (by decide +kernel)
theorem tw_994 : Cond.constantLong RX8 255 (7381247448723055982) ∈ lw_tbl := List.mem_of_getElem? (i := 994) (by decide +kernel)
theorem tw_995 : Cond.constantLong RX8 257 (28826336384869742) ∈ lw_tbl := List.mem_of_getElem? (i := 995) (by decide +kernel)
theorem tw_996 : Cond.constantLong RX8 259 (32485588391519598) ∈ lw_tbl := List.mem_of_getElem? (i := 996) (by decide +kernel)
theorem tw_997 : Cond.constantLong RX8 261 (8315182465026385253) ∈ lw_tbl := List.mem_of_getElem? (i := 997) (by decide +kernel)
theorem tw_998 : Cond.constantLong RX8 263 (7307485568712402286) ∈ lw_tbl := List.mem_of_getElem? (i := 998) (by decide +kernel)
theorem tw_999 : Cond.constantLong RX8 265 (7956011598750246254) ∈ lw_tbl := List.mem_of_getElem? (i := 999) (by decide +kernel)
theorem tw_1005 : Cond.constantLong RX8 267 (128056151667833) ∈ lw_tbl := List.mem_of_getElem? (i := 1005) (by decide +kernel)
theorem tw_1006 : Cond.constantLong RX8 269 (127991794529401) ∈ lw_tbl := List.mem_of_getElem? (i := 1006) (by decide +kernel)
theorem tw_1007 : Cond.constantLong RX8 271 (439956436089) ∈ lw_tbl := List.mem_of_getElem? (i := 1007) (by decide +kernel)
theorem tw_1008 : Cond.constantLong RX8 273 (439854986361) ∈ lw_tbl := List.mem_of_getElem? (i := 1008) (by decide +kernel)
theorem tw_1009 : Cond.constantLong RX8 275 (495690740857) ∈ lw_tbl := List.mem_of_getElem? (i := 1009) (by decide +kernel)
theorem tw_1010 : Cond.constantLong RX8 277 (32481181504009337) ∈ lw_tbl := List.mem_of_getElem? (i := 1010) (by decide +kernel)
theorem tw_1011 : Cond.constantLong RX8 279 (111503380870265) ∈ lw_tbl := List.mem_of_getElem? (i := 1011) (by decide +kernel)
theorem tw_1012 : Cond.constantLong RX8 281 (121399102764153) ∈ lw_tbl := List.mem_of_getElem? (i := 1012) (by decide +kernel)
theorem tw_980 : Cond.code yX8_sayBelow20 cX8_sayBelow20 2 none ∈ lw_tbl := List.mem_of_getElem? (i := 980) (by decide +kernel)
theorem tw_979 : Cond.instanceMethod yX8_sayBelow20 ∈ lw_tbl := List.mem_of_getElem? (i := 979) (by decide +kernel)
theorem tw_44 : Cond.selects RX8 yX8_sayBelow20 yX8_sayBelow20 ∈ lw_tbl := List.mem_of_getElem? (i := 44) (by decide +kernel)
theorem tw_977 : Cond.methodLink RX8 283 yX8_sayBelow20 ∈ lw_tbl := List.mem_of_getElem? (i := 977) (by decide +kernel)
theorem tw_1000 : Cond.constantLong RX8 286 (29402514569979236) ∈ lw_tbl := List.mem_of_getElem? (i := 1000) (by decide +kernel)
theorem tw_1004 : Cond.code yX8_sayTens cX8_sayTens 2 none ∈ lw_tbl := List.mem_of_getElem? (i := 1004) (by decide +kernel)
theorem tw_1003 : Cond.instanceMethod yX8_sayTens ∈ lw_tbl := List.mem_of_getElem? (i := 1003) (by decide +kernel)
theorem tw_45 : Cond.selects RX8 yX8_sayTens yX8_sayTens ∈ lw_tbl := List.mem_of_getElem? (i := 45) (by decide +kernel)
theorem tw_1001 : Cond.methodLink RX8 288 yX8_sayTens ∈ lw_tbl := List.mem_of_getElem? (i := 1001) (by decide +kernel)
theorem tw_965 : Cond.constantLong RX8 291 (2053468783) ∈ lw_tbl := List.mem_of_getElem? (i := 965) (by decide +kernel)
theorem tw_971 : Cond.constant RX8 293 (999999) ∈ lw_tbl := List.mem_of_getElem? (i := 971) (by decide +kernel)
theorem tw_972 : Cond.constant RX8 294 (1000000) ∈ lw_tbl := List.mem_of_getElem? (i := 972) (by decide +kernel)
theorem tw_976 : Cond.code yX8_sayBelow1000 cX8_sayBelow1000 3 none ∈ lw_tbl := List.mem_of_getElem? (i := 976) (by decide +kernel)
theorem tw_975 : Cond.instanceMethod yX8_sayBelow1000 ∈ lw_tbl := List.mem_of_getElem? (i := 975) (by decide +kernel)
theorem tw_43 : Cond.selects RX8 yX8_sayBelow1000 yX8_sayBelow1000 ∈ lw_tbl := List.mem_of_getElem? (i := 43) (by decide +kernel)
theorem tw_973 : Cond.methodLink RX8 295 yX8_sayBelow1000 ∈ lw_tbl := List.mem_of_getElem? (i := 973) (by decide +kernel)
theorem tw_1013 : Cond.constantLong RX8 298 (30796686857695086) ∈ lw_tbl := List.mem_of_getElem? (i := 1013) (by decide +kernel)
theorem tw_1014 : Cond.constantLong RX8 300 (8388076856215170660) ∈ lw_tbl := List.mem_of_getElem? (i := 1014) (by decide +kernel)
theorem tw_960 : Cond.constant RX8 302 (999999999) ∈ lw_tbl := List.mem_of_getElem? (i := 960) (by decide +kernel)
theorem tw_964 : Cond.code yX8_makeWords cX8_makeWords 2 none ∈ lw_tbl := List.mem_of_getElem? (i := 964) (by decide +kernel)
theorem tw_963 : Cond.instanceMethod yX8_makeWords ∈ lw_tbl := List.mem_of_getElem? (i := 963) (by decide +kernel)
theorem tw_41 : Cond.selects RX8 yX8_makeWords yX8_makeWords ∈ lw_tbl := List.mem_of_getElem? (i := 41) (by decide +kernel)
theorem tw_961 : Cond.methodLink RX8 303 yX8_makeWords ∈ lw_tbl := List.mem_of_getElem? (i := 961) (by decide +kernel)
theorem tw_743 : Cond.fieldLink RX8 309 "TypedAmountsModel" "ends" "I" ∈ lw_tbl := List.mem_of_getElem? (i := 743) (by decide +kernel)
theorem tw_1034 : Cond.code yX8_isAt cX8_isAt 3 (some .boolean) ∈ lw_tbl := List.mem_of_getElem? (i := 1034) (by decide +kernel)
theorem tw_1033 : Cond.instanceMethod yX8_isAt ∈ lw_tbl := List.mem_of_getElem? (i := 1033) (by decide +kernel)
theorem tw_47 : Cond.selects RX8 yX8_isAt yX8_isAt ∈ lw_tbl := List.mem_of_getElem? (i := 47) (by decide +kernel)
theorem tw_1031 : Cond.methodLink RX8 306 yX8_isAt ∈ lw_tbl := List.mem_of_getElem? (i := 1031) (by decide +kernel)
theorem tw_1030 : Cond.code yX8_below1000At cX8_below1000At 5 (some .int) ∈ lw_tbl := List.mem_of_getElem? (i := 1030) (by decide +kernel)
theorem tw_1029 : Cond.instanceMethod yX8_below1000At ∈ lw_tbl := List.mem_of_getElem? (i := 1029) (by decide +kernel)
theorem tw_46 : Cond.selects RX8 yX8_below1000At yX8_below1000At ∈ lw_tbl := List.mem_of_getElem? (i := 46) (by decide +kernel)
theorem tw_1027 : Cond.methodLink RX8 312 yX8_below1000At ∈ lw_tbl := List.mem_of_getElem? (i := 1027) (by decide +kernel)
theorem tw_1038 : Cond.code yX8_wordAt cX8_wordAt 4 (some .boolean) ∈ lw_tbl := List.mem_of_getElem? (i := 1038) (by decide +kernel)
theorem tw_1037 : Cond.instanceMethod yX8_wordAt ∈ lw_tbl := List.mem_of_getElem? (i := 1037) (by decide +kernel)
theorem tw_48 : Cond.selects RX8 yX8_wordAt yX8_wordAt ∈ lw_tbl := List.mem_of_getElem? (i := 48) (by decide +kernel)
theorem tw_1035 : Cond.methodLink RX8 315 yX8_wordAt ∈ lw_tbl := List.mem_of_getElem? (i := 1035) (by decide +kernel)
theorem tw_1062 : Cond.code yX8_rowText cX8_rowText 3 none ∈ lw_tbl := List.mem_of_getElem? (i := 1062) (by decide +kernel)
theorem tw_1061 : Cond.instanceMethod yX8_rowText ∈ lw_tbl := List.mem_of_getElem? (i := 1061) (by decide +kernel)
theorem tw_50 : Cond.selects RX8 yX8_rowText yX8_rowText ∈ lw_tbl := List.mem_of_getElem? (i := 50) (by decide +kernel)
theorem tw_1059 : Cond.methodLink RX8 318 yX8_rowText ∈ lw_tbl := List.mem_of_getElem? (i := 1059) (by decide +kernel)
theorem tw_1058 : Cond.code yX8_firstMisfit cX8_firstMisfit 4 (some .int) ∈ lw_tbl := List.mem_of_getElem? (i := 1058) (by decide +kernel)
theorem tw_1057 : Cond.instanceMethod yX8_firstMisfit ∈ lw_tbl := List.mem_of_getElem? (i := 1057) (by decide +kernel)
theorem tw_49 : Cond.selects RX8 yX8_firstMisfit yX8_firstMisfit ∈ lw_tbl := List.mem_of_getElem? (i := 49) (by decide +kernel)
theorem tw_1055 : Cond.methodLink RX8 321 yX8_firstMisfit ∈ lw_tbl := List.mem_of_getElem? (i := 1055) (by decide +kernel)
theorem tw_1082 : Cond.code yX8_copy cX8_copy 4 none ∈ lw_tbl := List.mem_of_getElem? (i := 1082) (by decide +kernel)
theorem tw_1081 : Cond.instanceMethod yX8_copy ∈ lw_tbl := List.mem_of_getElem? (i := 1081) (by decide +kernel)
theorem tw_51 : Cond.selects RX8 yX8_copy yX8_copy ∈ lw_tbl := List.mem_of_getElem? (i := 51) (by decide +kernel)
theorem tw_1079 : Cond.methodLink RX8 324 yX8_copy ∈ lw_tbl := List.mem_of_getElem? (i := 1079) (by decide +kernel)
end
section
def rmI (x y : Int32) : Int32 := x - x / y * y
def rmL (x y : Int64) : Int64 := x - x / y * y
section PREL
variable {κ : KT} {μ : MD} {cells slots pc pc' : Nat} {lv lv' : List (Nat × Value)} {st : List Value} {M : Mem}
theorem g_irem2 {x y : Int32} (O : OkK κ μ) (hd : decode μ.1 pc = .ok (.irem, 1)) (hne : ¬ y = 0) (hp : pc + 1 = pc') (k : G κ μ cells slots pc' lv (.int (rmI x y) :: st) M) : G κ μ cells slots pc lv (.int y :: .int x :: st) M := g_irem O hd hne hp k
theorem g_lrem2 {x y : Int64} (O : OkK κ μ) (hd : decode μ.1 pc = .ok (.lrem, 1)) (hne : ¬ y = 0) (hp : pc + 1 = pc') (k : G κ μ cells slots pc' lv (.long (rmL x y) :: st) M) : G κ μ cells slots pc lv (.long y :: .long x :: st) M := g_lrem O hd hne hp k
end PREL
theorem Cn.ofF {l : Launch} {y : MethodName} {μ : MD} {args : List Value} {M : Mem} {r : Option Value} {M' : Mem} (lv : List (Nat × Value)) (hy : plainFor y = true) (hown : y.cls = μ.2.2.1) (hnm : y.name = μ.2.2.2.2.2) (hlen : (lg_sl args).length ≤ μ.2.1) (hlv : lv_args 0 args = lv)
    (body : ∀ κ : KT, κ.2.1 = l → κ.2.2.2.2.2.2.2.2.2.2.2.2.2 = (r, M') → OkK κ μ → G κ μ 0 0 0 lv [] M) : Cn l y μ args M r M' := by
  intro z D ca
  obtain ⟨cc, nL, own, ret, R, nm⟩ := μ
  refine va_MetF (cc := cc) (maxL := nL) (ret := ret) hy rfl ?_
  intro p e s m args' below meth c s₁ B hml hv
  obtain ⟨rfl, hz, hn, hP, hK, hR⟩ := hv
  have hts := atoms_spec (ws := Cond.code y cc nL ret :: gT) B.pre
  have hl := lv_entry args (n := nL) hlen
  rw [hlv] at hl
  rw [lg_entry_eq]
  exact body (p, l, e, s, m, args.toArray, below, meth, c, z, D, ca, M.2.2, r, M') rfl rfl ⟨B.exec, B.bytes, hml, by have h := findClass_of_methodNamed B.named; rw [hown] at h; exact h, fun w hw hg => hts w (List.mem_cons_of_mem _ (List.mem_filter.mpr ⟨hw, hg⟩)), B.notSynchronized, B.returns, (name_of_methodNamed B.named B.method).1.trans hnm, hK, hR, hz⟩ s.heap _ [] hn rfl hP va_S.rf hl
def dzI (y : Int32) : Option Unit := if y = 0 then none else some ()
def dzL (y : Int64) : Option Unit := if y = 0 then none else some ()
theorem dzI_ne {y : Int32} {u : Unit} (h : dzI y = some u) : ¬ y = 0 := by
  intro q
  rw [dzI, if_pos q] at h
  cases h
theorem dzL_ne {y : Int64} {u : Unit} (h : dzL y = some u) : ¬ y = 0 := by
  intro q
  rw [dzL, if_pos q] at h
  cases h
theorem ip {α : Type} {c : Prop} [Decidable c] {a b r : α} (hc : c) (h : (if c then a else b) = r) : a = r := by
  rw [if_pos hc] at h
  exact h
theorem ine {α : Type} {c : Prop} [Decidable c] {a b r : α} (hc : ¬ c) (h : (if c then a else b) = r) : b = r := by
  rw [if_neg hc] at h
  exact h
theorem oe_none {α β : Type} {o : Option α} {A r : β} {f : α → β} (ho : o = none) (h : Option.elim o A f = r) : A = r := by
  subst ho
  exact h
theorem oe_some {α β : Type} {o : Option α} {a : α} {A r : β} {f : α → β} (ho : o = some a) (h : Option.elim o A f = r) : f a = r := by
  subst ho
  exact h
end
section
abbrev mX0_isLeap : MD := (cX0_isLeap, 1, RX0, (some .boolean), { frames := 0, cells := 0, slots := 0, locals := 0 }, "isLeap")
theorem hyX0_isLeap : yX0_isLeap.cls ≠ "java/lang/invoke/MethodHandle" ∧ yX0_isLeap.cls ≠ "java/lang/invoke/VarHandle" ∧ (parseMethodDescriptor yX0_isLeap.desc).map (fun d => d.parameters.length) = some 1 := by decide +kernel
def fX0_isLeap_26  (s0 : Int32) (M : Mem) : Option (Int32 × Mem) :=
  (nz s0).bind fun z1 =>
  some (z1, M)
set_option maxHeartbeats 4000000 in
set_option maxRecDepth 100000 in
theorem tX0_isLeap_26 {κ : KT} {p : Int32 × Mem} (O : OkK κ mX0_isLeap) (hf : κ.2.2.2.2.2.2.2.2.2.2.2.2.2 = (some (.int p.1), p.2))  {s0 : Int32} {M : Mem} (h : fX0_isLeap_26  s0 M = some p) : G κ mX0_isLeap 0 0 26 [] [.int s0] M := by
  unfold fX0_isLeap_26 at h
  obtain ⟨z1, ez1, h⟩ := ob h
  obtain ⟨hz1, ez1b⟩ := nz_spec ez1
  rw [← ez1b] at hz1 ⊢
  cases h
  exact g_ireturn O dX0_isLeap_26 rfl (nz_nar hz1) hf (by decide) (by decide)
def fX0_isLeap_21  (M : Mem) : Option (Int32 × Mem) :=
  fX0_isLeap_26 (1 : Int32) M
set_option maxHeartbeats 4000000 in
set_option maxRecDepth 100000 in
theorem tX0_isLeap_21 {κ : KT} {p : Int32 × Mem} (O : OkK κ mX0_isLeap) (hf : κ.2.2.2.2.2.2.2.2.2.2.2.2.2 = (some (.int p.1), p.2))  {M : Mem} (h : fX0_isLeap_21  M = some p) : G κ mX0_isLeap 0 0 21 [] [] M := by
  unfold fX0_isLeap_21 at h
  refine g_iconst (v := 1) (pc' := 22) O dX0_isLeap_21 (by decide) rfl ?_
  refine g_goto (pc' := 26) O dX0_isLeap_22 (by decide) ?_
  exact tX0_isLeap_26 O hf h
def fX0_isLeap_13  (x0 : Int32) (M : Mem) : Option (Int32 × Mem) :=
  if (rmI x0 (400 : Int32)) = 0 then (fX0_isLeap_21 M)
  else (fX0_isLeap_26 (0 : Int32) M)
set_option maxHeartbeats 4000000 in
set_option maxRecDepth 100000 in
theorem tX0_isLeap_13 {κ : KT} {p : Int32 × Mem} (O : OkK κ mX0_isLeap) (hf : κ.2.2.2.2.2.2.2.2.2.2.2.2.2 = (some (.int p.1), p.2))  {x0 : Int32} {M : Mem} (h : fX0_isLeap_13  x0 M = some p) : G κ mX0_isLeap 0 0 13 [(0, .int x0)] [] M := by
  unfold fX0_isLeap_13 at h
  refine g_iload_n (pc' := 14) 0 O dX0_isLeap_13 rfl rfl rfl ?_
  refine g_sipush (v := 400) (pc' := 17) O dX0_isLeap_14 (by decide) rfl ?_
  refine g_irem2 (pc' := 18) O dX0_isLeap_17 (by decide) rfl ?_
  refine g_if_ne (tgt := 25) (pc' := 21) O dX0_isLeap_18 (by decide) rfl (fun hc => ?_) (fun hc => ?_)
  · replace h := ine hc h
    refine g_iconst (v := 0) (pc' := 26) O dX0_isLeap_25 (by decide) rfl ?_
    refine g_sub (lv' := []) [] rfl ?_
    exact tX0_isLeap_26 O hf h
  · replace h := ip hc h
    refine g_sub (lv' := []) [] rfl ?_
    exact tX0_isLeap_21 O hf h
def fX0_isLeap  (p0 : Int32) (M : Mem) : Option (Int32 × Mem) :=
  if (rmI p0 (4 : Int32)) = 0 then (if (rmI p0 (100 : Int32)) = 0 then (fX0_isLeap_13 p0 M)
  else (fX0_isLeap_21 M))
  else (fX0_isLeap_13 p0 M)
set_option maxHeartbeats 4000000 in
set_option maxRecDepth 100000 in
theorem okX0_isLeap {l : Launch} {p : Int32 × Mem} {p0 : Int32} {M : Mem} (h : fX0_isLeap p0 M = some p) : Cn l yX0_isLeap mX0_isLeap [.int p0] M (some (.int p.1)) p.2 := by
  refine Cn.of [(0, .int p0)] (by decide) rfl rfl (Nat.le_of_ble_eq_true rfl) rfl (fun κ _ hf O => ?_)
  unfold fX0_isLeap at h
  refine g_iload_n (pc' := 1) 0 O dX0_isLeap_0 rfl rfl rfl ?_
  refine g_iconst (v := 4) (pc' := 2) O dX0_isLeap_1 (by decide) rfl ?_
  refine g_irem2 (pc' := 3) O dX0_isLeap_2 (by decide) rfl ?_
  refine g_if_ne (tgt := 13) (pc' := 6) O dX0_isLeap_3 (by decide) rfl (fun hc => ?_) (fun hc => ?_)
  · replace h := ine hc h
    exact tX0_isLeap_13 O hf h
  · replace h := ip hc h
    refine g_iload_n (pc' := 7) 0 O dX0_isLeap_6 rfl rfl rfl ?_
    refine g_bipush (v := 100) (pc' := 9) O dX0_isLeap_7 (by decide) rfl ?_
    refine g_irem2 (pc' := 10) O dX0_isLeap_9 (by decide) rfl ?_
    refine g_if_ne (tgt := 21) (pc' := 13) O dX0_isLeap_10 (by decide) rfl (fun hc => ?_) (fun hc => ?_)
    · replace h := ine hc h
      refine g_sub (lv' := []) [] rfl ?_
      exact tX0_isLeap_21 O hf h
    · replace h := ip hc h
      exact tX0_isLeap_13 O hf h
abbrev mX0_lengthOf : MD := (cX0_lengthOf, 2, RX0, (some .int), { frames := 0, cells := 0, slots := 0, locals := 0 }, "lengthOf")
theorem hyX0_lengthOf : yX0_lengthOf.cls ≠ "java/lang/invoke/MethodHandle" ∧ yX0_lengthOf.cls ≠ "java/lang/invoke/VarHandle" ∧ (parseMethodDescriptor yX0_lengthOf.desc).map (fun d => d.parameters.length) = some 2 := by decide +kernel
def fX0_lengthOf_36  (s0 : Int32) (M : Mem) : Option (Int32 × Mem) :=
  some (s0, M)
set_option maxHeartbeats 4000000 in
set_option maxRecDepth 100000 in
theorem tX0_lengthOf_36 {κ : KT} {p : Int32 × Mem} (O : OkK κ mX0_lengthOf) (hf : κ.2.2.2.2.2.2.2.2.2.2.2.2.2 = (some (.int p.1), p.2))  {s0 : Int32} {M : Mem} (h : fX0_lengthOf_36  s0 M = some p) : G κ mX0_lengthOf 0 0 36 [] [.int s0] M := by
  unfold fX0_lengthOf_36 at h
  cases h
  exact g_ireturn O dX0_lengthOf_36 rfl rfl hf (by decide) (by decide)
def fX0_lengthOf_29  (x0 : Int32) (M : Mem) : Option (Int32 × Mem) :=
  (kA M .int (M.2.2.1 0) (x0 - (1 : Int32))).bind fun v1 =>
  fX0_lengthOf_36 v1 M
set_option maxHeartbeats 4000000 in
set_option maxRecDepth 100000 in
theorem tX0_lengthOf_29 {κ : KT} {p : Int32 × Mem} (O : OkK κ mX0_lengthOf) (hf : κ.2.2.2.2.2.2.2.2.2.2.2.2.2 = (some (.int p.1), p.2))  {x0 : Int32} {M : Mem} (h : fX0_lengthOf_29  x0 M = some p) : G κ mX0_lengthOf 0 0 29 [(0, .int x0)] [] M := by
  unfold fX0_lengthOf_29 at h
  refine g_getS0 (pc' := 32) O dX0_lengthOf_29 tw_362 rfl ?_
  refine g_iload_n (pc' := 33) 0 O dX0_lengthOf_32 rfl rfl rfl ?_
  refine g_iconst (v := 1) (pc' := 34) O dX0_lengthOf_33 (by decide) rfl ?_
  refine g_isub (pc' := 35) O dX0_lengthOf_34 rfl ?_
  obtain ⟨v1, ev1, h⟩ := ob h
  refine g_kiald (pc' := 36) O dX0_lengthOf_35 ev1 rfl ?_
  refine g_sub (lv' := []) [] rfl ?_
  exact tX0_lengthOf_36 O hf h
def fX0_lengthOf_13  (M : Mem) : Option (Int32 × Mem) :=
  some ((0 : Int32), M)
set_option maxHeartbeats 4000000 in
set_option maxRecDepth 100000 in
theorem tX0_lengthOf_13 {κ : KT} {p : Int32 × Mem} (O : OkK κ mX0_lengthOf) (hf : κ.2.2.2.2.2.2.2.2.2.2.2.2.2 = (some (.int p.1), p.2))  {M : Mem} (h : fX0_lengthOf_13  M = some p) : G κ mX0_lengthOf 0 0 13 [] [] M := by
  unfold fX0_lengthOf_13 at h
  refine g_iconst (v := 0) (pc' := 14) O dX0_lengthOf_13 (by decide) rfl ?_
  cases h
  exact g_ireturn O dX0_lengthOf_14 rfl rfl hf (by decide) (by decide)
def fX0_lengthOf  (p0 : Int32) (p1 : Int32) (M : Mem) : Option (Int32 × Mem) :=
  if p0 < (1 : Int32) then (fX0_lengthOf_13 M)
  else ((kN M (M.2.2.1 0)).bind fun v1 =>
  if p0 ≤ v1 then (if p0 = (2 : Int32) then (if p1 = 0 then (fX0_lengthOf_29 p0 M)
  else (fX0_lengthOf_36 (29 : Int32) M))
  else (fX0_lengthOf_29 p0 M))
  else (fX0_lengthOf_13 M))
set_option maxHeartbeats 4000000 in
set_option maxRecDepth 100000 in
theorem okX0_lengthOf {l : Launch} {p : Int32 × Mem} {p0 : Int32} {p1 : Int32} {M : Mem} (h : fX0_lengthOf p0 p1 M = some p) : Cn l yX0_lengthOf mX0_lengthOf [.int p0, .int p1] M (some (.int p.1)) p.2 := by
  refine Cn.of [(0, .int p0), (1, .int p1)] (by decide) rfl rfl (Nat.le_of_ble_eq_true rfl) rfl (fun κ _ hf O => ?_)
  unfold fX0_lengthOf at h
  refine g_iload_n (pc' := 1) 0 O dX0_lengthOf_0 rfl rfl rfl ?_
  refine g_iconst (v := 1) (pc' := 2) O dX0_lengthOf_1 (by decide) rfl ?_
  refine g_icmp_lt (tgt := 13) (pc' := 5) O dX0_lengthOf_2 (by decide) rfl (fun hc => ?_) (fun hc => ?_)
  · replace h := ip hc h
    refine g_sub (lv' := []) [] rfl ?_
    exact tX0_lengthOf_13 O hf h
  · replace h := ine hc h
    refine g_iload_n (pc' := 6) 0 O dX0_lengthOf_5 rfl rfl rfl ?_
    refine g_getS0 (pc' := 9) O dX0_lengthOf_6 tw_362 rfl ?_
    obtain ⟨v1, ev1, h⟩ := ob h
    refine g_kalen (pc' := 10) O dX0_lengthOf_9 ev1 rfl ?_
    refine g_icmp_le (tgt := 15) (pc' := 13) O dX0_lengthOf_10 (by decide) rfl (fun hc => ?_) (fun hc => ?_)
    · replace h := ip hc h
      refine g_iload_n (pc' := 16) 0 O dX0_lengthOf_15 rfl rfl rfl ?_
      refine g_iconst (v := 2) (pc' := 17) O dX0_lengthOf_16 (by decide) rfl ?_
      refine g_icmp_ne (tgt := 29) (pc' := 20) O dX0_lengthOf_17 (by decide) rfl (fun hc => ?_) (fun hc => ?_)
      · replace h := ine hc h
        refine g_sub (lv' := [(0, .int p0)]) [0] rfl ?_
        exact tX0_lengthOf_29 O hf h
      · replace h := ip hc h
        refine g_iload_n (pc' := 21) 1 O dX0_lengthOf_20 rfl rfl rfl ?_
        refine g_if_eq (tgt := 29) (pc' := 24) O dX0_lengthOf_21 (by decide) rfl (fun hc => ?_) (fun hc => ?_)
        · replace h := ip hc h
          refine g_sub (lv' := [(0, .int p0)]) [0] rfl ?_
          exact tX0_lengthOf_29 O hf h
        · replace h := ine hc h
          refine g_bipush (v := 29) (pc' := 26) O dX0_lengthOf_24 (by decide) rfl ?_
          refine g_goto (pc' := 36) O dX0_lengthOf_26 (by decide) ?_
          refine g_sub (lv' := []) [] rfl ?_
          exact tX0_lengthOf_36 O hf h
    · replace h := ine hc h
      refine g_sub (lv' := []) [] rfl ?_
      exact tX0_lengthOf_13 O hf h
abbrev mX0_isDay : MD := (cX0_isDay, 3, RX0, (some .boolean), { frames := 1, cells := 0, slots := 0, locals := 21 }, "isDay")
theorem hyX0_isDay : yX0_isDay.cls ≠ "java/lang/invoke/MethodHandle" ∧ yX0_isDay.cls ≠ "java/lang/invoke/VarHandle" ∧ (parseMethodDescriptor yX0_isDay.desc).map (fun d => d.parameters.length) = some 3 := by decide +kernel
def fX0_isDay_34  (s0 : Int32) (M : Mem) : Option (Int32 × Mem) :=
  (nz s0).bind fun z1 =>
  some (z1, M)
set_option maxHeartbeats 4000000 in
set_option maxRecDepth 100000 in
theorem tX0_isDay_34 {κ : KT} {p : Int32 × Mem} (O : OkK κ mX0_isDay) (hf : κ.2.2.2.2.2.2.2.2.2.2.2.2.2 = (some (.int p.1), p.2))  {s0 : Int32} {M : Mem} (h : fX0_isDay_34  s0 M = some p) : G κ mX0_isDay 0 0 34 [] [.int s0] M := by
  unfold fX0_isDay_34 at h
  obtain ⟨z1, ez1, h⟩ := ob h
  obtain ⟨hz1, ez1b⟩ := nz_spec ez1
  rw [← ez1b] at hz1 ⊢
  cases h
  exact g_ireturn O dX0_isDay_34 rfl (nz_nar hz1) hf (by decide) (by decide)
def fX0_isDay_33  (M : Mem) : Option (Int32 × Mem) :=
  fX0_isDay_34 (0 : Int32) M
set_option maxHeartbeats 4000000 in
set_option maxRecDepth 100000 in
theorem tX0_isDay_33 {κ : KT} {p : Int32 × Mem} (O : OkK κ mX0_isDay) (hf : κ.2.2.2.2.2.2.2.2.2.2.2.2.2 = (some (.int p.1), p.2))  {M : Mem} (h : fX0_isDay_33  M = some p) : G κ mX0_isDay 0 0 33 [] [] M := by
  unfold fX0_isDay_33 at h
  refine g_iconst (v := 0) (pc' := 34) O dX0_isDay_33 (by decide) rfl ?_
  exact tX0_isDay_34 O hf h
def fX0_isDay  (p0 : Int32) (p1 : Int32) (p2 : Int32) (M : Mem) : Option (Int32 × Mem) :=
  if p0 < (1 : Int32) then (fX0_isDay_33 M)
  else (if (9999 : Int32) < p0 then (fX0_isDay_33 M)
  else (if p2 < (1 : Int32) then (fX0_isDay_33 M)
  else ((fX0_isLeap p0 M).bind fun r1 =>
  (fX0_lengthOf p1 r1.1 r1.2).bind fun r2 =>
  if r2.1 < p2 then (fX0_isDay_33 r2.2)
  else (fX0_isDay_34 (1 : Int32) r2.2))))
set_option maxHeartbeats 4000000 in
set_option maxRecDepth 100000 in
theorem okX0_isDay {l : Launch} {p : Int32 × Mem} {p0 : Int32} {p1 : Int32} {p2 : Int32} {M : Mem} (h : fX0_isDay p0 p1 p2 M = some p) : Cn l yX0_isDay mX0_isDay [.int p0, .int p1, .int p2] M (some (.int p.1)) p.2 := by
  refine Cn.of [(0, .int p0), (1, .int p1), (2, .int p2)] (by decide) rfl rfl (Nat.le_of_ble_eq_true rfl) rfl (fun κ _ hf O => ?_)
  unfold fX0_isDay at h
  refine g_iload_n (pc' := 1) 0 O dX0_isDay_0 rfl rfl rfl ?_
  refine g_iconst (v := 1) (pc' := 2) O dX0_isDay_1 (by decide) rfl ?_
  refine g_icmp_lt (tgt := 33) (pc' := 5) O dX0_isDay_2 (by decide) rfl (fun hc => ?_) (fun hc => ?_)
  · replace h := ip hc h
    refine g_sub (lv' := []) [] rfl ?_
    exact tX0_isDay_33 O hf h
  · replace h := ine hc h
    refine g_iload_n (pc' := 6) 0 O dX0_isDay_5 rfl rfl rfl ?_
    refine g_sipush (v := 9999) (pc' := 9) O dX0_isDay_6 (by decide) rfl ?_
    refine g_icmp_gt (tgt := 33) (pc' := 12) O dX0_isDay_9 (by decide) rfl (fun hc => ?_) (fun hc => ?_)
    · replace h := ip hc h
      refine g_sub (lv' := []) [] rfl ?_
      exact tX0_isDay_33 O hf h
    · replace h := ine hc h
      refine g_iload_n (pc' := 13) 2 O dX0_isDay_12 rfl rfl rfl ?_
      refine g_iconst (v := 1) (pc' := 14) O dX0_isDay_13 (by decide) rfl ?_
      refine g_icmp_lt (tgt := 33) (pc' := 17) O dX0_isDay_14 (by decide) rfl (fun hc => ?_) (fun hc => ?_)
      · replace h := ip hc h
        refine g_sub (lv' := []) [] rfl ?_
        exact tX0_isDay_33 O hf h
      · replace h := ine hc h
        refine g_iload_n (pc' := 18) 2 O dX0_isDay_17 rfl rfl rfl ?_
        refine g_iload_n (pc' := 19) 1 O dX0_isDay_18 rfl rfl rfl ?_
        refine g_iload_n (pc' := 20) 0 O dX0_isDay_19 rfl rfl rfl ?_
        obtain ⟨r1, er1, h⟩ := ob h
        refine g_callS (y := yX0_isLeap) (ν := mX0_isLeap) (n := 1) (As := [.int p0]) (b := 0) (st := [.int p1, .int p2]) (M2 := r1.2) (r1 := (some (.int r1.1))) (pc' := 23) O dX0_isDay_20 tw_358 tw_60 tw_357 tw_356 hyX0_isLeap rfl (okX0_isLeap er1) (Nat.le_of_ble_eq_true rfl) ⟨Nat.le_of_ble_eq_true rfl, Nat.le_of_ble_eq_true rfl⟩ ⟨Nat.le_of_ble_eq_true rfl, Nat.le_of_ble_eq_true rfl⟩ rfl ?_
        show G κ mX0_isDay 0 0 23 [(0, .int p0), (1, .int p1), (2, .int p2)] [.int r1.1, .int p1, .int p2] r1.2
        obtain ⟨r2, er2, h⟩ := ob h
        refine g_callS (y := yX0_lengthOf) (ν := mX0_lengthOf) (n := 2) (As := [.int p1, .int r1.1]) (b := 0) (st := [.int p2]) (M2 := r2.2) (r1 := (some (.int r2.1))) (pc' := 26) O dX0_isDay_23 tw_361 tw_60 tw_360 tw_359 hyX0_lengthOf rfl (okX0_lengthOf er2) (Nat.le_of_ble_eq_true rfl) ⟨Nat.le_of_ble_eq_true rfl, Nat.le_of_ble_eq_true rfl⟩ ⟨Nat.le_of_ble_eq_true rfl, Nat.le_of_ble_eq_true rfl⟩ rfl ?_
        show G κ mX0_isDay 0 0 26 [(0, .int p0), (1, .int p1), (2, .int p2)] [.int r2.1, .int p2] r2.2
        refine g_icmp_gt (tgt := 33) (pc' := 29) O dX0_isDay_26 (by decide) rfl (fun hc => ?_) (fun hc => ?_)
        · replace h := ip hc h
          refine g_sub (lv' := []) [] rfl ?_
          exact tX0_isDay_33 O hf h
        · replace h := ine hc h
          refine g_iconst (v := 1) (pc' := 30) O dX0_isDay_29 (by decide) rfl ?_
          refine g_goto (pc' := 34) O dX0_isDay_30 (by decide) ?_
          refine g_sub (lv' := []) [] rfl ?_
          exact tX0_isDay_34 O hf h
abbrev mX0_beforeYear : MD := (cX0_beforeYear, 2, RX0, (some .int), { frames := 0, cells := 0, slots := 0, locals := 0 }, "beforeYear")
theorem hyX0_beforeYear : yX0_beforeYear.cls ≠ "java/lang/invoke/MethodHandle" ∧ yX0_beforeYear.cls ≠ "java/lang/invoke/VarHandle" ∧ (parseMethodDescriptor yX0_beforeYear.desc).map (fun d => d.parameters.length) = some 1 := by decide +kernel
def fX0_beforeYear  (p0 : Int32) (M : Mem) : Option (Int32 × Mem) :=
  some ((((((p0 - (1 : Int32)) * (365 : Int32)) + ((p0 - (1 : Int32)) / (4 : Int32))) - ((p0 - (1 : Int32)) / (100 : Int32))) + ((p0 - (1 : Int32)) / (400 : Int32))), M)
set_option maxHeartbeats 4000000 in
set_option maxRecDepth 100000 in
theorem okX0_beforeYear {l : Launch} {p : Int32 × Mem} {p0 : Int32} {M : Mem} (h : fX0_beforeYear p0 M = some p) : Cn l yX0_beforeYear mX0_beforeYear [.int p0] M (some (.int p.1)) p.2 := by
  refine Cn.of [(0, .int p0)] (by decide) rfl rfl (Nat.le_of_ble_eq_true rfl) rfl (fun κ _ hf O => ?_)
  unfold fX0_beforeYear at h
  refine g_iload_n (pc' := 1) 0 O dX0_beforeYear_0 rfl rfl rfl ?_
  refine g_iconst (v := 1) (pc' := 2) O dX0_beforeYear_1 (by decide) rfl ?_
  refine g_isub (pc' := 3) O dX0_beforeYear_2 rfl ?_
  refine g_istore_n (lv' := [(1, .int (p0 - (1 : Int32))), (0, .int p0)]) (pc' := 4) O dX0_beforeYear_3 rfl (by decide) rfl rfl ?_
  refine g_iload_n (pc' := 5) 0 O dX0_beforeYear_4 rfl rfl rfl ?_
  refine g_sipush (v := 365) (pc' := 8) O dX0_beforeYear_5 (by decide) rfl ?_
  refine g_imul (pc' := 9) O dX0_beforeYear_8 rfl ?_
  refine g_iload_n (pc' := 10) 0 O dX0_beforeYear_9 rfl rfl rfl ?_
  refine g_iconst (v := 4) (pc' := 11) O dX0_beforeYear_10 (by decide) rfl ?_
  refine g_idiv (pc' := 12) O dX0_beforeYear_11 (by decide) rfl ?_
  refine g_iadd (pc' := 13) O dX0_beforeYear_12 rfl ?_
  refine g_iload_n (pc' := 14) 0 O dX0_beforeYear_13 rfl rfl rfl ?_
  refine g_bipush (v := 100) (pc' := 16) O dX0_beforeYear_14 (by decide) rfl ?_
  refine g_idiv (pc' := 17) O dX0_beforeYear_16 (by decide) rfl ?_
  refine g_isub (pc' := 18) O dX0_beforeYear_17 rfl ?_
  refine g_iload_n (pc' := 19) 0 O dX0_beforeYear_18 rfl rfl rfl ?_
  refine g_sipush (v := 400) (pc' := 22) O dX0_beforeYear_19 (by decide) rfl ?_
  refine g_idiv (pc' := 23) O dX0_beforeYear_22 (by decide) rfl ?_
  refine g_iadd (pc' := 24) O dX0_beforeYear_23 rfl ?_
  cases h
  exact g_ireturn O dX0_beforeYear_24 rfl rfl hf (by decide) (by decide)
abbrev mX0_numberOf : MD := (cX0_numberOf, 6, RX0, (some .int), { frames := 1, cells := 0, slots := 0, locals := 21 }, "numberOf")
theorem hyX0_numberOf : yX0_numberOf.cls ≠ "java/lang/invoke/MethodHandle" ∧ yX0_numberOf.cls ≠ "java/lang/invoke/VarHandle" ∧ (parseMethodDescriptor yX0_numberOf.desc).map (fun d => d.parameters.length) = some 3 := by decide +kernel
def fX0_numberOf_48  (x4 : Int32) (M : Mem) : Option (Int32 × Mem) :=
  some (x4, M)
set_option maxHeartbeats 4000000 in
set_option maxRecDepth 100000 in
theorem tX0_numberOf_48 {κ : KT} {p : Int32 × Mem} (O : OkK κ mX0_numberOf) (hf : κ.2.2.2.2.2.2.2.2.2.2.2.2.2 = (some (.int p.1), p.2))  {x4 : Int32} {M : Mem} (h : fX0_numberOf_48  x4 M = some p) : G κ mX0_numberOf 0 0 48 [(4, .int x4)] [] M := by
  unfold fX0_numberOf_48 at h
  refine g_iload (pc' := 50) 0 O dX0_numberOf_48 rfl rfl ?_
  cases h
  exact g_ireturn O dX0_numberOf_50 rfl rfl hf (by decide) (by decide)
def fX0_numberOf_18  : Nat → Int32 → Int32 → Int32 → Int32 → Mem → Option (Int32 × Mem)
  | 0, _, _, _, _, _ => none
  | n + 1, x1, x3, x4, x5, M =>
    if x1 ≤ x5 then (fX0_numberOf_48 x4 M)
    else (if (12 : Int32) < x5 then (fX0_numberOf_48 x4 M)
    else ((fX0_lengthOf x5 x3 M).bind fun r1 =>
    fX0_numberOf_18 n x1 x3 (x4 + r1.1) (x5 + (1 : Int32)) r1.2))
set_option maxHeartbeats 4000000 in
set_option maxRecDepth 100000 in
theorem tX0_numberOf_18 {κ : KT} {p : Int32 × Mem} (O : OkK κ mX0_numberOf) (hf : κ.2.2.2.2.2.2.2.2.2.2.2.2.2 = (some (.int p.1), p.2))  : ∀ (n : Nat) (x1 : Int32) (x3 : Int32) (x4 : Int32) (x5 : Int32) (M : Mem), fX0_numberOf_18  n x1 x3 x4 x5 M = some p → G κ mX0_numberOf 0 0 18 [(1, .int x1), (3, .int x3), (4, .int x4), (5, .int x5)] [] M := by
  intro n
  induction n with
  | zero => intro x1 x3 x4 x5 M h; cases h
  | succ n ih =>
    intro x1 x3 x4 x5 M h
    rw [fX0_numberOf_18] at h
    refine g_iload (pc' := 20) 3 O dX0_numberOf_18 rfl rfl ?_
    refine g_iload_n (pc' := 21) 0 O dX0_numberOf_20 rfl rfl rfl ?_
    refine g_icmp_ge (tgt := 48) (pc' := 24) O dX0_numberOf_21 (by decide) rfl (fun hc => ?_) (fun hc => ?_)
    · replace h := ip hc h
      refine g_sub (lv' := [(4, .int x4)]) [2] rfl ?_
      exact tX0_numberOf_48 O hf h
    · replace h := ine hc h
      refine g_iload (pc' := 26) 3 O dX0_numberOf_24 rfl rfl ?_
      refine g_bipush (v := 12) (pc' := 28) O dX0_numberOf_26 (by decide) rfl ?_
      refine g_icmp_gt (tgt := 48) (pc' := 31) O dX0_numberOf_28 (by decide) rfl (fun hc => ?_) (fun hc => ?_)
      · replace h := ip hc h
        refine g_sub (lv' := [(4, .int x4)]) [2] rfl ?_
        exact tX0_numberOf_48 O hf h
      · replace h := ine hc h
        refine g_iload (pc' := 33) 2 O dX0_numberOf_31 rfl rfl ?_
        refine g_iload (pc' := 35) 3 O dX0_numberOf_33 rfl rfl ?_
        refine g_iload_n (pc' := 36) 1 O dX0_numberOf_35 rfl rfl rfl ?_
        obtain ⟨r1, er1, h⟩ := ob h
        refine g_callS (y := yX0_lengthOf) (ν := mX0_lengthOf) (n := 2) (As := [.int x5, .int x3]) (b := 0) (st := [.int x4]) (M2 := r1.2) (r1 := (some (.int r1.1))) (pc' := 39) O dX0_numberOf_36 tw_361 tw_60 tw_360 tw_359 hyX0_lengthOf rfl (okX0_lengthOf er1) (Nat.le_of_ble_eq_true rfl) ⟨Nat.le_of_ble_eq_true rfl, Nat.le_of_ble_eq_true rfl⟩ ⟨Nat.le_of_ble_eq_true rfl, Nat.le_of_ble_eq_true rfl⟩ rfl ?_
        show G κ mX0_numberOf 0 0 39 [(1, .int x1), (3, .int x3), (4, .int x4), (5, .int x5)] [.int r1.1, .int x4] r1.2
        refine g_iadd (pc' := 40) O dX0_numberOf_39 rfl ?_
        refine g_istore (lv' := [(4, .int (x4 + r1.1)), (1, .int x1), (3, .int x3), (5, .int x5)]) (pc' := 42) O dX0_numberOf_40 (by decide) rfl rfl ?_
        refine g_iinc (q := 3) (v := x5 + (1 : Int32)) (lv' := [(5, .int (x5 + (1 : Int32))), (4, .int (x4 + r1.1)), (1, .int x1), (3, .int x3)]) (pc' := 45) O dX0_numberOf_42 rfl rfl (by decide) rfl rfl ?_
        refine g_goto (pc' := 18) O dX0_numberOf_45 (by decide) ?_
        refine g_sub (lv' := [(1, .int x1), (3, .int x3), (4, .int (x4 + r1.1)), (5, .int (x5 + (1 : Int32)))]) [2, 3, 1, 0] rfl ?_
        exact ih x1 x3 (x4 + r1.1) (x5 + (1 : Int32)) r1.2 h
def fX0_numberOf  (p0 : Int32) (p1 : Int32) (p2 : Int32) (M : Mem) : Option (Int32 × Mem) :=
  (fX0_isLeap p0 M).bind fun r1 =>
  (fX0_beforeYear p0 r1.2).bind fun r2 =>
  fX0_numberOf_18 FU p1 r1.1 ((r2.1 + p2) - (1 : Int32)) (1 : Int32) r2.2
set_option maxHeartbeats 4000000 in
set_option maxRecDepth 100000 in
theorem okX0_numberOf {l : Launch} {p : Int32 × Mem} {p0 : Int32} {p1 : Int32} {p2 : Int32} {M : Mem} (h : fX0_numberOf p0 p1 p2 M = some p) : Cn l yX0_numberOf mX0_numberOf [.int p0, .int p1, .int p2] M (some (.int p.1)) p.2 := by
  refine Cn.of [(0, .int p0), (1, .int p1), (2, .int p2)] (by decide) rfl rfl (Nat.le_of_ble_eq_true rfl) rfl (fun κ _ hf O => ?_)
  unfold fX0_numberOf at h
  refine g_iload_n (pc' := 1) 0 O dX0_numberOf_0 rfl rfl rfl ?_
  obtain ⟨r1, er1, h⟩ := ob h
  refine g_callS (y := yX0_isLeap) (ν := mX0_isLeap) (n := 1) (As := [.int p0]) (b := 0) (st := []) (M2 := r1.2) (r1 := (some (.int r1.1))) (pc' := 4) O dX0_numberOf_1 tw_358 tw_60 tw_357 tw_356 hyX0_isLeap rfl (okX0_isLeap er1) (Nat.le_of_ble_eq_true rfl) ⟨Nat.le_of_ble_eq_true rfl, Nat.le_of_ble_eq_true rfl⟩ ⟨Nat.le_of_ble_eq_true rfl, Nat.le_of_ble_eq_true rfl⟩ rfl ?_
  show G κ mX0_numberOf 0 0 4 [(0, .int p0), (1, .int p1), (2, .int p2)] [.int r1.1] r1.2
  refine g_istore_n (lv' := [(3, .int r1.1), (0, .int p0), (1, .int p1), (2, .int p2)]) (pc' := 5) O dX0_numberOf_4 rfl (by decide) rfl rfl ?_
  refine g_iload_n (pc' := 6) 1 O dX0_numberOf_5 rfl rfl rfl ?_
  obtain ⟨r2, er2, h⟩ := ob h
  refine g_callS (y := yX0_beforeYear) (ν := mX0_beforeYear) (n := 1) (As := [.int p0]) (b := 0) (st := []) (M2 := r2.2) (r1 := (some (.int r2.1))) (pc' := 9) O dX0_numberOf_6 tw_369 tw_60 tw_368 tw_367 hyX0_beforeYear rfl (okX0_beforeYear er2) (Nat.le_of_ble_eq_true rfl) ⟨Nat.le_of_ble_eq_true rfl, Nat.le_of_ble_eq_true rfl⟩ ⟨Nat.le_of_ble_eq_true rfl, Nat.le_of_ble_eq_true rfl⟩ rfl ?_
  show G κ mX0_numberOf 0 0 9 [(3, .int r1.1), (0, .int p0), (1, .int p1), (2, .int p2)] [.int r2.1] r2.2
  refine g_iload_n (pc' := 10) 3 O dX0_numberOf_9 rfl rfl rfl ?_
  refine g_iadd (pc' := 11) O dX0_numberOf_10 rfl ?_
  refine g_iconst (v := 1) (pc' := 12) O dX0_numberOf_11 (by decide) rfl ?_
  refine g_isub (pc' := 13) O dX0_numberOf_12 rfl ?_
  refine g_istore (lv' := [(4, .int ((r2.1 + p2) - (1 : Int32))), (3, .int r1.1), (0, .int p0), (1, .int p1), (2, .int p2)]) (pc' := 15) O dX0_numberOf_13 (by decide) rfl rfl ?_
  refine g_iconst (v := 1) (pc' := 16) O dX0_numberOf_15 (by decide) rfl ?_
  refine g_istore (lv' := [(5, .int (1 : Int32)), (4, .int ((r2.1 + p2) - (1 : Int32))), (3, .int r1.1), (0, .int p0), (1, .int p1), (2, .int p2)]) (pc' := 18) O dX0_numberOf_16 (by decide) rfl rfl ?_
  refine g_sub (lv' := [(1, .int p1), (3, .int r1.1), (4, .int ((r2.1 + p2) - (1 : Int32))), (5, .int (1 : Int32))]) [4, 2, 1, 0] rfl ?_
  exact tX0_numberOf_18 O hf FU p1 r1.1 ((r2.1 + p2) - (1 : Int32)) (1 : Int32) r2.2 h
abbrev mJ9_min_7cf53 : MD := (cJ9_min_7cf53, 2, RJ9, (some .int), { frames := 0, cells := 0, slots := 0, locals := 0 }, "min")
theorem hyJ9_min_7cf53 : yJ9_min_7cf53.cls ≠ "java/lang/invoke/MethodHandle" ∧ yJ9_min_7cf53.cls ≠ "java/lang/invoke/VarHandle" ∧ (parseMethodDescriptor yJ9_min_7cf53.desc).map (fun d => d.parameters.length) = some 2 := by decide +kernel
def fJ9_min_7cf53_10  (s0 : Int32) (M : Mem) : Option (Int32 × Mem) :=
  some (s0, M)
set_option maxHeartbeats 4000000 in
set_option maxRecDepth 100000 in
theorem tJ9_min_7cf53_10 {κ : KT} {p : Int32 × Mem} (O : OkK κ mJ9_min_7cf53) (hf : κ.2.2.2.2.2.2.2.2.2.2.2.2.2 = (some (.int p.1), p.2))  {s0 : Int32} {M : Mem} (h : fJ9_min_7cf53_10  s0 M = some p) : G κ mJ9_min_7cf53 0 0 10 [] [.int s0] M := by
  unfold fJ9_min_7cf53_10 at h
  cases h
  exact g_ireturn O dJ9_min_7cf53_10 rfl rfl hf (by decide) (by decide)
def fJ9_min_7cf53  (p0 : Int32) (p1 : Int32) (M : Mem) : Option (Int32 × Mem) :=
  if p1 < p0 then (fJ9_min_7cf53_10 p1 M)
  else (fJ9_min_7cf53_10 p0 M)
set_option maxHeartbeats 4000000 in
set_option maxRecDepth 100000 in
theorem okJ9_min_7cf53 {l : Launch} {p : Int32 × Mem} {p0 : Int32} {p1 : Int32} {M : Mem} (h : fJ9_min_7cf53 p0 p1 M = some p) : Cn l yJ9_min_7cf53 mJ9_min_7cf53 [.int p0, .int p1] M (some (.int p.1)) p.2 := by
  refine Cn.ofF [(0, .int p0), (1, .int p1)] (by decide +kernel) rfl rfl (Nat.le_of_ble_eq_true rfl) rfl (fun κ _ hf O => ?_)
  unfold fJ9_min_7cf53 at h
  refine g_iload_n (pc' := 1) 0 O dJ9_min_7cf53_0 rfl rfl rfl ?_
  refine g_iload_n (pc' := 2) 1 O dJ9_min_7cf53_1 rfl rfl rfl ?_
  refine g_icmp_gt (tgt := 9) (pc' := 5) O dJ9_min_7cf53_2 (by decide) rfl (fun hc => ?_) (fun hc => ?_)
  · replace h := ip hc h
    refine g_iload_n (pc' := 10) 1 O dJ9_min_7cf53_9 rfl rfl rfl ?_
    refine g_sub (lv' := []) [] rfl ?_
    exact tJ9_min_7cf53_10 O hf h
  · replace h := ine hc h
    refine g_iload_n (pc' := 6) 0 O dJ9_min_7cf53_5 rfl rfl rfl ?_
    refine g_goto (pc' := 10) O dJ9_min_7cf53_6 (by decide) ?_
    refine g_sub (lv' := []) [] rfl ?_
    exact tJ9_min_7cf53_10 O hf h
abbrev mX0_yearOf : MD := (cX0_yearOf, 5, RX0, (some .int), { frames := 1, cells := 0, slots := 0, locals := 21 }, "yearOf")
theorem hyX0_yearOf : yX0_yearOf.cls ≠ "java/lang/invoke/MethodHandle" ∧ yX0_yearOf.cls ≠ "java/lang/invoke/VarHandle" ∧ (parseMethodDescriptor yX0_yearOf.desc).map (fun d => d.parameters.length) = some 1 := by decide +kernel
def fX0_yearOf  (p0 : Int32) (M : Mem) : Option (Int32 × Mem) :=
  (fJ9_min_7cf53 ((rmI p0 (146097 : Int32)) / (36524 : Int32)) (3 : Int32) M).bind fun r1 =>
  (some (((rmI p0 (146097 : Int32)) - (r1.1 * (36524 : Int32))) / (1461 : Int32))).bind fun v2 =>
  (some (((rmI p0 (146097 : Int32)) - (r1.1 * (36524 : Int32))) - (v2 * (1461 : Int32)))).bind fun v3 =>
  (fJ9_min_7cf53 (v3 / (365 : Int32)) (3 : Int32) r1.2).bind fun r4 =>
  some (((((((p0 / (146097 : Int32)) * (400 : Int32)) + (r1.1 * (100 : Int32))) + (v2 * (4 : Int32))) + r4.1) + (1 : Int32)), r4.2)
set_option maxHeartbeats 4000000 in
set_option maxRecDepth 100000 in
theorem okX0_yearOf {l : Launch} {p : Int32 × Mem} {p0 : Int32} {M : Mem} (h : fX0_yearOf p0 M = some p) : Cn l yX0_yearOf mX0_yearOf [.int p0] M (some (.int p.1)) p.2 := by
  refine Cn.of [(0, .int p0)] (by decide) rfl rfl (Nat.le_of_ble_eq_true rfl) rfl (fun κ _ hf O => ?_)
  unfold fX0_yearOf at h
  refine g_iload_n (pc' := 1) 0 O dX0_yearOf_0 rfl rfl rfl ?_
  refine g_ldc (v := 146097) (pc' := 3) O dX0_yearOf_1 tw_455 rfl ?_
  refine g_irem2 (pc' := 4) O dX0_yearOf_3 (by decide) rfl ?_
  refine g_istore_n (lv' := [(1, .int (rmI p0 (146097 : Int32))), (0, .int p0)]) (pc' := 5) O dX0_yearOf_4 rfl (by decide) rfl rfl ?_
  refine g_iload_n (pc' := 6) 0 O dX0_yearOf_5 rfl rfl rfl ?_
  refine g_ldc (v := 36524) (pc' := 8) O dX0_yearOf_6 tw_456 rfl ?_
  refine g_idiv (pc' := 9) O dX0_yearOf_8 (by decide) rfl ?_
  refine g_iconst (v := 3) (pc' := 10) O dX0_yearOf_9 (by decide) rfl ?_
  obtain ⟨r1, er1, h⟩ := ob h
  refine g_callS (y := yJ9_min_7cf53) (ν := mJ9_min_7cf53) (n := 2) (As := [.int ((rmI p0 (146097 : Int32)) / (36524 : Int32)), .int (3 : Int32)]) (b := 0) (st := []) (M2 := r1.2) (r1 := (some (.int r1.1))) (pc' := 13) O dX0_yearOf_10 tw_312 tw_56 tw_311 tw_457 hyJ9_min_7cf53 rfl (okJ9_min_7cf53 er1) (Nat.le_of_ble_eq_true rfl) ⟨Nat.le_of_ble_eq_true rfl, Nat.le_of_ble_eq_true rfl⟩ ⟨Nat.le_of_ble_eq_true rfl, Nat.le_of_ble_eq_true rfl⟩ rfl ?_
  show G κ mX0_yearOf 0 0 13 [(1, .int (rmI p0 (146097 : Int32))), (0, .int p0)] [.int r1.1] r1.2
  refine g_istore_n (lv' := [(2, .int r1.1), (1, .int (rmI p0 (146097 : Int32))), (0, .int p0)]) (pc' := 14) O dX0_yearOf_13 rfl (by decide) rfl rfl ?_
  refine g_iload_n (pc' := 15) 1 O dX0_yearOf_14 rfl rfl rfl ?_
  refine g_iload_n (pc' := 16) 0 O dX0_yearOf_15 rfl rfl rfl ?_
  refine g_ldc (v := 36524) (pc' := 18) O dX0_yearOf_16 tw_456 rfl ?_
  refine g_imul (pc' := 19) O dX0_yearOf_18 rfl ?_
  refine g_isub (pc' := 20) O dX0_yearOf_19 rfl ?_
  refine g_istore_n (lv' := [(1, .int ((rmI p0 (146097 : Int32)) - (r1.1 * (36524 : Int32)))), (2, .int r1.1), (0, .int p0)]) (pc' := 21) O dX0_yearOf_20 rfl (by decide) rfl rfl ?_
  refine g_iload_n (pc' := 22) 0 O dX0_yearOf_21 rfl rfl rfl ?_
  refine g_sipush (v := 1461) (pc' := 25) O dX0_yearOf_22 (by decide) rfl ?_
  refine g_idiv (pc' := 26) O dX0_yearOf_25 (by decide) rfl ?_
  obtain ⟨v2, ev2, h⟩ := ob h
  have ev2 := Option.some.inj ev2
  rw [ev2]
  refine g_istore_n (lv' := [(3, .int v2), (1, .int ((rmI p0 (146097 : Int32)) - (r1.1 * (36524 : Int32)))), (2, .int r1.1), (0, .int p0)]) (pc' := 27) O dX0_yearOf_26 rfl (by decide) rfl rfl ?_
  refine g_iload_n (pc' := 28) 1 O dX0_yearOf_27 rfl rfl rfl ?_
  refine g_iload_n (pc' := 29) 0 O dX0_yearOf_28 rfl rfl rfl ?_
  refine g_sipush (v := 1461) (pc' := 32) O dX0_yearOf_29 (by decide) rfl ?_
  refine g_imul (pc' := 33) O dX0_yearOf_32 rfl ?_
  refine g_isub (pc' := 34) O dX0_yearOf_33 rfl ?_
  obtain ⟨v3, ev3, h⟩ := ob h
  have ev3 := Option.some.inj ev3
  rw [ev3]
  refine g_istore_n (lv' := [(1, .int v3), (3, .int v2), (2, .int r1.1), (0, .int p0)]) (pc' := 35) O dX0_yearOf_34 rfl (by decide) rfl rfl ?_
  refine g_iload_n (pc' := 36) 0 O dX0_yearOf_35 rfl rfl rfl ?_
  refine g_sipush (v := 365) (pc' := 39) O dX0_yearOf_36 (by decide) rfl ?_
  refine g_idiv (pc' := 40) O dX0_yearOf_39 (by decide) rfl ?_
  refine g_iconst (v := 3) (pc' := 41) O dX0_yearOf_40 (by decide) rfl ?_
  obtain ⟨r4, er4, h⟩ := ob h
  refine g_callS (y := yJ9_min_7cf53) (ν := mJ9_min_7cf53) (n := 2) (As := [.int (v3 / (365 : Int32)), .int (3 : Int32)]) (b := 0) (st := []) (M2 := r4.2) (r1 := (some (.int r4.1))) (pc' := 44) O dX0_yearOf_41 tw_312 tw_56 tw_311 tw_457 hyJ9_min_7cf53 rfl (okJ9_min_7cf53 er4) (Nat.le_of_ble_eq_true rfl) ⟨Nat.le_of_ble_eq_true rfl, Nat.le_of_ble_eq_true rfl⟩ ⟨Nat.le_of_ble_eq_true rfl, Nat.le_of_ble_eq_true rfl⟩ rfl ?_
  show G κ mX0_yearOf 0 0 44 [(1, .int v3), (3, .int v2), (2, .int r1.1), (0, .int p0)] [.int r4.1] r4.2
  refine g_istore (lv' := [(4, .int r4.1), (1, .int v3), (3, .int v2), (2, .int r1.1), (0, .int p0)]) (pc' := 46) O dX0_yearOf_44 (by decide) rfl rfl ?_
  refine g_iload_n (pc' := 47) 4 O dX0_yearOf_46 rfl rfl rfl ?_
  refine g_ldc (v := 146097) (pc' := 49) O dX0_yearOf_47 tw_455 rfl ?_
  refine g_idiv (pc' := 50) O dX0_yearOf_49 (by decide) rfl ?_
  refine g_sipush (v := 400) (pc' := 53) O dX0_yearOf_50 (by decide) rfl ?_
  refine g_imul (pc' := 54) O dX0_yearOf_53 rfl ?_
  refine g_iload_n (pc' := 55) 3 O dX0_yearOf_54 rfl rfl rfl ?_
  refine g_bipush (v := 100) (pc' := 57) O dX0_yearOf_55 (by decide) rfl ?_
  refine g_imul (pc' := 58) O dX0_yearOf_57 rfl ?_
  refine g_iadd (pc' := 59) O dX0_yearOf_58 rfl ?_
  refine g_iload_n (pc' := 60) 2 O dX0_yearOf_59 rfl rfl rfl ?_
  refine g_iconst (v := 4) (pc' := 61) O dX0_yearOf_60 (by decide) rfl ?_
  refine g_imul (pc' := 62) O dX0_yearOf_61 rfl ?_
  refine g_iadd (pc' := 63) O dX0_yearOf_62 rfl ?_
  refine g_iload (pc' := 65) 0 O dX0_yearOf_63 rfl rfl ?_
  refine g_iadd (pc' := 66) O dX0_yearOf_65 rfl ?_
  refine g_iconst (v := 1) (pc' := 67) O dX0_yearOf_66 (by decide) rfl ?_
  refine g_iadd (pc' := 68) O dX0_yearOf_67 rfl ?_
  cases h
  exact g_ireturn O dX0_yearOf_68 rfl rfl hf (by decide) (by decide)
abbrev mX1_init : MD := (cX1_init, 7, RX1, none, { frames := 1, cells := 0, slots := 0, locals := 20 }, "<init>")
theorem hyX1_init : yX1_init.cls ≠ "java/lang/invoke/MethodHandle" ∧ yX1_init.cls ≠ "java/lang/invoke/VarHandle" ∧ (parseMethodDescriptor yX1_init.desc).map (fun d => d.parameters.length) = some 6 := by decide +kernel
def fX1_init_25  (x0 : Nat) (x4 : Int32) (x5 : Int32) (x6 : Int32) (s0 : Int32) (s1 : Nat) (M : Mem) : Option (Mem) :=
  (nz s0).bind fun z1 =>
  (pF M 0 s1 2 (.int z1)).bind fun M2 =>
  (pF M2 0 x0 3 (.int x4)).bind fun M3 =>
  (pF M3 0 x0 4 (.int x5)).bind fun M4 =>
  (nz x6).bind fun z5 =>
  (pF M4 0 x0 5 (.int z5)).bind fun M6 =>
  some M6
set_option maxHeartbeats 4000000 in
set_option maxRecDepth 100000 in
theorem tX1_init_25 {κ : KT} {p : Mem} (O : OkK κ mX1_init) (hf : κ.2.2.2.2.2.2.2.2.2.2.2.2.2 = (none, p))  {x0 : Nat} {x4 : Int32} {x5 : Int32} {x6 : Int32} {s0 : Int32} {s1 : Nat} {M : Mem} (h : fX1_init_25  x0 x4 x5 x6 s0 s1 M = some p) : G κ mX1_init 0 0 25 [(0, .ref x0), (4, .int x4), (5, .int x5), (6, .int x6)] [.int s0, .ref s1] M := by
  unfold fX1_init_25 at h
  obtain ⟨z1, ez1, h⟩ := ob h
  obtain ⟨hz1, ez1b⟩ := nz_spec ez1
  rw [← ez1b] at hz1 ⊢
  obtain ⟨M2, eM2, h⟩ := ob h
  refine g_putFF (C := RX1) (T := TX1) (N := 8) (ci := 0) (k := 2) (pc' := 28) O dX1_init_25 rfl inX1 (by decide) tw_218 tyX1 tyX1_ok nmX1 rfl rfl rfl rfl (nz_nar hz1) (nz_fit hz1) eM2 rfl ?_
  refine g_aload_n (pc' := 29) 0 O dX1_init_28 rfl rfl rfl ?_
  refine g_iload (pc' := 31) 1 O dX1_init_29 rfl rfl ?_
  obtain ⟨M3, eM3, h⟩ := ob h
  refine g_putFF (C := RX1) (T := TX1) (N := 8) (ci := 0) (k := 3) (pc' := 34) O dX1_init_31 rfl inX1 (by decide) tw_220 tyX1 tyX1_ok nmX1 rfl rfl rfl rfl rfl rfl eM3 rfl ?_
  refine g_aload_n (pc' := 35) 0 O dX1_init_34 rfl rfl rfl ?_
  refine g_iload (pc' := 37) 2 O dX1_init_35 rfl rfl ?_
  obtain ⟨M4, eM4, h⟩ := ob h
  refine g_putFF (C := RX1) (T := TX1) (N := 8) (ci := 0) (k := 4) (pc' := 40) O dX1_init_37 rfl inX1 (by decide) tw_222 tyX1 tyX1_ok nmX1 rfl rfl rfl rfl rfl rfl eM4 rfl ?_
  refine g_aload_n (pc' := 41) 0 O dX1_init_40 rfl rfl rfl ?_
  refine g_iload (pc' := 43) 3 O dX1_init_41 rfl rfl ?_
  obtain ⟨z5, ez5, h⟩ := ob h
  obtain ⟨hz5, ez5b⟩ := nz_spec ez5
  rw [← ez5b] at hz5 ⊢
  obtain ⟨M6, eM6, h⟩ := ob h
  refine g_putFF (C := RX1) (T := TX1) (N := 8) (ci := 0) (k := 5) (pc' := 46) O dX1_init_43 rfl inX1 (by decide) tw_223 tyX1 tyX1_ok nmX1 rfl rfl rfl rfl (nz_nar hz5) (nz_fit hz5) eM6 rfl ?_
  cases h
  exact g_vreturn O dX1_init_46 rfl hf (by decide) (by decide)
def fX1_init  (this : Nat) (p0 : Int32) (p1 : Int32) (p2 : Int32) (p3 : Int32) (p4 : Int32) (p5 : Int32) (M : Mem) : Option (Mem) :=
  (pF M 0 this 0 (.int p0)).bind fun M1 =>
  (pF M1 0 this 1 (.int p1)).bind fun M2 =>
  if p2 = (1 : Int32) then (fX1_init_25 this p3 p4 p5 (1 : Int32) this M2)
  else (fX1_init_25 this p3 p4 p5 (0 : Int32) this M2)
set_option maxHeartbeats 4000000 in
set_option maxRecDepth 100000 in
theorem okX1_init {l : Launch} {p : Mem} {this : Nat} {p0 : Int32} {p1 : Int32} {p2 : Int32} {p3 : Int32} {p4 : Int32} {p5 : Int32} {M : Mem} (h : fX1_init this p0 p1 p2 p3 p4 p5 M = some p) : Cn l yX1_init mX1_init [.ref this, .int p0, .int p1, .int p2, .int p3, .int p4, .int p5] M none p := by
  refine Cn.of [(0, .ref this), (1, .int p0), (2, .int p1), (3, .int p2), (4, .int p3), (5, .int p4), (6, .int p5)] (by decide) rfl rfl (Nat.le_of_ble_eq_true rfl) rfl (fun κ _ hf O => ?_)
  unfold fX1_init at h
  refine g_aload_n (pc' := 1) 0 O dX1_init_0 rfl rfl rfl ?_
  refine g_objInit (pc' := 4) O dX1_init_1 tw_211 tw_74 tw_75 (by decide) (by decide) rfl ?_
  refine g_aload_n (pc' := 5) 0 O dX1_init_4 rfl rfl rfl ?_
  refine g_iload_n (pc' := 6) 1 O dX1_init_5 rfl rfl rfl ?_
  obtain ⟨M1, eM1, h⟩ := ob h
  refine g_putFF (C := RX1) (T := TX1) (N := 8) (ci := 0) (k := 0) (pc' := 9) O dX1_init_6 rfl inX1 (by decide) tw_212 tyX1 tyX1_ok nmX1 rfl rfl rfl rfl rfl rfl eM1 rfl ?_
  refine g_aload_n (pc' := 10) 0 O dX1_init_9 rfl rfl rfl ?_
  refine g_iload_n (pc' := 11) 2 O dX1_init_10 rfl rfl rfl ?_
  obtain ⟨M2, eM2, h⟩ := ob h
  refine g_putFF (C := RX1) (T := TX1) (N := 8) (ci := 0) (k := 1) (pc' := 14) O dX1_init_11 rfl inX1 (by decide) tw_215 tyX1 tyX1_ok nmX1 rfl rfl rfl rfl rfl rfl eM2 rfl ?_
  refine g_aload_n (pc' := 15) 0 O dX1_init_14 rfl rfl rfl ?_
  refine g_iload_n (pc' := 16) 3 O dX1_init_15 rfl rfl rfl ?_
  refine g_iconst (v := 1) (pc' := 17) O dX1_init_16 (by decide) rfl ?_
  refine g_icmp_ne (tgt := 24) (pc' := 20) O dX1_init_17 (by decide) rfl (fun hc => ?_) (fun hc => ?_)
  · replace h := ine hc h
    refine g_iconst (v := 0) (pc' := 25) O dX1_init_24 (by decide) rfl ?_
    refine g_sub (lv' := [(0, .ref this), (4, .int p3), (5, .int p4), (6, .int p5)]) [0, 4, 5, 6] rfl ?_
    exact tX1_init_25 O hf h
  · replace h := ip hc h
    refine g_iconst (v := 1) (pc' := 21) O dX1_init_20 (by decide) rfl ?_
    refine g_goto (pc' := 25) O dX1_init_21 (by decide) ?_
    refine g_sub (lv' := [(0, .ref this), (4, .int p3), (5, .int p4), (6, .int p5)]) [0, 4, 5, 6] rfl ?_
    exact tX1_init_25 O hf h
abbrev mX1_setDays : MD := (cX1_setDays, 3, RX1, none, { frames := 0, cells := 0, slots := 0, locals := 0 }, "setDays")
theorem hyX1_setDays : yX1_setDays.cls ≠ "java/lang/invoke/MethodHandle" ∧ yX1_setDays.cls ≠ "java/lang/invoke/VarHandle" ∧ (parseMethodDescriptor yX1_setDays.desc).map (fun d => d.parameters.length) = some 2 := by decide +kernel
def fX1_setDays  (this : Nat) (p0 : Int32) (p1 : Int32) (M : Mem) : Option (Mem) :=
  (pF M 0 this 6 (.int p0)).bind fun M1 =>
  (pF M1 0 this 7 (.int p1)).bind fun M2 =>
  some M2
set_option maxHeartbeats 4000000 in
set_option maxRecDepth 100000 in
theorem okX1_setDays {l : Launch} {p : Mem} {this : Nat} {p0 : Int32} {p1 : Int32} {M : Mem} (h : fX1_setDays this p0 p1 M = some p) : Cn l yX1_setDays mX1_setDays [.ref this, .int p0, .int p1] M none p := by
  refine Cn.of [(0, .ref this), (1, .int p0), (2, .int p1)] (by decide) rfl rfl (Nat.le_of_ble_eq_true rfl) rfl (fun κ _ hf O => ?_)
  unfold fX1_setDays at h
  refine g_aload_n (pc' := 1) 0 O dX1_setDays_0 rfl rfl rfl ?_
  refine g_iload_n (pc' := 2) 1 O dX1_setDays_1 rfl rfl rfl ?_
  obtain ⟨M1, eM1, h⟩ := ob h
  refine g_putF (C := RX1) (T := TX1) (N := 8) (ci := 0) (k := 6) (pc' := 5) O dX1_setDays_2 rfl inX1 (by decide) tw_226 tyX1 tyX1_ok nmX1 rfl rfl rfl rfl eM1 rfl ?_
  refine g_aload_n (pc' := 6) 0 O dX1_setDays_5 rfl rfl rfl ?_
  refine g_iload_n (pc' := 7) 2 O dX1_setDays_6 rfl rfl rfl ?_
  obtain ⟨M2, eM2, h⟩ := ob h
  refine g_putF (C := RX1) (T := TX1) (N := 8) (ci := 0) (k := 7) (pc' := 10) O dX1_setDays_7 rfl inX1 (by decide) tw_227 tyX1 tyX1_ok nmX1 rfl rfl rfl rfl eM2 rfl ?_
  cases h
  exact g_vreturn O dX1_setDays_10 rfl hf (by decide) (by decide)
abbrev mX1_canWriteNumbers : MD := (cX1_canWriteNumbers, 6, RX1, (some .boolean), { frames := 0, cells := 0, slots := 0, locals := 0 }, "canWriteNumbers")
theorem hyX1_canWriteNumbers : yX1_canWriteNumbers.cls ≠ "java/lang/invoke/MethodHandle" ∧ yX1_canWriteNumbers.cls ≠ "java/lang/invoke/VarHandle" ∧ (parseMethodDescriptor yX1_canWriteNumbers.desc).map (fun d => d.parameters.length) = some 4 := by decide +kernel
def fX1_canWriteNumbers_92  (s0 : Int32) (M : Mem) : Option (Int32 × Mem) :=
  (nz s0).bind fun z1 =>
  some (z1, M)
set_option maxHeartbeats 4000000 in
set_option maxRecDepth 100000 in
theorem tX1_canWriteNumbers_92 {κ : KT} {p : Int32 × Mem} (O : OkK κ mX1_canWriteNumbers) (hf : κ.2.2.2.2.2.2.2.2.2.2.2.2.2 = (some (.int p.1), p.2))  {s0 : Int32} {M : Mem} (h : fX1_canWriteNumbers_92  s0 M = some p) : G κ mX1_canWriteNumbers 0 0 92 [] [.int s0] M := by
  unfold fX1_canWriteNumbers_92 at h
  obtain ⟨z1, ez1, h⟩ := ob h
  obtain ⟨hz1, ez1b⟩ := nz_spec ez1
  rw [← ez1b] at hz1 ⊢
  cases h
  exact g_ireturn O dX1_canWriteNumbers_92 rfl (nz_nar hz1) hf (by decide) (by decide)
def fX1_canWriteNumbers_91  (M : Mem) : Option (Int32 × Mem) :=
  fX1_canWriteNumbers_92 (0 : Int32) M
set_option maxHeartbeats 4000000 in
set_option maxRecDepth 100000 in
theorem tX1_canWriteNumbers_91 {κ : KT} {p : Int32 × Mem} (O : OkK κ mX1_canWriteNumbers) (hf : κ.2.2.2.2.2.2.2.2.2.2.2.2.2 = (some (.int p.1), p.2))  {M : Mem} (h : fX1_canWriteNumbers_91  M = some p) : G κ mX1_canWriteNumbers 0 0 91 [] [] M := by
  unfold fX1_canWriteNumbers_91 at h
  refine g_iconst (v := 0) (pc' := 92) O dX1_canWriteNumbers_91 (by decide) rfl ?_
  exact tX1_canWriteNumbers_92 O hf h
def fX1_canWriteNumbers_78  (x3 : Int32) (M : Mem) : Option (Int32 × Mem) :=
  if x3 < 0 then (fX1_canWriteNumbers_91 M)
  else (if (2 : Int32) < x3 then (fX1_canWriteNumbers_91 M)
  else (fX1_canWriteNumbers_92 (1 : Int32) M))
set_option maxHeartbeats 4000000 in
set_option maxRecDepth 100000 in
theorem tX1_canWriteNumbers_78 {κ : KT} {p : Int32 × Mem} (O : OkK κ mX1_canWriteNumbers) (hf : κ.2.2.2.2.2.2.2.2.2.2.2.2.2 = (some (.int p.1), p.2))  {x3 : Int32} {M : Mem} (h : fX1_canWriteNumbers_78  x3 M = some p) : G κ mX1_canWriteNumbers 0 0 78 [(3, .int x3)] [] M := by
  unfold fX1_canWriteNumbers_78 at h
  refine g_iload_n (pc' := 79) 0 O dX1_canWriteNumbers_78 rfl rfl rfl ?_
  refine g_if_lt (tgt := 91) (pc' := 82) O dX1_canWriteNumbers_79 (by decide) rfl (fun hc => ?_) (fun hc => ?_)
  · replace h := ip hc h
    refine g_sub (lv' := []) [] rfl ?_
    exact tX1_canWriteNumbers_91 O hf h
  · replace h := ine hc h
    refine g_iload_n (pc' := 83) 0 O dX1_canWriteNumbers_82 rfl rfl rfl ?_
    refine g_iconst (v := 2) (pc' := 84) O dX1_canWriteNumbers_83 (by decide) rfl ?_
    refine g_icmp_gt (tgt := 91) (pc' := 87) O dX1_canWriteNumbers_84 (by decide) rfl (fun hc => ?_) (fun hc => ?_)
    · replace h := ip hc h
      refine g_sub (lv' := []) [] rfl ?_
      exact tX1_canWriteNumbers_91 O hf h
    · replace h := ine hc h
      refine g_iconst (v := 1) (pc' := 88) O dX1_canWriteNumbers_87 (by decide) rfl ?_
      refine g_goto (pc' := 92) O dX1_canWriteNumbers_88 (by decide) ?_
      refine g_sub (lv' := []) [] rfl ?_
      exact tX1_canWriteNumbers_92 O hf h
def fX1_canWriteNumbers_52  (x0 : Int32) (x1 : Int32) (x2 : Int32) (x3 : Int32) (x4 : Int32) (s0 : Int32) (M : Mem) : Option (Int32 × Mem) :=
  if x4 = 0 then (fX1_canWriteNumbers_91 M)
  else (if s0 = 0 then (fX1_canWriteNumbers_91 M)
  else (if x1 = x0 then (fX1_canWriteNumbers_91 M)
  else (if x2 = 0 then (fX1_canWriteNumbers_78 x3 M)
  else (if x2 = (1 : Int32) then (fX1_canWriteNumbers_78 x3 M)
  else (fX1_canWriteNumbers_91 M)))))
set_option maxHeartbeats 4000000 in
set_option maxRecDepth 100000 in
theorem tX1_canWriteNumbers_52 {κ : KT} {p : Int32 × Mem} (O : OkK κ mX1_canWriteNumbers) (hf : κ.2.2.2.2.2.2.2.2.2.2.2.2.2 = (some (.int p.1), p.2))  {x0 : Int32} {x1 : Int32} {x2 : Int32} {x3 : Int32} {x4 : Int32} {s0 : Int32} {M : Mem} (h : fX1_canWriteNumbers_52  x0 x1 x2 x3 x4 s0 M = some p) : G κ mX1_canWriteNumbers 0 0 52 [(0, .int x0), (1, .int x1), (2, .int x2), (3, .int x3), (4, .int x4)] [.int s0] M := by
  unfold fX1_canWriteNumbers_52 at h
  refine g_istore (lv' := [(5, .int s0), (0, .int x0), (1, .int x1), (2, .int x2), (3, .int x3), (4, .int x4)]) (pc' := 54) O dX1_canWriteNumbers_52 (by decide) rfl rfl ?_
  refine g_iload (pc' := 56) 5 O dX1_canWriteNumbers_54 rfl rfl ?_
  refine g_if_eq (tgt := 91) (pc' := 59) O dX1_canWriteNumbers_56 (by decide) rfl (fun hc => ?_) (fun hc => ?_)
  · replace h := ip hc h
    refine g_sub (lv' := []) [] rfl ?_
    exact tX1_canWriteNumbers_91 O hf h
  · replace h := ine hc h
    refine g_iload (pc' := 61) 0 O dX1_canWriteNumbers_59 rfl rfl ?_
    refine g_if_eq (tgt := 91) (pc' := 64) O dX1_canWriteNumbers_61 (by decide) rfl (fun hc => ?_) (fun hc => ?_)
    · replace h := ip hc h
      refine g_sub (lv' := []) [] rfl ?_
      exact tX1_canWriteNumbers_91 O hf h
    · replace h := ine hc h
      refine g_iload_n (pc' := 65) 2 O dX1_canWriteNumbers_64 rfl rfl rfl ?_
      refine g_iload_n (pc' := 66) 1 O dX1_canWriteNumbers_65 rfl rfl rfl ?_
      refine g_icmp_eq (tgt := 91) (pc' := 69) O dX1_canWriteNumbers_66 (by decide) rfl (fun hc => ?_) (fun hc => ?_)
      · replace h := ip hc h
        refine g_sub (lv' := []) [] rfl ?_
        exact tX1_canWriteNumbers_91 O hf h
      · replace h := ine hc h
        refine g_iload_n (pc' := 70) 3 O dX1_canWriteNumbers_69 rfl rfl rfl ?_
        refine g_if_eq (tgt := 78) (pc' := 73) O dX1_canWriteNumbers_70 (by decide) rfl (fun hc => ?_) (fun hc => ?_)
        · replace h := ip hc h
          refine g_sub (lv' := [(3, .int x3)]) [4] rfl ?_
          exact tX1_canWriteNumbers_78 O hf h
        · replace h := ine hc h
          refine g_iload_n (pc' := 74) 3 O dX1_canWriteNumbers_73 rfl rfl rfl ?_
          refine g_iconst (v := 1) (pc' := 75) O dX1_canWriteNumbers_74 (by decide) rfl ?_
          refine g_icmp_ne (tgt := 91) (pc' := 78) O dX1_canWriteNumbers_75 (by decide) rfl (fun hc => ?_) (fun hc => ?_)
          · replace h := ine hc h
            refine g_sub (lv' := []) [] rfl ?_
            exact tX1_canWriteNumbers_91 O hf h
          · replace h := ip hc h
            refine g_sub (lv' := [(3, .int x3)]) [4] rfl ?_
            exact tX1_canWriteNumbers_78 O hf h
def fX1_canWriteNumbers_47  (x0 : Int32) (x1 : Int32) (x2 : Int32) (x3 : Int32) (x4 : Int32) (M : Mem) : Option (Int32 × Mem) :=
  fX1_canWriteNumbers_52 x0 x1 x2 x3 x4 (1 : Int32) M
set_option maxHeartbeats 4000000 in
set_option maxRecDepth 100000 in
theorem tX1_canWriteNumbers_47 {κ : KT} {p : Int32 × Mem} (O : OkK κ mX1_canWriteNumbers) (hf : κ.2.2.2.2.2.2.2.2.2.2.2.2.2 = (some (.int p.1), p.2))  {x0 : Int32} {x1 : Int32} {x2 : Int32} {x3 : Int32} {x4 : Int32} {M : Mem} (h : fX1_canWriteNumbers_47  x0 x1 x2 x3 x4 M = some p) : G κ mX1_canWriteNumbers 0 0 47 [(0, .int x0), (1, .int x1), (2, .int x2), (3, .int x3), (4, .int x4)] [] M := by
  unfold fX1_canWriteNumbers_47 at h
  refine g_iconst (v := 1) (pc' := 48) O dX1_canWriteNumbers_47 (by decide) rfl ?_
  refine g_goto (pc' := 52) O dX1_canWriteNumbers_48 (by decide) ?_
  exact tX1_canWriteNumbers_52 O hf h
def fX1_canWriteNumbers_17  (x0 : Int32) (x1 : Int32) (x2 : Int32) (x3 : Int32) (s0 : Int32) (M : Mem) : Option (Int32 × Mem) :=
  if x1 = (44 : Int32) then (fX1_canWriteNumbers_47 x0 x1 x2 x3 s0 M)
  else (if x1 = (46 : Int32) then (fX1_canWriteNumbers_47 x0 x1 x2 x3 s0 M)
  else (if x1 = (32 : Int32) then (fX1_canWriteNumbers_47 x0 x1 x2 x3 s0 M)
  else (if x1 = (39 : Int32) then (fX1_canWriteNumbers_47 x0 x1 x2 x3 s0 M)
  else (if x1 = 0 then (fX1_canWriteNumbers_47 x0 x1 x2 x3 s0 M)
  else (fX1_canWriteNumbers_52 x0 x1 x2 x3 s0 (0 : Int32) M)))))
set_option maxHeartbeats 4000000 in
set_option maxRecDepth 100000 in
theorem tX1_canWriteNumbers_17 {κ : KT} {p : Int32 × Mem} (O : OkK κ mX1_canWriteNumbers) (hf : κ.2.2.2.2.2.2.2.2.2.2.2.2.2 = (some (.int p.1), p.2))  {x0 : Int32} {x1 : Int32} {x2 : Int32} {x3 : Int32} {s0 : Int32} {M : Mem} (h : fX1_canWriteNumbers_17  x0 x1 x2 x3 s0 M = some p) : G κ mX1_canWriteNumbers 0 0 17 [(0, .int x0), (1, .int x1), (2, .int x2), (3, .int x3)] [.int s0] M := by
  unfold fX1_canWriteNumbers_17 at h
  refine g_istore (lv' := [(4, .int s0), (0, .int x0), (1, .int x1), (2, .int x2), (3, .int x3)]) (pc' := 19) O dX1_canWriteNumbers_17 (by decide) rfl rfl ?_
  refine g_iload_n (pc' := 20) 2 O dX1_canWriteNumbers_19 rfl rfl rfl ?_
  refine g_bipush (v := 44) (pc' := 22) O dX1_canWriteNumbers_20 (by decide) rfl ?_
  refine g_icmp_eq (tgt := 47) (pc' := 25) O dX1_canWriteNumbers_22 (by decide) rfl (fun hc => ?_) (fun hc => ?_)
  · replace h := ip hc h
    refine g_sub (lv' := [(0, .int x0), (1, .int x1), (2, .int x2), (3, .int x3), (4, .int s0)]) [1, 2, 3, 4, 0] rfl ?_
    exact tX1_canWriteNumbers_47 O hf h
  · replace h := ine hc h
    refine g_iload_n (pc' := 26) 2 O dX1_canWriteNumbers_25 rfl rfl rfl ?_
    refine g_bipush (v := 46) (pc' := 28) O dX1_canWriteNumbers_26 (by decide) rfl ?_
    refine g_icmp_eq (tgt := 47) (pc' := 31) O dX1_canWriteNumbers_28 (by decide) rfl (fun hc => ?_) (fun hc => ?_)
    · replace h := ip hc h
      refine g_sub (lv' := [(0, .int x0), (1, .int x1), (2, .int x2), (3, .int x3), (4, .int s0)]) [1, 2, 3, 4, 0] rfl ?_
      exact tX1_canWriteNumbers_47 O hf h
    · replace h := ine hc h
      refine g_iload_n (pc' := 32) 2 O dX1_canWriteNumbers_31 rfl rfl rfl ?_
      refine g_bipush (v := 32) (pc' := 34) O dX1_canWriteNumbers_32 (by decide) rfl ?_
      refine g_icmp_eq (tgt := 47) (pc' := 37) O dX1_canWriteNumbers_34 (by decide) rfl (fun hc => ?_) (fun hc => ?_)
      · replace h := ip hc h
        refine g_sub (lv' := [(0, .int x0), (1, .int x1), (2, .int x2), (3, .int x3), (4, .int s0)]) [1, 2, 3, 4, 0] rfl ?_
        exact tX1_canWriteNumbers_47 O hf h
      · replace h := ine hc h
        refine g_iload_n (pc' := 38) 2 O dX1_canWriteNumbers_37 rfl rfl rfl ?_
        refine g_bipush (v := 39) (pc' := 40) O dX1_canWriteNumbers_38 (by decide) rfl ?_
        refine g_icmp_eq (tgt := 47) (pc' := 43) O dX1_canWriteNumbers_40 (by decide) rfl (fun hc => ?_) (fun hc => ?_)
        · replace h := ip hc h
          refine g_sub (lv' := [(0, .int x0), (1, .int x1), (2, .int x2), (3, .int x3), (4, .int s0)]) [1, 2, 3, 4, 0] rfl ?_
          exact tX1_canWriteNumbers_47 O hf h
        · replace h := ine hc h
          refine g_iload_n (pc' := 44) 2 O dX1_canWriteNumbers_43 rfl rfl rfl ?_
          refine g_if_ne (tgt := 51) (pc' := 47) O dX1_canWriteNumbers_44 (by decide) rfl (fun hc => ?_) (fun hc => ?_)
          · replace h := ine hc h
            refine g_iconst (v := 0) (pc' := 52) O dX1_canWriteNumbers_51 (by decide) rfl ?_
            refine g_sub (lv' := [(0, .int x0), (1, .int x1), (2, .int x2), (3, .int x3), (4, .int s0)]) [1, 2, 3, 4, 0] rfl ?_
            exact tX1_canWriteNumbers_52 O hf h
          · replace h := ip hc h
            refine g_sub (lv' := [(0, .int x0), (1, .int x1), (2, .int x2), (3, .int x3), (4, .int s0)]) [1, 2, 3, 4, 0] rfl ?_
            exact tX1_canWriteNumbers_47 O hf h
def fX1_canWriteNumbers_12  (x0 : Int32) (x1 : Int32) (x2 : Int32) (x3 : Int32) (M : Mem) : Option (Int32 × Mem) :=
  fX1_canWriteNumbers_17 x0 x1 x2 x3 (1 : Int32) M
set_option maxHeartbeats 4000000 in
set_option maxRecDepth 100000 in
theorem tX1_canWriteNumbers_12 {κ : KT} {p : Int32 × Mem} (O : OkK κ mX1_canWriteNumbers) (hf : κ.2.2.2.2.2.2.2.2.2.2.2.2.2 = (some (.int p.1), p.2))  {x0 : Int32} {x1 : Int32} {x2 : Int32} {x3 : Int32} {M : Mem} (h : fX1_canWriteNumbers_12  x0 x1 x2 x3 M = some p) : G κ mX1_canWriteNumbers 0 0 12 [(0, .int x0), (1, .int x1), (2, .int x2), (3, .int x3)] [] M := by
  unfold fX1_canWriteNumbers_12 at h
  refine g_iconst (v := 1) (pc' := 13) O dX1_canWriteNumbers_12 (by decide) rfl ?_
  refine g_goto (pc' := 17) O dX1_canWriteNumbers_13 (by decide) ?_
  exact tX1_canWriteNumbers_17 O hf h
def fX1_canWriteNumbers  (p0 : Int32) (p1 : Int32) (p2 : Int32) (p3 : Int32) (M : Mem) : Option (Int32 × Mem) :=
  if p0 = (44 : Int32) then (fX1_canWriteNumbers_12 p0 p1 p2 p3 M)
  else (if p0 = (46 : Int32) then (fX1_canWriteNumbers_12 p0 p1 p2 p3 M)
  else (fX1_canWriteNumbers_17 p0 p1 p2 p3 (0 : Int32) M))
set_option maxHeartbeats 4000000 in
set_option maxRecDepth 100000 in
theorem okX1_canWriteNumbers {l : Launch} {p : Int32 × Mem} {p0 : Int32} {p1 : Int32} {p2 : Int32} {p3 : Int32} {M : Mem} (h : fX1_canWriteNumbers p0 p1 p2 p3 M = some p) : Cn l yX1_canWriteNumbers mX1_canWriteNumbers [.int p0, .int p1, .int p2, .int p3] M (some (.int p.1)) p.2 := by
  refine Cn.of [(0, .int p0), (1, .int p1), (2, .int p2), (3, .int p3)] (by decide) rfl rfl (Nat.le_of_ble_eq_true rfl) rfl (fun κ _ hf O => ?_)
  unfold fX1_canWriteNumbers at h
  refine g_iload_n (pc' := 1) 0 O dX1_canWriteNumbers_0 rfl rfl rfl ?_
  refine g_bipush (v := 44) (pc' := 3) O dX1_canWriteNumbers_1 (by decide) rfl ?_
  refine g_icmp_eq (tgt := 12) (pc' := 6) O dX1_canWriteNumbers_3 (by decide) rfl (fun hc => ?_) (fun hc => ?_)
  · replace h := ip hc h
    exact tX1_canWriteNumbers_12 O hf h
  · replace h := ine hc h
    refine g_iload_n (pc' := 7) 0 O dX1_canWriteNumbers_6 rfl rfl rfl ?_
    refine g_bipush (v := 46) (pc' := 9) O dX1_canWriteNumbers_7 (by decide) rfl ?_
    refine g_icmp_ne (tgt := 16) (pc' := 12) O dX1_canWriteNumbers_9 (by decide) rfl (fun hc => ?_) (fun hc => ?_)
    · replace h := ine hc h
      refine g_iconst (v := 0) (pc' := 17) O dX1_canWriteNumbers_16 (by decide) rfl ?_
      exact tX1_canWriteNumbers_17 O hf h
    · replace h := ip hc h
      exact tX1_canWriteNumbers_12 O hf h
abbrev mX1_isCapital : MD := (cX1_isCapital, 1, RX1, (some .boolean), { frames := 0, cells := 0, slots := 0, locals := 0 }, "isCapital")
theorem hyX1_isCapital : yX1_isCapital.cls ≠ "java/lang/invoke/MethodHandle" ∧ yX1_isCapital.cls ≠ "java/lang/invoke/VarHandle" ∧ (parseMethodDescriptor yX1_isCapital.desc).map (fun d => d.parameters.length) = some 1 := by decide +kernel
def fX1_isCapital_17  (s0 : Int32) (M : Mem) : Option (Int32 × Mem) :=
  (nz s0).bind fun z1 =>
  some (z1, M)
set_option maxHeartbeats 4000000 in
set_option maxRecDepth 100000 in
theorem tX1_isCapital_17 {κ : KT} {p : Int32 × Mem} (O : OkK κ mX1_isCapital) (hf : κ.2.2.2.2.2.2.2.2.2.2.2.2.2 = (some (.int p.1), p.2))  {s0 : Int32} {M : Mem} (h : fX1_isCapital_17  s0 M = some p) : G κ mX1_isCapital 0 0 17 [] [.int s0] M := by
  unfold fX1_isCapital_17 at h
  obtain ⟨z1, ez1, h⟩ := ob h
  obtain ⟨hz1, ez1b⟩ := nz_spec ez1
  rw [← ez1b] at hz1 ⊢
  cases h
  exact g_ireturn O dX1_isCapital_17 rfl (nz_nar hz1) hf (by decide) (by decide)
def fX1_isCapital_16  (M : Mem) : Option (Int32 × Mem) :=
  fX1_isCapital_17 (0 : Int32) M
set_option maxHeartbeats 4000000 in
set_option maxRecDepth 100000 in
theorem tX1_isCapital_16 {κ : KT} {p : Int32 × Mem} (O : OkK κ mX1_isCapital) (hf : κ.2.2.2.2.2.2.2.2.2.2.2.2.2 = (some (.int p.1), p.2))  {M : Mem} (h : fX1_isCapital_16  M = some p) : G κ mX1_isCapital 0 0 16 [] [] M := by
  unfold fX1_isCapital_16 at h
  refine g_iconst (v := 0) (pc' := 17) O dX1_isCapital_16 (by decide) rfl ?_
  exact tX1_isCapital_17 O hf h
def fX1_isCapital  (p0 : Int32) (M : Mem) : Option (Int32 × Mem) :=
  if p0 < (65 : Int32) then (fX1_isCapital_16 M)
  else (if (90 : Int32) < p0 then (fX1_isCapital_16 M)
  else (fX1_isCapital_17 (1 : Int32) M))
set_option maxHeartbeats 4000000 in
set_option maxRecDepth 100000 in
theorem okX1_isCapital {l : Launch} {p : Int32 × Mem} {p0 : Int32} {M : Mem} (h : fX1_isCapital p0 M = some p) : Cn l yX1_isCapital mX1_isCapital [.int p0] M (some (.int p.1)) p.2 := by
  refine Cn.of [(0, .int p0)] (by decide) rfl rfl (Nat.le_of_ble_eq_true rfl) rfl (fun κ _ hf O => ?_)
  unfold fX1_isCapital at h
  refine g_iload_n (pc' := 1) 0 O dX1_isCapital_0 rfl rfl rfl ?_
  refine g_bipush (v := 65) (pc' := 3) O dX1_isCapital_1 (by decide) rfl ?_
  refine g_icmp_lt (tgt := 16) (pc' := 6) O dX1_isCapital_3 (by decide) rfl (fun hc => ?_) (fun hc => ?_)
  · replace h := ip hc h
    refine g_sub (lv' := []) [] rfl ?_
    exact tX1_isCapital_16 O hf h
  · replace h := ine hc h
    refine g_iload_n (pc' := 7) 0 O dX1_isCapital_6 rfl rfl rfl ?_
    refine g_bipush (v := 90) (pc' := 9) O dX1_isCapital_7 (by decide) rfl ?_
    refine g_icmp_gt (tgt := 16) (pc' := 12) O dX1_isCapital_9 (by decide) rfl (fun hc => ?_) (fun hc => ?_)
    · replace h := ip hc h
      refine g_sub (lv' := []) [] rfl ?_
      exact tX1_isCapital_16 O hf h
    · replace h := ine hc h
      refine g_iconst (v := 1) (pc' := 13) O dX1_isCapital_12 (by decide) rfl ?_
      refine g_goto (pc' := 17) O dX1_isCapital_13 (by decide) ?_
      refine g_sub (lv' := []) [] rfl ?_
      exact tX1_isCapital_17 O hf h
abbrev mX1_canWriteMoney : MD := (cX1_canWriteMoney, 1, RX1, (some .boolean), { frames := 1, cells := 0, slots := 0, locals := 20 }, "canWriteMoney")
theorem hyX1_canWriteMoney : yX1_canWriteMoney.cls ≠ "java/lang/invoke/MethodHandle" ∧ yX1_canWriteMoney.cls ≠ "java/lang/invoke/VarHandle" ∧ (parseMethodDescriptor yX1_canWriteMoney.desc).map (fun d => d.parameters.length) = some 1 := by decide +kernel
def fX1_canWriteMoney_40  (s0 : Int32) (M : Mem) : Option (Int32 × Mem) :=
  (nz s0).bind fun z1 =>
  some (z1, M)
set_option maxHeartbeats 4000000 in
set_option maxRecDepth 100000 in
theorem tX1_canWriteMoney_40 {κ : KT} {p : Int32 × Mem} (O : OkK κ mX1_canWriteMoney) (hf : κ.2.2.2.2.2.2.2.2.2.2.2.2.2 = (some (.int p.1), p.2))  {s0 : Int32} {M : Mem} (h : fX1_canWriteMoney_40  s0 M = some p) : G κ mX1_canWriteMoney 0 0 40 [] [.int s0] M := by
  unfold fX1_canWriteMoney_40 at h
  obtain ⟨z1, ez1, h⟩ := ob h
  obtain ⟨hz1, ez1b⟩ := nz_spec ez1
  rw [← ez1b] at hz1 ⊢
  cases h
  exact g_ireturn O dX1_canWriteMoney_40 rfl (nz_nar hz1) hf (by decide) (by decide)
def fX1_canWriteMoney_39  (M : Mem) : Option (Int32 × Mem) :=
  fX1_canWriteMoney_40 (0 : Int32) M
set_option maxHeartbeats 4000000 in
set_option maxRecDepth 100000 in
theorem tX1_canWriteMoney_39 {κ : KT} {p : Int32 × Mem} (O : OkK κ mX1_canWriteMoney) (hf : κ.2.2.2.2.2.2.2.2.2.2.2.2.2 = (some (.int p.1), p.2))  {M : Mem} (h : fX1_canWriteMoney_39  M = some p) : G κ mX1_canWriteMoney 0 0 39 [] [] M := by
  unfold fX1_canWriteMoney_39 at h
  refine g_iconst (v := 0) (pc' := 40) O dX1_canWriteMoney_39 (by decide) rfl ?_
  exact tX1_canWriteMoney_40 O hf h
def fX1_canWriteMoney  (p0 : Int32) (M : Mem) : Option (Int32 × Mem) :=
  (fX1_isCapital (p0 >>> ((16 : Int32) &&& 31)) M).bind fun r1 =>
  if r1.1 = 0 then (fX1_canWriteMoney_39 r1.2)
  else ((fX1_isCapital ((p0 >>> ((8 : Int32) &&& 31)) &&& (255 : Int32)) r1.2).bind fun r2 =>
  if r2.1 = 0 then (fX1_canWriteMoney_39 r2.2)
  else ((fX1_isCapital (p0 &&& (255 : Int32)) r2.2).bind fun r3 =>
  if r3.1 = 0 then (fX1_canWriteMoney_39 r3.2)
  else (fX1_canWriteMoney_40 (1 : Int32) r3.2)))
set_option maxHeartbeats 4000000 in
set_option maxRecDepth 100000 in
theorem okX1_canWriteMoney {l : Launch} {p : Int32 × Mem} {p0 : Int32} {M : Mem} (h : fX1_canWriteMoney p0 M = some p) : Cn l yX1_canWriteMoney mX1_canWriteMoney [.int p0] M (some (.int p.1)) p.2 := by
  refine Cn.of [(0, .int p0)] (by decide) rfl rfl (Nat.le_of_ble_eq_true rfl) rfl (fun κ _ hf O => ?_)
  unfold fX1_canWriteMoney at h
  refine g_iload_n (pc' := 1) 0 O dX1_canWriteMoney_0 rfl rfl rfl ?_
  refine g_bipush (v := 16) (pc' := 3) O dX1_canWriteMoney_1 (by decide) rfl ?_
  refine g_ishr (pc' := 4) O dX1_canWriteMoney_3 rfl ?_
  obtain ⟨r1, er1, h⟩ := ob h
  refine g_callS (y := yX1_isCapital) (ν := mX1_isCapital) (n := 1) (As := [.int (p0 >>> ((16 : Int32) &&& 31))]) (b := 0) (st := []) (M2 := r1.2) (r1 := (some (.int r1.1))) (pc' := 7) O dX1_canWriteMoney_4 tw_202 tw_59 tw_201 tw_200 hyX1_isCapital rfl (okX1_isCapital er1) (Nat.le_of_ble_eq_true rfl) ⟨Nat.le_of_ble_eq_true rfl, Nat.le_of_ble_eq_true rfl⟩ ⟨Nat.le_of_ble_eq_true rfl, Nat.le_of_ble_eq_true rfl⟩ rfl ?_
  show G κ mX1_canWriteMoney 0 0 7 [(0, .int p0)] [.int r1.1] r1.2
  refine g_if_eq (tgt := 39) (pc' := 10) O dX1_canWriteMoney_7 (by decide) rfl (fun hc => ?_) (fun hc => ?_)
  · replace h := ip hc h
    refine g_sub (lv' := []) [] rfl ?_
    exact tX1_canWriteMoney_39 O hf h
  · replace h := ine hc h
    refine g_iload_n (pc' := 11) 0 O dX1_canWriteMoney_10 rfl rfl rfl ?_
    refine g_bipush (v := 8) (pc' := 13) O dX1_canWriteMoney_11 (by decide) rfl ?_
    refine g_ishr (pc' := 14) O dX1_canWriteMoney_13 rfl ?_
    refine g_sipush (v := 255) (pc' := 17) O dX1_canWriteMoney_14 (by decide) rfl ?_
    refine g_iand (pc' := 18) O dX1_canWriteMoney_17 rfl ?_
    obtain ⟨r2, er2, h⟩ := ob h
    refine g_callS (y := yX1_isCapital) (ν := mX1_isCapital) (n := 1) (As := [.int ((p0 >>> ((8 : Int32) &&& 31)) &&& (255 : Int32))]) (b := 0) (st := []) (M2 := r2.2) (r1 := (some (.int r2.1))) (pc' := 21) O dX1_canWriteMoney_18 tw_202 tw_59 tw_201 tw_200 hyX1_isCapital rfl (okX1_isCapital er2) (Nat.le_of_ble_eq_true rfl) ⟨Nat.le_of_ble_eq_true rfl, Nat.le_of_ble_eq_true rfl⟩ ⟨Nat.le_of_ble_eq_true rfl, Nat.le_of_ble_eq_true rfl⟩ rfl ?_
    show G κ mX1_canWriteMoney 0 0 21 [(0, .int p0)] [.int r2.1] r2.2
    refine g_if_eq (tgt := 39) (pc' := 24) O dX1_canWriteMoney_21 (by decide) rfl (fun hc => ?_) (fun hc => ?_)
    · replace h := ip hc h
      refine g_sub (lv' := []) [] rfl ?_
      exact tX1_canWriteMoney_39 O hf h
    · replace h := ine hc h
      refine g_iload_n (pc' := 25) 0 O dX1_canWriteMoney_24 rfl rfl rfl ?_
      refine g_sipush (v := 255) (pc' := 28) O dX1_canWriteMoney_25 (by decide) rfl ?_
      refine g_iand (pc' := 29) O dX1_canWriteMoney_28 rfl ?_
      obtain ⟨r3, er3, h⟩ := ob h
      refine g_callS (y := yX1_isCapital) (ν := mX1_isCapital) (n := 1) (As := [.int (p0 &&& (255 : Int32))]) (b := 0) (st := []) (M2 := r3.2) (r1 := (some (.int r3.1))) (pc' := 32) O dX1_canWriteMoney_29 tw_202 tw_59 tw_201 tw_200 hyX1_isCapital rfl (okX1_isCapital er3) (Nat.le_of_ble_eq_true rfl) ⟨Nat.le_of_ble_eq_true rfl, Nat.le_of_ble_eq_true rfl⟩ ⟨Nat.le_of_ble_eq_true rfl, Nat.le_of_ble_eq_true rfl⟩ rfl ?_
      show G κ mX1_canWriteMoney 0 0 32 [(0, .int p0)] [.int r3.1] r3.2
      refine g_if_eq (tgt := 39) (pc' := 35) O dX1_canWriteMoney_32 (by decide) rfl (fun hc => ?_) (fun hc => ?_)
      · replace h := ip hc h
        refine g_sub (lv' := []) [] rfl ?_
        exact tX1_canWriteMoney_39 O hf h
      · replace h := ine hc h
        refine g_iconst (v := 1) (pc' := 36) O dX1_canWriteMoney_35 (by decide) rfl ?_
        refine g_goto (pc' := 40) O dX1_canWriteMoney_36 (by decide) ?_
        refine g_sub (lv' := []) [] rfl ?_
        exact tX1_canWriteMoney_40 O hf h
end
