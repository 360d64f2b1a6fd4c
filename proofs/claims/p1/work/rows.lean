section
-- ===== PART A: goes FIRST, ahead of the names: the tables' words, and 'selects' of the private methods out of them =====
/-- a private method of a class that the tables say can be made, by its rows of tables_1 -/
def lw_okq (q : MethodName × Nat) : Prop := (q.1.cls ≠ "java/lang/invoke/MethodHandle" ∧ q.1.cls ≠ "java/lang/invoke/VarHandle") ∧ Cond.instantiable q.1.cls q.2 ∈ tables_1 ∧ Cond.privateMethod q.1 ∈ tables_1 ∧ Cond.instanceMethod q.1 ∈ tables_1
theorem lw_p0 : lw_okq (⟨"CharOutlines$Bytes", "makeRoom", "(I)V"⟩, 2) := ⟨⟨by decide +kernel, by decide +kernel⟩, List.mem_of_getElem? (i := 28) (by decide +kernel), List.mem_of_getElem? (i := 193) (by decide +kernel), List.mem_of_getElem? (i := 194) (by decide +kernel)⟩
theorem lw_p1 : lw_okq (⟨"java/lang/Throwable", "fillInStackTrace", "(I)Ljava/lang/Throwable;"⟩, 6) := ⟨⟨by decide +kernel, by decide +kernel⟩, List.mem_of_getElem? (i := 279) (by decide +kernel), List.mem_of_getElem? (i := 277) (by decide +kernel), List.mem_of_getElem? (i := 278) (by decide +kernel)⟩
theorem lw_p2 : lw_okq (⟨"CharOutlines$Machine", "begin", "(I)V"⟩, 11) := ⟨⟨by decide +kernel, by decide +kernel⟩, List.mem_of_getElem? (i := 42) (by decide +kernel), List.mem_of_getElem? (i := 401) (by decide +kernel), List.mem_of_getElem? (i := 402) (by decide +kernel)⟩
theorem lw_p3 : lw_okq (⟨"CharOutlines$Machine", "readCode", "()I"⟩, 11) := ⟨⟨by decide +kernel, by decide +kernel⟩, List.mem_of_getElem? (i := 42) (by decide +kernel), List.mem_of_getElem? (i := 435) (by decide +kernel), List.mem_of_getElem? (i := 436) (by decide +kernel)⟩
theorem lw_p4 : lw_okq (⟨"CharOutlines$Machine", "perform", "(I)I"⟩, 11) := ⟨⟨by decide +kernel, by decide +kernel⟩, List.mem_of_getElem? (i := 42) (by decide +kernel), List.mem_of_getElem? (i := 451) (by decide +kernel), List.mem_of_getElem? (i := 452) (by decide +kernel)⟩
theorem lw_p5 : lw_okq (⟨"CharOutlines$Machine", "pushNumber", "(I)I"⟩, 11) := ⟨⟨by decide +kernel, by decide +kernel⟩, List.mem_of_getElem? (i := 42) (by decide +kernel), List.mem_of_getElem? (i := 455) (by decide +kernel), List.mem_of_getElem? (i := 456) (by decide +kernel)⟩
theorem lw_p6 : lw_okq (⟨"CharOutlines$Machine", "draw", "(I)I"⟩, 11) := ⟨⟨by decide +kernel, by decide +kernel⟩, List.mem_of_getElem? (i := 42) (by decide +kernel), List.mem_of_getElem? (i := 473) (by decide +kernel), List.mem_of_getElem? (i := 474) (by decide +kernel)⟩
theorem lw_p7 : lw_okq (⟨"CharOutlines$Outline", "add", "(IIIIIII)Z"⟩, 4) := ⟨⟨by decide +kernel, by decide +kernel⟩, List.mem_of_getElem? (i := 121) (by decide +kernel), List.mem_of_getElem? (i := 509) (by decide +kernel), List.mem_of_getElem? (i := 510) (by decide +kernel)⟩
theorem lw_p8 : lw_okq (⟨"CharOutlines$Machine", "hint", "()I"⟩, 11) := ⟨⟨by decide +kernel, by decide +kernel⟩, List.mem_of_getElem? (i := 42) (by decide +kernel), List.mem_of_getElem? (i := 544) (by decide +kernel), List.mem_of_getElem? (i := 545) (by decide +kernel)⟩
theorem lw_p9 : lw_okq (⟨"CharOutlines$Machine", "passWidth", "(I)Z"⟩, 11) := ⟨⟨by decide +kernel, by decide +kernel⟩, List.mem_of_getElem? (i := 42) (by decide +kernel), List.mem_of_getElem? (i := 548) (by decide +kernel), List.mem_of_getElem? (i := 549) (by decide +kernel)⟩
theorem lw_p10 : lw_okq (⟨"CharOutlines$Machine", "mask", "()I"⟩, 11) := ⟨⟨by decide +kernel, by decide +kernel⟩, List.mem_of_getElem? (i := 42) (by decide +kernel), List.mem_of_getElem? (i := 553) (by decide +kernel), List.mem_of_getElem? (i := 554) (by decide +kernel)⟩
theorem lw_p11 : lw_okq (⟨"CharOutlines$Machine", "move", "(I)I"⟩, 11) := ⟨⟨by decide +kernel, by decide +kernel⟩, List.mem_of_getElem? (i := 42) (by decide +kernel), List.mem_of_getElem? (i := 561) (by decide +kernel), List.mem_of_getElem? (i := 562) (by decide +kernel)⟩
theorem lw_p12 : lw_okq (⟨"CharOutlines$Machine", "end", "()I"⟩, 11) := ⟨⟨by decide +kernel, by decide +kernel⟩, List.mem_of_getElem? (i := 42) (by decide +kernel), List.mem_of_getElem? (i := 573) (by decide +kernel), List.mem_of_getElem? (i := 574) (by decide +kernel)⟩
theorem lw_p13 : lw_okq (⟨"CharOutlines$Machine", "call", "(I)I"⟩, 11) := ⟨⟨by decide +kernel, by decide +kernel⟩, List.mem_of_getElem? (i := 42) (by decide +kernel), List.mem_of_getElem? (i := 577) (by decide +kernel), List.mem_of_getElem? (i := 578) (by decide +kernel)⟩
theorem lw_p14 : lw_okq (⟨"CharOutlines$Reckoning", "ofOne", "(ILCharOutlines$Values;)I"⟩, 1) := ⟨⟨by decide +kernel, by decide +kernel⟩, List.mem_of_getElem? (i := 111) (by decide +kernel), List.mem_of_getElem? (i := 604) (by decide +kernel), List.mem_of_getElem? (i := 605) (by decide +kernel)⟩
theorem lw_p15 : lw_okq (⟨"CharOutlines$Reckoning", "load", "(ILCharOutlines$Values;)I"⟩, 1) := ⟨⟨by decide +kernel, by decide +kernel⟩, List.mem_of_getElem? (i := 111) (by decide +kernel), List.mem_of_getElem? (i := 615) (by decide +kernel), List.mem_of_getElem? (i := 616) (by decide +kernel)⟩
def lw_privs_1 : List (MethodName × Nat) := [(⟨"CharOutlines$Bytes", "makeRoom", "(I)V"⟩, 2), (⟨"java/lang/Throwable", "fillInStackTrace", "(I)Ljava/lang/Throwable;"⟩, 6), (⟨"CharOutlines$Machine", "begin", "(I)V"⟩, 11), (⟨"CharOutlines$Machine", "readCode", "()I"⟩, 11), (⟨"CharOutlines$Machine", "perform", "(I)I"⟩, 11), (⟨"CharOutlines$Machine", "pushNumber", "(I)I"⟩, 11), (⟨"CharOutlines$Machine", "draw", "(I)I"⟩, 11), (⟨"CharOutlines$Outline", "add", "(IIIIIII)Z"⟩, 4), (⟨"CharOutlines$Machine", "hint", "()I"⟩, 11), (⟨"CharOutlines$Machine", "passWidth", "(I)Z"⟩, 11), (⟨"CharOutlines$Machine", "mask", "()I"⟩, 11), (⟨"CharOutlines$Machine", "move", "(I)I"⟩, 11), (⟨"CharOutlines$Machine", "end", "()I"⟩, 11), (⟨"CharOutlines$Machine", "call", "(I)I"⟩, 11), (⟨"CharOutlines$Reckoning", "ofOne", "(ILCharOutlines$Values;)I"⟩, 1), (⟨"CharOutlines$Reckoning", "load", "(ILCharOutlines$Values;)I"⟩, 1)]
theorem lw_r1 : ∀ q ∈ lw_privs_1, lw_okq q := List.forall_mem_cons.mpr ⟨lw_p0, List.forall_mem_cons.mpr ⟨lw_p1, List.forall_mem_cons.mpr ⟨lw_p2, List.forall_mem_cons.mpr ⟨lw_p3, List.forall_mem_cons.mpr ⟨lw_p4, List.forall_mem_cons.mpr ⟨lw_p5, List.forall_mem_cons.mpr ⟨lw_p6, List.forall_mem_cons.mpr ⟨lw_p7, List.forall_mem_cons.mpr ⟨lw_p8, List.forall_mem_cons.mpr ⟨lw_p9, List.forall_mem_cons.mpr ⟨lw_p10, List.forall_mem_cons.mpr ⟨lw_p11, List.forall_mem_cons.mpr ⟨lw_p12, List.forall_mem_cons.mpr ⟨lw_p13, List.forall_mem_cons.mpr ⟨lw_p14, List.forall_mem_cons.mpr ⟨lw_p15, fun _ h => absurd h List.not_mem_nil⟩⟩⟩⟩⟩⟩⟩⟩⟩⟩⟩⟩⟩⟩⟩⟩
theorem lw_p16 : lw_okq (⟨"CharOutlines$Reckoning", "ofTwo", "(ILCharOutlines$Values;)I"⟩, 1) := ⟨⟨by decide +kernel, by decide +kernel⟩, List.mem_of_getElem? (i := 111) (by decide +kernel), List.mem_of_getElem? (i := 628) (by decide +kernel), List.mem_of_getElem? (i := 629) (by decide +kernel)⟩
theorem lw_p17 : lw_okq (⟨"CharOutlines$Reckoning", "store", "(II)I"⟩, 1) := ⟨⟨by decide +kernel, by decide +kernel⟩, List.mem_of_getElem? (i := 111) (by decide +kernel), List.mem_of_getElem? (i := 635) (by decide +kernel), List.mem_of_getElem? (i := 636) (by decide +kernel)⟩
theorem lw_p18 : lw_okq (⟨"CharOutlinesModel", "refused", "(I)Z"⟩, 29) := ⟨⟨by decide +kernel, by decide +kernel⟩, List.mem_of_getElem? (i := 686) (by decide +kernel), List.mem_of_getElem? (i := 793) (by decide +kernel), List.mem_of_getElem? (i := 794) (by decide +kernel)⟩
theorem lw_p19 : lw_okq (⟨"CharOutlinesModel", "isShelf", "()Z"⟩, 29) := ⟨⟨by decide +kernel, by decide +kernel⟩, List.mem_of_getElem? (i := 686) (by decide +kernel), List.mem_of_getElem? (i := 805) (by decide +kernel), List.mem_of_getElem? (i := 806) (by decide +kernel)⟩
theorem lw_p20 : lw_okq (⟨"CharOutlinesModel", "rowNumber", "(II)J"⟩, 29) := ⟨⟨by decide +kernel, by decide +kernel⟩, List.mem_of_getElem? (i := 686) (by decide +kernel), List.mem_of_getElem? (i := 809) (by decide +kernel), List.mem_of_getElem? (i := 810) (by decide +kernel)⟩
theorem lw_p21 : lw_okq (⟨"CharOutlinesModel", "enter", "(II)V"⟩, 29) := ⟨⟨by decide +kernel, by decide +kernel⟩, List.mem_of_getElem? (i := 686) (by decide +kernel), List.mem_of_getElem? (i := 822) (by decide +kernel), List.mem_of_getElem? (i := 823) (by decide +kernel)⟩
theorem lw_p22 : lw_okq (⟨"CharOutlinesModel", "begin", "(II)I"⟩, 29) := ⟨⟨by decide +kernel, by decide +kernel⟩, List.mem_of_getElem? (i := 686) (by decide +kernel), List.mem_of_getElem? (i := 826) (by decide +kernel), List.mem_of_getElem? (i := 827) (by decide +kernel)⟩
theorem lw_p23 : lw_okq (⟨"CharOutlinesModel", "step", "()V"⟩, 29) := ⟨⟨by decide +kernel, by decide +kernel⟩, List.mem_of_getElem? (i := 686) (by decide +kernel), List.mem_of_getElem? (i := 830) (by decide +kernel), List.mem_of_getElem? (i := 831) (by decide +kernel)⟩
theorem lw_p24 : lw_okq (⟨"CharOutlinesModel", "fail", "(I)V"⟩, 29) := ⟨⟨by decide +kernel, by decide +kernel⟩, List.mem_of_getElem? (i := 686) (by decide +kernel), List.mem_of_getElem? (i := 834) (by decide +kernel), List.mem_of_getElem? (i := 835) (by decide +kernel)⟩
theorem lw_p25 : lw_okq (⟨"CharOutlinesModel", "next", "()I"⟩, 29) := ⟨⟨by decide +kernel, by decide +kernel⟩, List.mem_of_getElem? (i := 686) (by decide +kernel), List.mem_of_getElem? (i := 838) (by decide +kernel), List.mem_of_getElem? (i := 839) (by decide +kernel)⟩
theorem lw_p26 : lw_okq (⟨"CharOutlinesModel", "number", "(I)I"⟩, 29) := ⟨⟨by decide +kernel, by decide +kernel⟩, List.mem_of_getElem? (i := 686) (by decide +kernel), List.mem_of_getElem? (i := 842) (by decide +kernel), List.mem_of_getElem? (i := 843) (by decide +kernel)⟩
theorem lw_p27 : lw_okq (⟨"CharOutlinesModel", "push", "(I)V"⟩, 29) := ⟨⟨by decide +kernel, by decide +kernel⟩, List.mem_of_getElem? (i := 686) (by decide +kernel), List.mem_of_getElem? (i := 847) (by decide +kernel), List.mem_of_getElem? (i := 848) (by decide +kernel)⟩
theorem lw_p28 : lw_okq (⟨"CharOutlinesModel", "longOperator", "(I)V"⟩, 29) := ⟨⟨by decide +kernel, by decide +kernel⟩, List.mem_of_getElem? (i := 686) (by decide +kernel), List.mem_of_getElem? (i := 851) (by decide +kernel), List.mem_of_getElem? (i := 852) (by decide +kernel)⟩
theorem lw_p29 : lw_okq (⟨"CharOutlinesModel", "flex", "(I)V"⟩, 29) := ⟨⟨by decide +kernel, by decide +kernel⟩, List.mem_of_getElem? (i := 686) (by decide +kernel), List.mem_of_getElem? (i := 855) (by decide +kernel), List.mem_of_getElem? (i := 856) (by decide +kernel)⟩
theorem lw_p30 : lw_okq (⟨"CharOutlinesModel", "may", "(Z)Z"⟩, 29) := ⟨⟨by decide +kernel, by decide +kernel⟩, List.mem_of_getElem? (i := 686) (by decide +kernel), List.mem_of_getElem? (i := 859) (by decide +kernel), List.mem_of_getElem? (i := 860) (by decide +kernel)⟩
theorem lw_p31 : lw_okq (⟨"CharOutlinesModel", "six", "(I)V"⟩, 29) := ⟨⟨by decide +kernel, by decide +kernel⟩, List.mem_of_getElem? (i := 686) (by decide +kernel), List.mem_of_getElem? (i := 863) (by decide +kernel), List.mem_of_getElem? (i := 864) (by decide +kernel)⟩
def lw_privs_2 : List (MethodName × Nat) := [(⟨"CharOutlines$Reckoning", "ofTwo", "(ILCharOutlines$Values;)I"⟩, 1), (⟨"CharOutlines$Reckoning", "store", "(II)I"⟩, 1), (⟨"CharOutlinesModel", "refused", "(I)Z"⟩, 29), (⟨"CharOutlinesModel", "isShelf", "()Z"⟩, 29), (⟨"CharOutlinesModel", "rowNumber", "(II)J"⟩, 29), (⟨"CharOutlinesModel", "enter", "(II)V"⟩, 29), (⟨"CharOutlinesModel", "begin", "(II)I"⟩, 29), (⟨"CharOutlinesModel", "step", "()V"⟩, 29), (⟨"CharOutlinesModel", "fail", "(I)V"⟩, 29), (⟨"CharOutlinesModel", "next", "()I"⟩, 29), (⟨"CharOutlinesModel", "number", "(I)I"⟩, 29), (⟨"CharOutlinesModel", "push", "(I)V"⟩, 29), (⟨"CharOutlinesModel", "longOperator", "(I)V"⟩, 29), (⟨"CharOutlinesModel", "flex", "(I)V"⟩, 29), (⟨"CharOutlinesModel", "may", "(Z)Z"⟩, 29), (⟨"CharOutlinesModel", "six", "(I)V"⟩, 29)]
theorem lw_r2 : ∀ q ∈ lw_privs_2, lw_okq q := List.forall_mem_cons.mpr ⟨lw_p16, List.forall_mem_cons.mpr ⟨lw_p17, List.forall_mem_cons.mpr ⟨lw_p18, List.forall_mem_cons.mpr ⟨lw_p19, List.forall_mem_cons.mpr ⟨lw_p20, List.forall_mem_cons.mpr ⟨lw_p21, List.forall_mem_cons.mpr ⟨lw_p22, List.forall_mem_cons.mpr ⟨lw_p23, List.forall_mem_cons.mpr ⟨lw_p24, List.forall_mem_cons.mpr ⟨lw_p25, List.forall_mem_cons.mpr ⟨lw_p26, List.forall_mem_cons.mpr ⟨lw_p27, List.forall_mem_cons.mpr ⟨lw_p28, List.forall_mem_cons.mpr ⟨lw_p29, List.forall_mem_cons.mpr ⟨lw_p30, List.forall_mem_cons.mpr ⟨lw_p31, fun _ h => absurd h List.not_mem_nil⟩⟩⟩⟩⟩⟩⟩⟩⟩⟩⟩⟩⟩⟩⟩⟩
theorem lw_p32 : lw_okq (⟨"CharOutlinesModel", "curve", "(IIIIII)V"⟩, 29) := ⟨⟨by decide +kernel, by decide +kernel⟩, List.mem_of_getElem? (i := 686) (by decide +kernel), List.mem_of_getElem? (i := 867) (by decide +kernel), List.mem_of_getElem? (i := 868) (by decide +kernel)⟩
theorem lw_p33 : lw_okq (⟨"CharOutlinesModel", "add", "(IIIII)V"⟩, 29) := ⟨⟨by decide +kernel, by decide +kernel⟩, List.mem_of_getElem? (i := 686) (by decide +kernel), List.mem_of_getElem? (i := 871) (by decide +kernel), List.mem_of_getElem? (i := 872) (by decide +kernel)⟩
theorem lw_p34 : lw_okq (⟨"CharOutlinesModel", "two", "(IIIIII)V"⟩, 29) := ⟨⟨by decide +kernel, by decide +kernel⟩, List.mem_of_getElem? (i := 686) (by decide +kernel), List.mem_of_getElem? (i := 875) (by decide +kernel), List.mem_of_getElem? (i := 876) (by decide +kernel)⟩
theorem lw_p35 : lw_okq (⟨"CharOutlinesModel", "take", "()V"⟩, 29) := ⟨⟨by decide +kernel, by decide +kernel⟩, List.mem_of_getElem? (i := 686) (by decide +kernel), List.mem_of_getElem? (i := 879) (by decide +kernel), List.mem_of_getElem? (i := 880) (by decide +kernel)⟩
theorem lw_p36 : lw_okq (⟨"CharOutlinesModel", "one", "(I)V"⟩, 29) := ⟨⟨by decide +kernel, by decide +kernel⟩, List.mem_of_getElem? (i := 686) (by decide +kernel), List.mem_of_getElem? (i := 886) (by decide +kernel), List.mem_of_getElem? (i := 887) (by decide +kernel)⟩
theorem lw_p37 : lw_okq (⟨"CharOutlinesModel", "has", "(I)Z"⟩, 29) := ⟨⟨by decide +kernel, by decide +kernel⟩, List.mem_of_getElem? (i := 686) (by decide +kernel), List.mem_of_getElem? (i := 890) (by decide +kernel), List.mem_of_getElem? (i := 891) (by decide +kernel)⟩
theorem lw_p38 : lw_okq (⟨"CharOutlinesModel", "pair", "(I)V"⟩, 29) := ⟨⟨by decide +kernel, by decide +kernel⟩, List.mem_of_getElem? (i := 686) (by decide +kernel), List.mem_of_getElem? (i := 903) (by decide +kernel), List.mem_of_getElem? (i := 904) (by decide +kernel)⟩
theorem lw_p39 : lw_okq (⟨"CharOutlinesModel", "choose", "()V"⟩, 29) := ⟨⟨by decide +kernel, by decide +kernel⟩, List.mem_of_getElem? (i := 686) (by decide +kernel), List.mem_of_getElem? (i := 910) (by decide +kernel), List.mem_of_getElem? (i := 911) (by decide +kernel)⟩
theorem lw_p40 : lw_okq (⟨"CharOutlinesModel", "index", "()V"⟩, 29) := ⟨⟨by decide +kernel, by decide +kernel⟩, List.mem_of_getElem? (i := 686) (by decide +kernel), List.mem_of_getElem? (i := 914) (by decide +kernel), List.mem_of_getElem? (i := 915) (by decide +kernel)⟩
theorem lw_p41 : lw_okq (⟨"CharOutlinesModel", "roll", "()V"⟩, 29) := ⟨⟨by decide +kernel, by decide +kernel⟩, List.mem_of_getElem? (i := 686) (by decide +kernel), List.mem_of_getElem? (i := 921) (by decide +kernel), List.mem_of_getElem? (i := 922) (by decide +kernel)⟩
theorem lw_p42 : lw_okq (⟨"CharOutlinesModel", "store", "()V"⟩, 29) := ⟨⟨by decide +kernel, by decide +kernel⟩, List.mem_of_getElem? (i := 686) (by decide +kernel), List.mem_of_getElem? (i := 925) (by decide +kernel), List.mem_of_getElem? (i := 926) (by decide +kernel)⟩
theorem lw_p43 : lw_okq (⟨"CharOutlinesModel", "load", "()V"⟩, 29) := ⟨⟨by decide +kernel, by decide +kernel⟩, List.mem_of_getElem? (i := 686) (by decide +kernel), List.mem_of_getElem? (i := 929) (by decide +kernel), List.mem_of_getElem? (i := 930) (by decide +kernel)⟩
theorem lw_p44 : lw_okq (⟨"CharOutlinesModel", "operator", "(I)V"⟩, 29) := ⟨⟨by decide +kernel, by decide +kernel⟩, List.mem_of_getElem? (i := 686) (by decide +kernel), List.mem_of_getElem? (i := 933) (by decide +kernel), List.mem_of_getElem? (i := 934) (by decide +kernel)⟩
theorem lw_p45 : lw_okq (⟨"CharOutlinesModel", "stems", "(Z)V"⟩, 29) := ⟨⟨by decide +kernel, by decide +kernel⟩, List.mem_of_getElem? (i := 686) (by decide +kernel), List.mem_of_getElem? (i := 937) (by decide +kernel), List.mem_of_getElem? (i := 938) (by decide +kernel)⟩
theorem lw_p46 : lw_okq (⟨"CharOutlinesModel", "begins", "(Z)I"⟩, 29) := ⟨⟨by decide +kernel, by decide +kernel⟩, List.mem_of_getElem? (i := 686) (by decide +kernel), List.mem_of_getElem? (i := 941) (by decide +kernel), List.mem_of_getElem? (i := 942) (by decide +kernel)⟩
theorem lw_p47 : lw_okq (⟨"CharOutlinesModel", "move", "(I)V"⟩, 29) := ⟨⟨by decide +kernel, by decide +kernel⟩, List.mem_of_getElem? (i := 686) (by decide +kernel), List.mem_of_getElem? (i := 945) (by decide +kernel), List.mem_of_getElem? (i := 946) (by decide +kernel)⟩
def lw_privs_3 : List (MethodName × Nat) := [(⟨"CharOutlinesModel", "curve", "(IIIIII)V"⟩, 29), (⟨"CharOutlinesModel", "add", "(IIIII)V"⟩, 29), (⟨"CharOutlinesModel", "two", "(IIIIII)V"⟩, 29), (⟨"CharOutlinesModel", "take", "()V"⟩, 29), (⟨"CharOutlinesModel", "one", "(I)V"⟩, 29), (⟨"CharOutlinesModel", "has", "(I)Z"⟩, 29), (⟨"CharOutlinesModel", "pair", "(I)V"⟩, 29), (⟨"CharOutlinesModel", "choose", "()V"⟩, 29), (⟨"CharOutlinesModel", "index", "()V"⟩, 29), (⟨"CharOutlinesModel", "roll", "()V"⟩, 29), (⟨"CharOutlinesModel", "store", "()V"⟩, 29), (⟨"CharOutlinesModel", "load", "()V"⟩, 29), (⟨"CharOutlinesModel", "operator", "(I)V"⟩, 29), (⟨"CharOutlinesModel", "stems", "(Z)V"⟩, 29), (⟨"CharOutlinesModel", "begins", "(Z)I"⟩, 29), (⟨"CharOutlinesModel", "move", "(I)V"⟩, 29)]
theorem lw_r3 : ∀ q ∈ lw_privs_3, lw_okq q := List.forall_mem_cons.mpr ⟨lw_p32, List.forall_mem_cons.mpr ⟨lw_p33, List.forall_mem_cons.mpr ⟨lw_p34, List.forall_mem_cons.mpr ⟨lw_p35, List.forall_mem_cons.mpr ⟨lw_p36, List.forall_mem_cons.mpr ⟨lw_p37, List.forall_mem_cons.mpr ⟨lw_p38, List.forall_mem_cons.mpr ⟨lw_p39, List.forall_mem_cons.mpr ⟨lw_p40, List.forall_mem_cons.mpr ⟨lw_p41, List.forall_mem_cons.mpr ⟨lw_p42, List.forall_mem_cons.mpr ⟨lw_p43, List.forall_mem_cons.mpr ⟨lw_p44, List.forall_mem_cons.mpr ⟨lw_p45, List.forall_mem_cons.mpr ⟨lw_p46, List.forall_mem_cons.mpr ⟨lw_p47, fun _ h => absurd h List.not_mem_nil⟩⟩⟩⟩⟩⟩⟩⟩⟩⟩⟩⟩⟩⟩⟩⟩
theorem lw_p48 : lw_okq (⟨"CharOutlinesModel", "end", "()V"⟩, 29) := ⟨⟨by decide +kernel, by decide +kernel⟩, List.mem_of_getElem? (i := 686) (by decide +kernel), List.mem_of_getElem? (i := 949) (by decide +kernel), List.mem_of_getElem? (i := 950) (by decide +kernel)⟩
theorem lw_p49 : lw_okq (⟨"CharOutlinesModel", "lines", "()V"⟩, 29) := ⟨⟨by decide +kernel, by decide +kernel⟩, List.mem_of_getElem? (i := 686) (by decide +kernel), List.mem_of_getElem? (i := 953) (by decide +kernel), List.mem_of_getElem? (i := 954) (by decide +kernel)⟩
theorem lw_p50 : lw_okq (⟨"CharOutlinesModel", "line", "(II)V"⟩, 29) := ⟨⟨by decide +kernel, by decide +kernel⟩, List.mem_of_getElem? (i := 686) (by decide +kernel), List.mem_of_getElem? (i := 957) (by decide +kernel), List.mem_of_getElem? (i := 958) (by decide +kernel)⟩
theorem lw_p51 : lw_okq (⟨"CharOutlinesModel", "turns", "(Z)V"⟩, 29) := ⟨⟨by decide +kernel, by decide +kernel⟩, List.mem_of_getElem? (i := 686) (by decide +kernel), List.mem_of_getElem? (i := 961) (by decide +kernel), List.mem_of_getElem? (i := 962) (by decide +kernel)⟩
theorem lw_p52 : lw_okq (⟨"CharOutlinesModel", "curves", "()V"⟩, 29) := ⟨⟨by decide +kernel, by decide +kernel⟩, List.mem_of_getElem? (i := 686) (by decide +kernel), List.mem_of_getElem? (i := 965) (by decide +kernel), List.mem_of_getElem? (i := 966) (by decide +kernel)⟩
theorem lw_p53 : lw_okq (⟨"CharOutlinesModel", "flats", "(Z)V"⟩, 29) := ⟨⟨by decide +kernel, by decide +kernel⟩, List.mem_of_getElem? (i := 686) (by decide +kernel), List.mem_of_getElem? (i := 969) (by decide +kernel), List.mem_of_getElem? (i := 970) (by decide +kernel)⟩
theorem lw_p54 : lw_okq (⟨"CharOutlinesModel", "waves", "(Z)V"⟩, 29) := ⟨⟨by decide +kernel, by decide +kernel⟩, List.mem_of_getElem? (i := 686) (by decide +kernel), List.mem_of_getElem? (i := 973) (by decide +kernel), List.mem_of_getElem? (i := 974) (by decide +kernel)⟩
theorem lw_p55 : lw_okq (⟨"CharOutlinesModel", "curvesLine", "()V"⟩, 29) := ⟨⟨by decide +kernel, by decide +kernel⟩, List.mem_of_getElem? (i := 686) (by decide +kernel), List.mem_of_getElem? (i := 977) (by decide +kernel), List.mem_of_getElem? (i := 978) (by decide +kernel)⟩
theorem lw_p56 : lw_okq (⟨"CharOutlinesModel", "linesCurve", "()V"⟩, 29) := ⟨⟨by decide +kernel, by decide +kernel⟩, List.mem_of_getElem? (i := 686) (by decide +kernel), List.mem_of_getElem? (i := 981) (by decide +kernel), List.mem_of_getElem? (i := 982) (by decide +kernel)⟩
theorem lw_p57 : lw_okq (⟨"CharOutlinesModel", "call", "(I)V"⟩, 29) := ⟨⟨by decide +kernel, by decide +kernel⟩, List.mem_of_getElem? (i := 686) (by decide +kernel), List.mem_of_getElem? (i := 985) (by decide +kernel), List.mem_of_getElem? (i := 986) (by decide +kernel)⟩
theorem lw_p58 : lw_okq (⟨"CharOutlinesModel", "back", "()V"⟩, 29) := ⟨⟨by decide +kernel, by decide +kernel⟩, List.mem_of_getElem? (i := 686) (by decide +kernel), List.mem_of_getElem? (i := 989) (by decide +kernel), List.mem_of_getElem? (i := 990) (by decide +kernel)⟩
def lw_privs_4 : List (MethodName × Nat) := [(⟨"CharOutlinesModel", "end", "()V"⟩, 29), (⟨"CharOutlinesModel", "lines", "()V"⟩, 29), (⟨"CharOutlinesModel", "line", "(II)V"⟩, 29), (⟨"CharOutlinesModel", "turns", "(Z)V"⟩, 29), (⟨"CharOutlinesModel", "curves", "()V"⟩, 29), (⟨"CharOutlinesModel", "flats", "(Z)V"⟩, 29), (⟨"CharOutlinesModel", "waves", "(Z)V"⟩, 29), (⟨"CharOutlinesModel", "curvesLine", "()V"⟩, 29), (⟨"CharOutlinesModel", "linesCurve", "()V"⟩, 29), (⟨"CharOutlinesModel", "call", "(I)V"⟩, 29), (⟨"CharOutlinesModel", "back", "()V"⟩, 29)]
theorem lw_r4 : ∀ q ∈ lw_privs_4, lw_okq q := List.forall_mem_cons.mpr ⟨lw_p48, List.forall_mem_cons.mpr ⟨lw_p49, List.forall_mem_cons.mpr ⟨lw_p50, List.forall_mem_cons.mpr ⟨lw_p51, List.forall_mem_cons.mpr ⟨lw_p52, List.forall_mem_cons.mpr ⟨lw_p53, List.forall_mem_cons.mpr ⟨lw_p54, List.forall_mem_cons.mpr ⟨lw_p55, List.forall_mem_cons.mpr ⟨lw_p56, List.forall_mem_cons.mpr ⟨lw_p57, List.forall_mem_cons.mpr ⟨lw_p58, fun _ h => absurd h List.not_mem_nil⟩⟩⟩⟩⟩⟩⟩⟩⟩⟩⟩
def lw_privs : List (MethodName × Nat) := lw_privs_1 ++ (lw_privs_2 ++ (lw_privs_3 ++ (lw_privs_4)))
def lw_tbl : List Cond := k2_sels lw_privs ++ tables_1
theorem lw_privs_ok : ∀ q ∈ lw_privs, lw_okq q := by
  show ∀ q ∈ lw_privs_1 ++ (lw_privs_2 ++ (lw_privs_3 ++ (lw_privs_4))), lw_okq q
  exact List.forall_mem_append.mpr ⟨lw_r1, List.forall_mem_append.mpr ⟨lw_r2, List.forall_mem_append.mpr ⟨lw_r3, lw_r4⟩⟩⟩
end
section
/-! THE BASE: contracts as triples over worlds (small footprints, a frame rule), that tell how many cells and slots came. -/
def MetK (l : Launch) (y : MethodName) (ws : List Cond) (rm : Room) (Pc : Array Value → State → Prop) (Qc : Array Value → State → Outcome → State → List Loc → Nat → Nat → Prop) : Prop :=
  MetFree l y (headSpec ws rm) Pc (fun _ _ _ _ _ => True) (fun a st o t => ∃ L k n, FrameEnd st o t L k n ∧ Qc a st o t L k n)
def PreK (R rm : Room) (Pc : Array Value → State → Prop) : Pt → Array Value → Prop := fun A a => A.cells + rm.cells ≤ R.cells ∧ A.slots + rm.slots ≤ R.slots ∧ Pc a A.U
def PostK (Qc : Array Value → State → Outcome → State → List Loc → Nat → Nat → Prop) : Pt → Array Value → Option Value → Pt → Prop := fun A a v B =>
  ∃ (g : JFrame) (mk : MethodId) (t : State) (L : List Loc) (k n : Nat), B.U.heap = t.heap ∧ B.U.vm = t.vm ∧ Qc a (A.U.calling g mk a) (.returned v) t L k n ∧ B.locs = A.locs ++ L ∧ B.cells = A.cells + k ∧ B.slots = A.slots + n
section BK
variable {l : Launch} {R : Room} {p : Program} {e : Env} {below : List Frame} {s : State} {sargs : Array Value} {y : MethodName} {len W : Nat}
theorem back_ofK {ws : List Cond} {rm : Room} {Pc : Array Value → State → Prop} {Qc : Array Value → State → Outcome → State → List Loc → Nat → Nat → Prop} {bytes : ByteArray} {maxL : Nat} {ret : Option FieldType}
    (hM : MetK l y ws rm Pc Qc) (hblind : FrameBlind Pc) (hframes : rm.frames + 1 ≤ R.frames) (hlocals : W + (maxL + 11) + rm.locals ≤ R.locals)
    (hws : ∀ w ∈ ws, ∀ a' U, s.WarmedH U.vm → w.before a' U = true) (hcode : Cond.code y bytes maxL ret ∈ ws) (hinit : ∀ a' U, s.WarmedH U.vm → (Cond.initialized y.cls).before a' U = true) :
    Back l R p e below s sargs y len W (PreK R rm Pc) (PostK Qc) := by
  refine Back.of_free (S := headSpec ws rm) (P := Pc) (K := fun _ _ _ _ _ => True) (Q := fun a st o t => ∃ L k n, FrameEnd st o t L k n ∧ Qc a st o t L k n) (bytes := bytes) (maxL := maxL) (ret := ret)
    (E := fun a st o t L k n => Qc a st o t L k n) hM hframes hlocals ?_ ?_ (fun _ _ _ _ _ _ _ _ _ => trivial) ?_ ?_
  · intro m meth c A a X hp
    exact ⟨atoms_intro fun w hw => hws w hw _ _ X.warmed, hws _ hcode _ _ X.warmed, hinit _ _ X.warmed, hp.1, hp.2.1⟩
  · intro m meth c A a g mk X hp
    exact hblind _ _ _ _ hp.2.2
  · intro a st o t ⟨L, k, n, hF, hq⟩
    exact ⟨L, k, n, hF, hq⟩
  · intro m meth c A a g mk v t L k n X hp hq hF hE
    exact ⟨g, mk, t, L, k, n, rfl, rfl, hE, rfl, rfl, rfl⟩
end BK
/-- what a call asks of its callee's words -/
def Cal (Ts : List Cond) (y : MethodName) (bytes : ByteArray) (maxL : Nat) (ret : Option FieldType) (n : Nat) : Prop :=
  Cond.code y bytes maxL ret ∈ Ts ∧ Cond.initialized y.cls ∈ Ts ∧ (y.cls ≠ "java/lang/invoke/MethodHandle" ∧ y.cls ≠ "java/lang/invoke/VarHandle") ∧ (parseMethodDescriptor y.desc).map (fun d => d.parameters.length) = some n
def CalV (Ts : List Cond) (C : String) (y : MethodName) (bytes : ByteArray) (maxL : Nat) (ret : Option FieldType) (n : Nat) : Prop :=
  Cal Ts y bytes maxL ret n ∧ Cond.instanceMethod y ∈ Ts ∧ Cond.selects C y y ∈ Ts
def CalS (Ts : List Cond) (y : MethodName) (bytes : ByteArray) (maxL : Nat) (ret : Option FieldType) (n : Nat) : Prop :=
  Cal Ts y bytes maxL ret n ∧ Cond.static y ∈ Ts
def CalI (Ts : List Cond) (y : MethodName) (bytes : ByteArray) (maxL : Nat) (n : Nat) : Prop :=
  Cal Ts y bytes maxL none n ∧ y.name = "<init>" ∧ Cond.instanceMethod y ∈ Ts
/-- words of nest mates: they hold, whatever was linked since -/
def NW (NX : List Cond) (U : State) : Prop := ∀ w ∈ NX, va_Nw w U
def NXok (NX : List Cond) : Prop := ∀ w ∈ NX, (∃ a i x h, w = Cond.methodLinkNest a i x h) ∨ (∃ a i b n d h, w = Cond.fieldLinkNest a i b n d h) ∨ (∃ x, w = Cond.declares x) ∨ ∃ x y, w = Cond.castable x y
theorem va_Nw.warmC2 {x y : String} {s U : State} (hW : s.WarmedH U.vm) (hZ : va_Nw (.castable x y) s) : va_Nw (.castable x y) U := va_tabs rfl (rfl : (s.setVm U.vm).vm = U.vm) (by rw [Cond.castable_setVm hW.alike]; exact hZ)
theorem NW.warm {NX : List Cond} {s U : State} (hN : NXok NX) (hW : s.WarmedH U.vm) (h : NW NX s) : NW NX U := by
  intro w hw
  rcases hN w hw with ⟨a, i, x, k, rfl⟩ | ⟨a, i, b, n, d, k, rfl⟩ | ⟨x, rfl⟩ | ⟨x, y, rfl⟩
  · exact va_Nw.warmM hW (h _ hw)
  · exact va_Nw.warmF hW (h _ hw)
  · exact va_Nw.warmD hW (h _ hw)
  · exact va_Nw.warmC2 hW (h _ hw)
theorem NW.same {NX : List Cond} {s U : State} (hN : NXok NX) (hW : s.vm = U.vm) (h : NW NX s) : NW NX U := by
  intro w hw
  rcases hN w hw with ⟨a, i, x, k, rfl⟩ | ⟨a, i, b, n, d, k, rfl⟩ | ⟨x, rfl⟩ | ⟨x, y, rfl⟩ <;> exact va_Nw.same rfl hW (h _ hw)
def RunK (p : Program) (l : Launch) (e : Env) (R : Room) (s : State) (m : MethodId) (args : Array Value) (below : List Frame) (meth : Method) (c : Code) (H : Heap) (locs : List Loc) (cells slots : Nat) (g : JFrame) (rest : List Value) (Qa : State → Option Value → State → List Loc → Nat → Nat → Prop) : Prop :=
  ∀ T : State, T.heap = H → Stand p l e R s m args below meth c T locs cells slots → ∃ (v : Option Value) (st₀ t T' : State) (L : List Loc) (k n : Nat), st₀.heap = H ∧ Stand p l e R s m args below meth c T' (locs ++ L) (cells + k) (slots + n) ∧ T'.heap = t.heap ∧ T'.vm = t.vm ∧ Qa st₀ v t L k n ∧
    Goes p e below T g T' { g with pc := g.pc + 3, stack := v.toList ++ rest }
section RK
variable {p : Program} {l : Launch} {e : Env} {R : Room} {s : State} {m : MethodId} {args : Array Value} {below : List Frame} {meth : Method} {c : Code} {H : Heap} {locs : List Loc} {cells slots : Nat}
variable {y : MethodName} {bytes cc : ByteArray} {maxL nL n index : Nat} {ret : Option FieldType} {rm : Room} {Pc : Array Value → State → Prop} {Qc : Array Value → State → Outcome → State → List Loc → Nat → Nat → Prop} {Ts : List Cond} {own C host : String} {b : Addr} {As rest : List Value} {g : JFrame}
theorem Cal.len {Ts : List Cond} (h : Cal Ts y bytes maxL ret n) : ∀ sig, parseMethodDescriptor y.desc = some sig → n = sig.parameters.length := fun sig hs => by
  have h2 := h.2.2.2
  rw [hs] at h2
  exact (Option.some.inj h2).symm
theorem Cal.back (ht : ∀ w ∈ Ts, w.before args s = true) (hG : GoodIn Ts Ts) (hM : MetK l y (Cond.code y bytes maxL ret :: Ts) rm Pc Qc) (hc : Cal Ts y bytes maxL ret n) (hbl : FrameBlind Pc) (hR : rm.frames + 1 ≤ R.frames ∧ 8 + (maxL + 11) + rm.locals ≤ R.locals) :
    Back l R p e below s args y 3 8 (PreK R rm Pc) (PostK Qc) := by
  refine back_ofK (bytes := bytes) (maxL := maxL) (ret := ret) hM hbl hR.1 hR.2 ?_ List.mem_cons_self (fun a' U hW => word_at hW (hG _ hc.2.1).2 (ht _ hc.2.1))
  intro w hw
  rcases List.mem_cons.mp hw with rfl | hw
  · exact pay_in ht hG _ hc.1
  · exact pay_in ht hG _ hw
theorem runKV (S : CallFix p m c cc nL s args Ts own) (hG : GoodIn Ts Ts) (hM : MetK l y (Cond.code y bytes maxL ret :: Ts) rm Pc Qc) (hc : CalV Ts C y bytes maxL ret n) (hl : Cond.methodLink own index y ∈ Ts) (hR : rm.frames + 1 ≤ R.frames ∧ 8 + (maxL + 11) + rm.locals ≤ R.locals) (hp : PreV s H C b Pc As)
    (hg : g.method = m) (hn : As.length = n) (hsize : g.locals.size = nL) (hstack : g.stack = As.reverse ++ .ref b :: rest) (hW : 2 * g.monitorRoom + (rest.map fun v => v.category).sum ≤ 8) (hdg : decode cc g.pc = .ok (.invokevirtual index, 3)) (hf : cells + rm.cells ≤ R.cells ∧ slots + rm.slots ≤ R.slots) :
    RunK p l e R s m args below meth c H locs cells slots g rest (fun st v t L k n => Qc (Value.ref b :: As).toArray st (.returned v) t L k n) := by
  obtain ⟨hx, hb, hml, ho, ht⟩ := S
  have hK : Back l R p e below s args y 3 8 (PreK R rm Pc) (PostK Qc) := hc.1.back ht hG hM hp.1 hR
  obtain ⟨-, ⟨cellB, hcB, hoB, hclB⟩, hPc⟩ := hp
  intro T hT X
  obtain ⟨v, vm₁, ⟨U', l2, c2, s2⟩, hW₁, X', ⟨g', mk, t, L, k, n', e1, e2, hq, h1, h2, h3⟩, st⟩ := callV X hx (C := C) (bytes := bytes) (maxL := maxL) (ret := ret) ho (ht _ hl) (ht _ hc.2.1) (ht _ hc.2.2) (ht _ hc.1.1) hc.1.2.2.1 hK (by rw [hT]; exact hcB) hoB hclB hg (hsize.trans hml.symm) (argsL := As) (rest := rest) (fun sig h => hn.trans (hc.1.len sig h)) hstack hW (by rw [hb]; exact hdg)
    (fun vm₁ hW₁ => ⟨hf.1, hf.2, hPc (T.setVm vm₁) hT hW₁⟩)
  dsimp only [Pt.U, Pt.locs, Pt.cells, Pt.slots] at X' e1 e2 h1 h2 h3 st
  subst h1; subst h2; subst h3
  exact ⟨v, (T.setVm vm₁).calling g' mk (Value.ref b :: As).toArray, t, U', L, k, n', hT, X', e1, e2, hq, st⟩
theorem runKS (S : CallFix p m c cc nL s args Ts own) (hG : GoodIn Ts Ts) (hM : MetK l y (Cond.code y bytes maxL ret :: Ts) rm Pc Qc) (hc : CalS Ts y bytes maxL ret n) (hl : Cond.methodLink own index y ∈ Ts) (hR : rm.frames + 1 ≤ R.frames ∧ 8 + (maxL + 11) + rm.locals ≤ R.locals) (hp : PreS s H Pc As)
    (hg : g.method = m) (hn : As.length = n) (hsize : g.locals.size = nL) (hstack : g.stack = As.reverse ++ rest) (hW : 2 * g.monitorRoom + (rest.map fun v => v.category).sum ≤ 8) (hdg : decode cc g.pc = .ok (.invokestatic index, 3)) (hf : cells + rm.cells ≤ R.cells ∧ slots + rm.slots ≤ R.slots) :
    RunK p l e R s m args below meth c H locs cells slots g rest (fun st v t L k n => Qc As.toArray st (.returned v) t L k n) := by
  obtain ⟨hx, hb, hml, ho, ht⟩ := S
  have hK : Back l R p e below s args y 3 8 (PreK R rm Pc) (PostK Qc) := hc.1.back ht hG hM hp.1 hR
  intro T hT X
  obtain ⟨v, vm₁, ⟨U', l2, c2, s2⟩, hW₁, X', ⟨g', mk, t, L, k, n', e1, e2, hq, h1, h2, h3⟩, st⟩ := callS X hx (bytes := bytes) (maxL := maxL) (ret := ret) ho (ht _ hl) (ht _ hc.2) (ht _ hc.1.2.1) (ht _ hc.1.1) hc.1.2.2.1 hK hg (hsize.trans hml.symm) (argsL := As) (rest := rest) (fun sig h => hn.trans (hc.1.len sig h)) hstack hW (by rw [hb]; exact hdg)
    (fun vm₁ hW₁ => ⟨hf.1, hf.2, hp.2 (T.setVm vm₁) hT hW₁⟩)
  dsimp only [Pt.U, Pt.locs, Pt.cells, Pt.slots] at X' e1 e2 h1 h2 h3 st
  subst h1; subst h2; subst h3
  exact ⟨v, (T.setVm vm₁).calling g' mk As.toArray, t, U', L, k, n', hT, X', e1, e2, hq, st⟩
theorem runKI (S : CallFix p m c cc nL s args Ts own) (hG : GoodIn Ts Ts) (hM : MetK l y (Cond.code y bytes maxL none :: Ts) rm Pc Qc) (hc : CalI Ts y bytes maxL n) (hl : Cond.methodLink own index y ∈ Ts) (hR : rm.frames + 1 ≤ R.frames ∧ 8 + (maxL + 11) + rm.locals ≤ R.locals) (hp : PreS s H Pc (.ref b :: As))
    (hg : g.method = m) (hn : As.length = n) (hsize : g.locals.size = nL) (hstack : g.stack = As.reverse ++ .ref b :: rest) (hW : 2 * g.monitorRoom + (rest.map fun v => v.category).sum ≤ 8) (hdg : decode cc g.pc = .ok (.invokespecial index, 3)) (hf : cells + rm.cells ≤ R.cells ∧ slots + rm.slots ≤ R.slots) :
    RunK p l e R s m args below meth c H locs cells slots g rest (fun st v t L k n => Qc (Value.ref b :: As).toArray st (.returned v) t L k n) := by
  obtain ⟨hx, hb, hml, ho, ht⟩ := S
  have hK : Back l R p e below s args y 3 8 (PreK R rm Pc) (PostK Qc) := hc.1.back ht hG hM hp.1 hR
  intro T hT X
  obtain ⟨v, vm₁, ⟨U', l2, c2, s2⟩, hW₁, X', ⟨g', mk, t, L, k, n', e1, e2, hq, h1, h2, h3⟩, st⟩ := callI X hx (bytes := bytes) (maxL := maxL) ho hc.2.1 (ht _ hl) (ht _ hc.2.2) (ht _ hc.1.1) hc.1.2.2.1 hK hg (hsize.trans hml.symm) (a := b) (argsL := As) (rest := rest) (fun sig h => hn.trans (hc.1.len sig h)) hstack hW (by rw [hb]; exact hdg)
    (fun vm₁ hW₁ => ⟨hf.1, hf.2, hp.2 (T.setVm vm₁) hT hW₁⟩)
  dsimp only [Pt.U, Pt.locs, Pt.cells, Pt.slots] at X' e1 e2 h1 h2 h3 st
  subst h1; subst h2; subst h3
  exact ⟨v, (T.setVm vm₁).calling g' mk (Value.ref b :: As).toArray, t, U', L, k, n', hT, X', e1, e2, hq, st⟩
theorem runKIN (S : CallFix p m c cc nL s args Ts own) (hG : GoodIn Ts Ts) (hM : MetK l y (Cond.code y bytes maxL none :: Ts) rm Pc Qc) (hc : CalI Ts y bytes maxL n) (hl : va_Nw (.methodLinkNest own index y host) s) (hR : rm.frames + 1 ≤ R.frames ∧ 8 + (maxL + 11) + rm.locals ≤ R.locals) (hp : PreS s H Pc (.ref b :: As))
    (hg : g.method = m) (hn : As.length = n) (hsize : g.locals.size = nL) (hstack : g.stack = As.reverse ++ .ref b :: rest) (hW : 2 * g.monitorRoom + (rest.map fun v => v.category).sum ≤ 8) (hdg : decode cc g.pc = .ok (.invokespecial index, 3)) (hf : cells + rm.cells ≤ R.cells ∧ slots + rm.slots ≤ R.slots) :
    RunK p l e R s m args below meth c H locs cells slots g rest (fun st v t L k n => Qc (Value.ref b :: As).toArray st (.returned v) t L k n) := by
  obtain ⟨hx, hb, hml, ho, ht⟩ := S
  have hK : Back l R p e below s args y 3 8 (PreK R rm Pc) (PostK Qc) := hc.1.back ht hG hM hp.1 hR
  intro T hT X
  obtain ⟨v, vm₁, ⟨U', l2, c2, s2⟩, hW₁, X', ⟨g', mk, t, L, k, n', e1, e2, hq, h1, h2, h3⟩, st⟩ := va_callIN X hx (bytes := bytes) (maxL := maxL) ho hc.2.1 (va_Nw.use rfl hl) (ht _ hc.2.2) (ht _ hc.1.1) hc.1.2.2.1 hK hg (hsize.trans hml.symm) (a := b) (argsL := As) (rest := rest) (fun sig h => hn.trans (hc.1.len sig h)) hstack hW (by rw [hb]; exact hdg)
    (fun vm₁ hW₁ => ⟨hf.1, hf.2, hp.2 (T.setVm vm₁) hT hW₁⟩)
  dsimp only [Pt.U, Pt.locs, Pt.cells, Pt.slots] at X' e1 e2 h1 h2 h3 st
  subst h1; subst h2; subst h3
  exact ⟨v, (T.setVm vm₁).calling g' mk (Value.ref b :: As).toArray, t, U', L, k, n', hT, X', e1, e2, hq, st⟩
end RK
/-! triples -/
def TrP (D : va_G) (cl : List vw_C) (tys : List (ClassId × FieldType)) (NX : List Cond) (av : List Value) (wc : va_W) : Array Value → State → Prop :=
  va_Pc av (fun U => va_P D cl wc U.heap ∧ va_K D cl tys U ∧ va_D (fun _ => True) wc ∧ NW NX U)
def TrQ (D : va_G) (cl : List vw_C) (wc : va_W) (post : Option Value → va_W → Nat → Nat → Prop) : Array Value → State → Outcome → State → List Loc → Nat → Nat → Prop := fun _ st o t L k n =>
  ∃ (v : Option Value) (w1 : va_W), o = .returned v ∧ post v w1 k n ∧ va_P D cl w1 t.heap ∧ va_D (va_A wc st.heap.size) w1 ∧ va_F (va_A wc st.heap.size) st t ∧ ∀ q ∈ L, va_A wc st.heap.size q.base
def Tr (l : Launch) (D : va_G) (cl : List vw_C) (tys : List (ClassId × FieldType)) (Ts NX : List Cond) (y : MethodName) (bytes : ByteArray) (maxL : Nat) (ret : Option FieldType) (rm : Room) (av : List Value) (wc : va_W) (post : Option Value → va_W → Nat → Nat → Prop) : Prop :=
  MetK l y (Cond.code y bytes maxL ret :: Ts) rm (TrP D cl tys NX av wc) (TrQ D cl wc post)
def pI0 (post : Int32 → va_W → Prop) : Option Value → va_W → Nat → Nat → Prop := fun v w k n => ∃ r, v = some (.int r) ∧ k = 0 ∧ n = 0 ∧ post r w
def pL0 (post : Int64 → va_W → Prop) : Option Value → va_W → Nat → Nat → Prop := fun v w k n => ∃ r, v = some (.long r) ∧ k = 0 ∧ n = 0 ∧ post r w
def pR0 (post : Nat → va_W → Prop) : Option Value → va_W → Nat → Nat → Prop := fun v w k n => ∃ r, v = some (.ref r) ∧ k = 0 ∧ n = 0 ∧ post r w
def pV0 (post : va_W → Prop) : Option Value → va_W → Nat → Nat → Prop := fun v w k n => v = none ∧ k = 0 ∧ n = 0 ∧ post w
def pI (post : Int32 → va_W → Nat → Nat → Prop) : Option Value → va_W → Nat → Nat → Prop := fun v w k n => ∃ r, v = some (.int r) ∧ post r w k n
def pR (post : Nat → va_W → Nat → Nat → Prop) : Option Value → va_W → Nat → Nat → Prop := fun v w k n => ∃ r, v = some (.ref r) ∧ post r w k n
def pV (post : va_W → Nat → Nat → Prop) : Option Value → va_W → Nat → Nat → Prop := fun v w k n => v = none ∧ post w k n
theorem TrP.blind {D : va_G} {cl : List vw_C} {tys : List (ClassId × FieldType)} {NX : List Cond} {av : List Value} {wc : va_W} (hN : NXok NX) : FrameBlind (TrP D cl tys NX av wc) := fun a U g mk q => by
  obtain ⟨q0, qP, qK, qD, qN⟩ := q
  exact ⟨q0, qP, va_K.moved (u := U) (U := U.calling g mk a) (Vm.Alike.refl U.vm) qK, qD, NW.same (s := U) (U := U.calling g mk a) hN rfl qN⟩
theorem va_P.subm {D : va_G} {cl : List vw_C} {ws ws' : va_W} {H : Heap} (h : va_P D cl ws H) (is : List Nat) (hs : is.map (fun i => ws[i]?) = ws'.map some) : va_P D cl ws' H := fun k q hk => by
  have h1 : (is.map (fun i => ws[i]?))[k]? = some (some q) := by rw [hs, List.getElem?_map, hk]; rfl
  rw [List.getElem?_map] at h1
  cases hi : is[k]? with
  | none => rw [hi] at h1; cases h1
  | some i => rw [hi] at h1; exact h i q (Option.some.inj h1)
section TG
variable {p : Program} {l : Launch} {e : Env} {R : Room} {s : State} {m : MethodId} {args : Array Value} {below : List Frame} {meth : Method} {c : Code} {H : Heap} {locs : List Loc} {cells slots : Nat} {Q : State → Prop}
variable {y : MethodName} {bytes cc : ByteArray} {maxL nL n index : Nat} {ret : Option FieldType} {rm : Room} {Ts NX : List Cond} {own C host : String} {b : Addr} {As rest st0 : List Value} {pc : Nat} {ls : Array Slot}
variable {D : va_G} {cl : List vw_C} {tys : List (ClassId × FieldType)} {ws wc wr : va_W} {A0 : Nat → Prop} {a : Array Value} {post : Option Value → va_W → Nat → Nat → Prop}
/-- the caller's world, cut: the callee's part at isC, the rest at isR -/
def Cut (ws wc wr : va_W) (isC isR : List Nat) : Prop := isC.map (fun i => ws[i]?) = wc.map some ∧ isR.map (fun i => ws[i]?) = wr.map some ∧ va_nd isC = true ∧ va_nd isR = true ∧ ∀ i ∈ isR, i ∉ isC
/-- what stands around a walk: the tables, the world -/
def Sit (D : va_G) (cl : List vw_C) (tys : List (ClassId × FieldType)) (NX : List Cond) (s : State) (A0 : Nat → Prop) : Prop := va_K D cl tys s ∧ NW NX s ∧ NXok NX ∧ ∀ q, s.heap.size ≤ q → A0 q
theorem TrP.at {av : List Value} (hZ : Sit D cl tys NX s A0) (hP : va_P D cl ws H) (hD : va_D A0 ws) {isC isR : List Nat} (hC : Cut ws wc wr isC isR) :
    ∀ U : State, U.heap = H → s.WarmedH U.vm → TrP D cl tys NX av wc av.toArray U := by
  intro U hU hW
  exact ⟨rfl, by rw [hU]; exact hP.subm isC hC.1, va_K.moved hW.alike hZ.1, (hD.sub isC hC.2.2.1 hC.1).weaken (fun _ _ _ _ => trivial), hZ.2.1.warm hZ.2.2.1 hW⟩
theorem tr_go (hr : RunK p l e R s m args below meth c H locs cells slots (F0 m pc ls st0) rest (fun st v t L k n => TrQ D cl wc post a st (.returned v) t L k n))
    (hZ : Sit D cl tys NX s A0) (hP : va_P D cl ws H) (hD : va_D A0 ws) (hS : va_S A0 s.heap H locs) {isC isR : List Nat} (hC : Cut ws wc wr isC isR)
    (kk : ∀ (v : Option Value) (w1 : va_W) (k n : Nat) (H1 : Heap) (locs1 : List Loc), post v w1 k n → va_P D cl (wr ++ w1) H1 → va_D A0 (wr ++ w1) → va_S A0 s.heap H1 locs1 → W p l e R s m args below meth c H1 locs1 (cells + k) (slots + n) Q (F0 m (pc + 3) ls (v.toList ++ rest))) :
    W p l e R s m args below meth c H locs cells slots Q (F0 m pc ls st0) := by
  intro T hT X
  obtain ⟨v, st₀, t, T', L, k, n, h0, X', e1, e2, ⟨v', w1, hv, hq, hP1, hD1, hF1, hL⟩, st⟩ := hr T hT X
  cases hv
  rw [h0] at hD1 hL
  have hF : ∀ q, va_A wc H.size q → A0 q := va_free hD hS hZ.2.2.2 isC hC.1
  have hk : ∀ q : Nat, q < H.size → ¬ va_A wc H.size q → T'.heap[q]? = H[q]? := fun q h1 h2 => by
    rw [e1, ← h0]
    exact hF1.2 q (by rw [h0]; exact h1) (by rw [h0]; exact h2)
  have hz : H.size ≤ T'.heap.size := by rw [e1, ← h0]; exact hF1.1
  obtain ⟨hPj, hDj⟩ := va_join (wr := wr) (w1 := w1) hP hD isC isR hC.1 hC.2.1 hC.2.2.2.1 hC.2.2.2.2 hk hF (by rw [e1]; exact hP1) hD1
  obtain ⟨t2, a1, b1⟩ := kk v w1 k n T'.heap (locs ++ L) hq hPj hDj ⟨Nat.le_trans hS.1 hz, fun q h1 h2 => by
      rw [hk q (Nat.lt_of_lt_of_le h1 hS.1) (fun z => h2 (hF q z))]
      exact hS.2.1 q h1 h2, fun q hq => by
      rcases List.mem_append.mp hq with h | h
      · exact hS.2.2 q h
      · exact hF _ (hL q h)⟩ T' rfl X'
  exact ⟨t2, st t2 a1, b1⟩
theorem goI0 {po : Int32 → va_W → Prop} (hr : RunK p l e R s m args below meth c H locs cells slots (F0 m pc ls st0) rest (fun st v t L k n => TrQ D cl wc (pI0 po) a st (.returned v) t L k n))
    (hZ : Sit D cl tys NX s A0) (hP : va_P D cl ws H) (hD : va_D A0 ws) (hS : va_S A0 s.heap H locs) {isC isR : List Nat} (hC : Cut ws wc wr isC isR)
    (kk : ∀ (r : Int32) (w1 : va_W) (H1 : Heap) (locs1 : List Loc), po r w1 → va_P D cl (wr ++ w1) H1 → va_D A0 (wr ++ w1) → va_S A0 s.heap H1 locs1 → W p l e R s m args below meth c H1 locs1 cells slots Q (F0 m (pc + 3) ls (.int r :: rest))) :
    W p l e R s m args below meth c H locs cells slots Q (F0 m pc ls st0) :=
  tr_go hr hZ hP hD hS hC fun v w1 k n H1 locs1 hq hP hD hS => by
    obtain ⟨r, rfl, rfl, rfl, hq⟩ := hq
    exact kk r w1 H1 locs1 hq hP hD hS
theorem goL0 {po : Int64 → va_W → Prop} (hr : RunK p l e R s m args below meth c H locs cells slots (F0 m pc ls st0) rest (fun st v t L k n => TrQ D cl wc (pL0 po) a st (.returned v) t L k n))
    (hZ : Sit D cl tys NX s A0) (hP : va_P D cl ws H) (hD : va_D A0 ws) (hS : va_S A0 s.heap H locs) {isC isR : List Nat} (hC : Cut ws wc wr isC isR)
    (kk : ∀ (r : Int64) (w1 : va_W) (H1 : Heap) (locs1 : List Loc), po r w1 → va_P D cl (wr ++ w1) H1 → va_D A0 (wr ++ w1) → va_S A0 s.heap H1 locs1 → W p l e R s m args below meth c H1 locs1 cells slots Q (F0 m (pc + 3) ls (.long r :: rest))) :
    W p l e R s m args below meth c H locs cells slots Q (F0 m pc ls st0) :=
  tr_go hr hZ hP hD hS hC fun v w1 k n H1 locs1 hq hP hD hS => by
    obtain ⟨r, rfl, rfl, rfl, hq⟩ := hq
    exact kk r w1 H1 locs1 hq hP hD hS
theorem goR0 {po : Nat → va_W → Prop} (hr : RunK p l e R s m args below meth c H locs cells slots (F0 m pc ls st0) rest (fun st v t L k n => TrQ D cl wc (pR0 po) a st (.returned v) t L k n))
    (hZ : Sit D cl tys NX s A0) (hP : va_P D cl ws H) (hD : va_D A0 ws) (hS : va_S A0 s.heap H locs) {isC isR : List Nat} (hC : Cut ws wc wr isC isR)
    (kk : ∀ (r : Nat) (w1 : va_W) (H1 : Heap) (locs1 : List Loc), po r w1 → va_P D cl (wr ++ w1) H1 → va_D A0 (wr ++ w1) → va_S A0 s.heap H1 locs1 → W p l e R s m args below meth c H1 locs1 cells slots Q (F0 m (pc + 3) ls (.ref r :: rest))) :
    W p l e R s m args below meth c H locs cells slots Q (F0 m pc ls st0) :=
  tr_go hr hZ hP hD hS hC fun v w1 k n H1 locs1 hq hP hD hS => by
    obtain ⟨r, rfl, rfl, rfl, hq⟩ := hq
    exact kk r w1 H1 locs1 hq hP hD hS
theorem goV0 {po : va_W → Prop} (hr : RunK p l e R s m args below meth c H locs cells slots (F0 m pc ls st0) rest (fun st v t L k n => TrQ D cl wc (pV0 po) a st (.returned v) t L k n))
    (hZ : Sit D cl tys NX s A0) (hP : va_P D cl ws H) (hD : va_D A0 ws) (hS : va_S A0 s.heap H locs) {isC isR : List Nat} (hC : Cut ws wc wr isC isR)
    (kk : ∀ (w1 : va_W) (H1 : Heap) (locs1 : List Loc), po w1 → va_P D cl (wr ++ w1) H1 → va_D A0 (wr ++ w1) → va_S A0 s.heap H1 locs1 → W p l e R s m args below meth c H1 locs1 cells slots Q (F0 m (pc + 3) ls rest)) :
    W p l e R s m args below meth c H locs cells slots Q (F0 m pc ls st0) :=
  tr_go hr hZ hP hD hS hC fun v w1 k n H1 locs1 hq hP hD hS => by
    obtain ⟨rfl, rfl, rfl, hq⟩ := hq
    exact kk w1 H1 locs1 hq hP hD hS
theorem goI {po : Int32 → va_W → Nat → Nat → Prop} (hr : RunK p l e R s m args below meth c H locs cells slots (F0 m pc ls st0) rest (fun st v t L k n => TrQ D cl wc (pI po) a st (.returned v) t L k n))
    (hZ : Sit D cl tys NX s A0) (hP : va_P D cl ws H) (hD : va_D A0 ws) (hS : va_S A0 s.heap H locs) {isC isR : List Nat} (hC : Cut ws wc wr isC isR)
    (kk : ∀ (r : Int32) (w1 : va_W) (k n : Nat) (H1 : Heap) (locs1 : List Loc), po r w1 k n → va_P D cl (wr ++ w1) H1 → va_D A0 (wr ++ w1) → va_S A0 s.heap H1 locs1 → W p l e R s m args below meth c H1 locs1 (cells + k) (slots + n) Q (F0 m (pc + 3) ls (.int r :: rest))) :
    W p l e R s m args below meth c H locs cells slots Q (F0 m pc ls st0) :=
  tr_go hr hZ hP hD hS hC fun v w1 k n H1 locs1 hq hP hD hS => by
    obtain ⟨r, rfl, hq⟩ := hq
    exact kk r w1 k n H1 locs1 hq hP hD hS
theorem goR {po : Nat → va_W → Nat → Nat → Prop} (hr : RunK p l e R s m args below meth c H locs cells slots (F0 m pc ls st0) rest (fun st v t L k n => TrQ D cl wc (pR po) a st (.returned v) t L k n))
    (hZ : Sit D cl tys NX s A0) (hP : va_P D cl ws H) (hD : va_D A0 ws) (hS : va_S A0 s.heap H locs) {isC isR : List Nat} (hC : Cut ws wc wr isC isR)
    (kk : ∀ (r : Nat) (w1 : va_W) (k n : Nat) (H1 : Heap) (locs1 : List Loc), po r w1 k n → va_P D cl (wr ++ w1) H1 → va_D A0 (wr ++ w1) → va_S A0 s.heap H1 locs1 → W p l e R s m args below meth c H1 locs1 (cells + k) (slots + n) Q (F0 m (pc + 3) ls (.ref r :: rest))) :
    W p l e R s m args below meth c H locs cells slots Q (F0 m pc ls st0) :=
  tr_go hr hZ hP hD hS hC fun v w1 k n H1 locs1 hq hP hD hS => by
    obtain ⟨r, rfl, hq⟩ := hq
    exact kk r w1 k n H1 locs1 hq hP hD hS
theorem goV {po : va_W → Nat → Nat → Prop} (hr : RunK p l e R s m args below meth c H locs cells slots (F0 m pc ls st0) rest (fun st v t L k n => TrQ D cl wc (pV po) a st (.returned v) t L k n))
    (hZ : Sit D cl tys NX s A0) (hP : va_P D cl ws H) (hD : va_D A0 ws) (hS : va_S A0 s.heap H locs) {isC isR : List Nat} (hC : Cut ws wc wr isC isR)
    (kk : ∀ (w1 : va_W) (k n : Nat) (H1 : Heap) (locs1 : List Loc), po w1 k n → va_P D cl (wr ++ w1) H1 → va_D A0 (wr ++ w1) → va_S A0 s.heap H1 locs1 → W p l e R s m args below meth c H1 locs1 (cells + k) (slots + n) Q (F0 m (pc + 3) ls rest)) :
    W p l e R s m args below meth c H locs cells slots Q (F0 m pc ls st0) :=
  tr_go hr hZ hP hD hS hC fun v w1 k n H1 locs1 hq hP hD hS => by
    obtain ⟨rfl, hq⟩ := hq
    exact kk w1 k n H1 locs1 hq hP hD hS
/-- the four kinds of call, of a triple -/
theorem trV (S : CallFix p m c cc nL s args Ts own) (hG : GoodIn Ts Ts) (hM : Tr l D cl tys Ts NX y bytes maxL ret rm (.ref b :: As) wc post) (hc : CalV Ts C y bytes maxL ret n) (hl : Cond.methodLink own index y ∈ Ts) (hR : rm.frames + 1 ≤ R.frames ∧ 8 + (maxL + 11) + rm.locals ≤ R.locals) (hZ : Sit D cl tys NX s A0) (hP : va_P D cl ws H) (hD : va_D A0 ws)
    {isC isR : List Nat} (hC : Cut ws wc wr isC isR) (q0 : Nat) {ci : Nat} {fs : List Value} {qc : vw_C} (hci : cl[ci]? = some qc) (hcn : qc.1 = C) (hq0 : ws[q0]? = some (b, .inr (ci, fs)))
    (hn : As.length = n) (hsize : ls.size = nL) (hst : st0 = As.reverse ++ .ref b :: rest) (hW : (rest.map fun v => v.category).sum ≤ 8) (hdg : decode cc pc = .ok (.invokevirtual index, 3)) (hf : cells + rm.cells ≤ R.cells ∧ slots + rm.slots ≤ R.slots) :
    RunK p l e R s m args below meth c H locs cells slots (F0 m pc ls st0) rest (fun st v t L k n => TrQ D cl wc post (Value.ref b :: As).toArray st (.returned v) t L k n) := by
  subst hcn
  exact runKV S hG hM hc hl hR ⟨TrP.blind hZ.2.2.1, va_recv hZ.1 hP hci hq0, TrP.at (av := .ref b :: As) hZ hP hD hC⟩ rfl hn hsize hst (lv_room hW) hdg hf
theorem trS (S : CallFix p m c cc nL s args Ts own) (hG : GoodIn Ts Ts) (hM : Tr l D cl tys Ts NX y bytes maxL ret rm As wc post) (hc : CalS Ts y bytes maxL ret n) (hl : Cond.methodLink own index y ∈ Ts) (hR : rm.frames + 1 ≤ R.frames ∧ 8 + (maxL + 11) + rm.locals ≤ R.locals) (hZ : Sit D cl tys NX s A0) (hP : va_P D cl ws H) (hD : va_D A0 ws)
    {isC isR : List Nat} (hC : Cut ws wc wr isC isR)
    (hn : As.length = n) (hsize : ls.size = nL) (hst : st0 = As.reverse ++ rest) (hW : (rest.map fun v => v.category).sum ≤ 8) (hdg : decode cc pc = .ok (.invokestatic index, 3)) (hf : cells + rm.cells ≤ R.cells ∧ slots + rm.slots ≤ R.slots) :
    RunK p l e R s m args below meth c H locs cells slots (F0 m pc ls st0) rest (fun st v t L k n => TrQ D cl wc post As.toArray st (.returned v) t L k n) :=
  runKS S hG hM hc hl hR ⟨TrP.blind hZ.2.2.1, TrP.at (av := As) hZ hP hD hC⟩ rfl hn hsize hst (lv_room hW) hdg hf
theorem trI (S : CallFix p m c cc nL s args Ts own) (hG : GoodIn Ts Ts) (hM : Tr l D cl tys Ts NX y bytes maxL none rm (.ref b :: As) wc post) (hc : CalI Ts y bytes maxL n) (hl : Cond.methodLink own index y ∈ Ts) (hR : rm.frames + 1 ≤ R.frames ∧ 8 + (maxL + 11) + rm.locals ≤ R.locals) (hZ : Sit D cl tys NX s A0) (hP : va_P D cl ws H) (hD : va_D A0 ws)
    {isC isR : List Nat} (hC : Cut ws wc wr isC isR)
    (hn : As.length = n) (hsize : ls.size = nL) (hst : st0 = As.reverse ++ .ref b :: rest) (hW : (rest.map fun v => v.category).sum ≤ 8) (hdg : decode cc pc = .ok (.invokespecial index, 3)) (hf : cells + rm.cells ≤ R.cells ∧ slots + rm.slots ≤ R.slots) :
    RunK p l e R s m args below meth c H locs cells slots (F0 m pc ls st0) rest (fun st v t L k n => TrQ D cl wc post (Value.ref b :: As).toArray st (.returned v) t L k n) :=
  runKI S hG hM hc hl hR ⟨TrP.blind hZ.2.2.1, TrP.at (av := .ref b :: As) hZ hP hD hC⟩ rfl hn hsize hst (lv_room hW) hdg hf
theorem trIN (S : CallFix p m c cc nL s args Ts own) (hG : GoodIn Ts Ts) (hM : Tr l D cl tys Ts NX y bytes maxL none rm (.ref b :: As) wc post) (hc : CalI Ts y bytes maxL n) (hl : Cond.methodLinkNest own index y host ∈ NX) (hR : rm.frames + 1 ≤ R.frames ∧ 8 + (maxL + 11) + rm.locals ≤ R.locals) (hZ : Sit D cl tys NX s A0) (hP : va_P D cl ws H) (hD : va_D A0 ws)
    {isC isR : List Nat} (hC : Cut ws wc wr isC isR)
    (hn : As.length = n) (hsize : ls.size = nL) (hst : st0 = As.reverse ++ .ref b :: rest) (hW : (rest.map fun v => v.category).sum ≤ 8) (hdg : decode cc pc = .ok (.invokespecial index, 3)) (hf : cells + rm.cells ≤ R.cells ∧ slots + rm.slots ≤ R.slots) :
    RunK p l e R s m args below meth c H locs cells slots (F0 m pc ls st0) rest (fun st v t L k n => TrQ D cl wc post (Value.ref b :: As).toArray st (.returned v) t L k n) :=
  runKIN S hG hM hc (hZ.2.1 _ hl) hR ⟨TrP.blind hZ.2.2.1, TrP.at (av := .ref b :: As) hZ hP hD hC⟩ rfl hn hsize hst (lv_room hW) hdg hf
end TG
/-! contracts that only read: the heap stays as it is -/
def RoQ (post : Value → Prop) : Array Value → State → Outcome → State → List Loc → Nat → Nat → Prop := fun _ st o t L k n =>
  ∃ v : Value, o = .returned (some v) ∧ post v ∧ t.heap = st.heap ∧ L = [] ∧ k = 0 ∧ n = 0
def Ro (l : Launch) (D : va_G) (cl : List vw_C) (tys : List (ClassId × FieldType)) (Ts NX : List Cond) (y : MethodName) (bytes : ByteArray) (maxL : Nat) (ret : Option FieldType) (rm : Room) (av : List Value) (wc : va_W) (post : Value → Prop) : Prop :=
  MetK l y (Cond.code y bytes maxL ret :: Ts) rm (TrP D cl tys NX av wc) (RoQ post)
section RG
variable {p : Program} {l : Launch} {e : Env} {R : Room} {s : State} {m : MethodId} {args : Array Value} {below : List Frame} {meth : Method} {c : Code} {H : Heap} {locs : List Loc} {cells slots : Nat} {Q : State → Prop}
variable {y : MethodName} {bytes cc : ByteArray} {maxL nL n index : Nat} {ret : Option FieldType} {rm : Room} {Ts NX : List Cond} {own C host : String} {b : Addr} {As rest st0 : List Value} {pc : Nat} {ls : Array Slot}
variable {D : va_G} {cl : List vw_C} {tys : List (ClassId × FieldType)} {ws wc : va_W} {A0 : Nat → Prop} {a : Array Value} {post : Value → Prop}
theorem ro_go (hr : RunK p l e R s m args below meth c H locs cells slots (F0 m pc ls st0) rest (fun st v t L k n => RoQ post a st (.returned v) t L k n))
    (kk : ∀ v : Value, post v → W p l e R s m args below meth c H locs cells slots Q (F0 m (pc + 3) ls (v :: rest))) :
    W p l e R s m args below meth c H locs cells slots Q (F0 m pc ls st0) := by
  intro T hT X
  obtain ⟨v, st₀, t, T', L, k, n, h0, X', e1, e2, ⟨v', hv, hq, hh, rfl, rfl, rfl⟩, st⟩ := hr T hT X
  cases hv
  rw [List.append_nil] at X'
  obtain ⟨t2, a1, b1⟩ := kk v' hq T' (by rw [e1, hh, h0]) X'
  exact ⟨t2, st t2 a1, b1⟩
/-- the callee's part of the caller's world -/
def Part (ws wc : va_W) (isC : List Nat) : Prop := isC.map (fun i => ws[i]?) = wc.map some ∧ va_nd isC = true
theorem TrP.part {av : List Value} (hZ : Sit D cl tys NX s A0) (hP : va_P D cl ws H) (hD : va_D A0 ws) {isC : List Nat} (hC : Part ws wc isC) :
    ∀ U : State, U.heap = H → s.WarmedH U.vm → TrP D cl tys NX av wc av.toArray U := by
  intro U hU hW
  exact ⟨rfl, by rw [hU]; exact hP.subm isC hC.1, va_K.moved hW.alike hZ.1, (hD.sub isC hC.2 hC.1).weaken (fun _ _ _ _ => trivial), hZ.2.1.warm hZ.2.2.1 hW⟩
theorem roV (S : CallFix p m c cc nL s args Ts own) (hG : GoodIn Ts Ts) (hM : Ro l D cl tys Ts NX y bytes maxL ret rm (.ref b :: As) wc post) (hc : CalV Ts C y bytes maxL ret n) (hl : Cond.methodLink own index y ∈ Ts) (hR : rm.frames + 1 ≤ R.frames ∧ 8 + (maxL + 11) + rm.locals ≤ R.locals) (hZ : Sit D cl tys NX s A0) (hP : va_P D cl ws H) (hD : va_D A0 ws)
    {isC : List Nat} (hC : Part ws wc isC) (q0 : Nat) {ci : Nat} {fs : List Value} {qc : vw_C} (hci : cl[ci]? = some qc) (hcn : qc.1 = C) (hq0 : ws[q0]? = some (b, .inr (ci, fs)))
    (hn : As.length = n) (hsize : ls.size = nL) (hst : st0 = As.reverse ++ .ref b :: rest) (hW : (rest.map fun v => v.category).sum ≤ 8) (hdg : decode cc pc = .ok (.invokevirtual index, 3)) (hf : cells + rm.cells ≤ R.cells ∧ slots + rm.slots ≤ R.slots)
    (kk : ∀ v : Value, post v → W p l e R s m args below meth c H locs cells slots Q (F0 m (pc + 3) ls (v :: rest))) : W p l e R s m args below meth c H locs cells slots Q (F0 m pc ls st0) := by
  subst hcn
  exact ro_go (runKV S hG hM hc hl hR ⟨TrP.blind hZ.2.2.1, va_recv hZ.1 hP hci hq0, TrP.part (av := .ref b :: As) hZ hP hD hC⟩ rfl hn hsize hst (lv_room hW) hdg hf) kk
theorem roS (S : CallFix p m c cc nL s args Ts own) (hG : GoodIn Ts Ts) (hM : Ro l D cl tys Ts NX y bytes maxL ret rm As wc post) (hc : CalS Ts y bytes maxL ret n) (hl : Cond.methodLink own index y ∈ Ts) (hR : rm.frames + 1 ≤ R.frames ∧ 8 + (maxL + 11) + rm.locals ≤ R.locals) (hZ : Sit D cl tys NX s A0) (hP : va_P D cl ws H) (hD : va_D A0 ws)
    {isC : List Nat} (hC : Part ws wc isC)
    (hn : As.length = n) (hsize : ls.size = nL) (hst : st0 = As.reverse ++ rest) (hW : (rest.map fun v => v.category).sum ≤ 8) (hdg : decode cc pc = .ok (.invokestatic index, 3)) (hf : cells + rm.cells ≤ R.cells ∧ slots + rm.slots ≤ R.slots)
    (kk : ∀ v : Value, post v → W p l e R s m args below meth c H locs cells slots Q (F0 m (pc + 3) ls (v :: rest))) : W p l e R s m args below meth c H locs cells slots Q (F0 m pc ls st0) :=
  ro_go (runKS S hG hM hc hl hR ⟨TrP.blind hZ.2.2.1, TrP.part (av := As) hZ hP hD hC⟩ rfl hn hsize hst (lv_room hW) hdg hf) kk
end RG
/-! the end of a method -/
def MQT (below : List Frame) (D : va_G) (cl : List vw_C) (A : Nat → Prop) (post : Option Value → va_W → Nat → Nat → Prop) (s : State) : State → Prop := fun t =>
  ∃ (v : Option Value) (w1 : va_W) (L : List Loc) (k n : Nat), t.status = .running ∧ Ended t below (.returned v) ∧ FrameEnd s (.returned v) t L k n ∧ post v w1 k n ∧ va_P D cl w1 t.heap ∧ va_D A w1 ∧ va_F A s t ∧ ∀ q ∈ L, A q.base
section TE
variable {p : Program} {l : Launch} {e : Env} {R : Room} {s : State} {m : MethodId} {args : Array Value} {below : List Frame} {meth : Method} {c : Code} {H : Heap} {locs : List Loc} {cells slots : Nat}
variable {cc : ByteArray} {pc : Nat} {ls : Array Slot} {D : va_G} {cl : List vw_C} {w1 : va_W} {A : Nat → Prop} {post : Option Value → va_W → Nat → Nat → Prop}
theorem t_ret {v : Option Value} {g : JFrame} (h : W p l e R s m args below meth c H locs cells slots (MQ below (fun _ _ o t => o = .returned v ∧ t.heap = H) args s cells slots A) g)
    (hP : va_P D cl w1 H) (hD : va_D A w1) (hS : va_S A s.heap H locs) (hq : post v w1 cells slots) : W p l e R s m args below meth c H locs cells slots (MQT below D cl A post s) g := by
  intro T hT X
  obtain ⟨t, st, o, h1, h2, ⟨rfl, hh⟩, L, hF, hL⟩ := h T hT X
  exact ⟨t, st, v, w1, L, cells, slots, h1, h2, hF, hq, by rw [hh]; exact hP, hD, hS.F hh, hL⟩
theorem t_iret (hx : p.tables.exec = Jvm.exec) (hb : c.code = cc) (hr : meth.sig.returnType = some .int) (hlk : meth.locks = false) {v : Int32} (hdg : decode cc pc = .ok (.ireturn, 1))
    (hP : va_P D cl w1 H) (hD : va_D A w1) (hS : va_S A s.heap H locs) (hq : post (some (.int v)) w1 cells slots) : W p l e R s m args below meth c H locs cells slots (MQT below D cl A post s) (F0 m pc ls [.int v]) :=
  t_ret (W.iret hx hb hr (fun t ht hW => ⟨rfl, ht⟩) hS.2.2 hdg (hlocks := hlk)) hP hD hS hq
theorem t_zret (hx : p.tables.exec = Jvm.exec) (hb : c.code = cc) (hr : meth.sig.returnType = some .boolean) (hlk : meth.locks = false) {v : Int32} (hv : narrow .boolean (.int v) = .int v) (hdg : decode cc pc = .ok (.ireturn, 1))
    (hP : va_P D cl w1 H) (hD : va_D A w1) (hS : va_S A s.heap H locs) (hq : post (some (.int v)) w1 cells slots) : W p l e R s m args below meth c H locs cells slots (MQT below D cl A post s) (F0 m pc ls [.int v]) :=
  t_ret (W.zret hx hb hr hv (fun t ht hW => ⟨rfl, ht⟩) hS.2.2 hdg (hlocks := hlk)) hP hD hS hq
theorem t_vret (hx : p.tables.exec = Jvm.exec) (hb : c.code = cc) (hr : meth.sig.returnType = none) (hlk : meth.locks = false) (hdg : decode cc pc = .ok (.return_, 1))
    (hP : va_P D cl w1 H) (hD : va_D A w1) (hS : va_S A s.heap H locs) (hq : post none w1 cells slots) : W p l e R s m args below meth c H locs cells slots (MQT below D cl A post s) (F0 m pc ls []) :=
  t_ret (W.vret hx hb hr (fun t ht hW => ⟨rfl, ht⟩) hS.2.2 hdg (hlocks := hlk)) hP hD hS hq
theorem t_lret (hx : p.tables.exec = Jvm.exec) (hb : c.code = cc) (hr : meth.sig.returnType = some .long) (hlk : meth.locks = false) {v : Int64} (hdg : decode cc pc = .ok (.lreturn, 1))
    (hP : va_P D cl w1 H) (hD : va_D A w1) (hS : va_S A s.heap H locs) (hq : post (some (.long v)) w1 cells slots) : W p l e R s m args below meth c H locs cells slots (MQT below D cl A post s) (F0 m pc ls [.long v]) :=
  t_ret (W.lret hx hb hr (fun t ht hW => ⟨rfl, ht⟩) hS.2.2 hdg (hlocks := hlk)) hP hD hS hq
theorem t_aret (hx : p.tables.exec = Jvm.exec) (hb : c.code = cc) {rt : FieldType} (hr : meth.sig.returnType = some rt) (hrt : (∃ n, rt = .object n) ∨ ∃ t, rt = .array t) (hlk : meth.locks = false) {a : Nat} (hdg : decode cc pc = .ok (.areturn, 1))
    (hP : va_P D cl w1 H) (hD : va_D A w1) (hS : va_S A s.heap H locs) (hq : post (some (.ref a)) w1 cells slots) : W p l e R s m args below meth c H locs cells slots (MQT below D cl A post s) (F0 m pc ls [.ref a]) :=
  t_ret (W.aret hx hb hr hrt (Or.inr ⟨a, rfl⟩) (fun t ht hW => ⟨rfl, ht⟩) hS.2.2 hdg (hlocks := hlk)) hP hD hS hq
end TE
theorem Tr.intro {l : Launch} {D : va_G} {cl : List vw_C} {tys : List (ClassId × FieldType)} {Ts NX : List Cond} {y : MethodName} {bytes : ByteArray} {maxL : Nat} {ret : Option FieldType} {rm : Room} {av : List Value} {wc : va_W} {post : Option Value → va_W → Nat → Nat → Prop}
    (hy : plainFor y = true) (hN : NXok NX) (hsz : (lg_sl av).length ≤ maxL)
    (body : ∀ (p : Program) (e : Env) (s : State) (m : MethodId) (args : Array Value) (below : List Frame) (meth : Method) (c : Code) (A : Nat → Prop) (ls : Array Slot),
      p.tables.exec = Jvm.exec → c.code = bytes → c.maxLocals = maxL → s.vm.findClass y.cls = some m.cls → (∀ w ∈ Ts, w.before args s = true) → meth.sig.returnType = ret → meth.locks = false → meth.name = y.name →
      Sit D cl tys NX s A → va_P D cl wc s.heap → va_D A wc → va_S A s.heap s.heap [] → lv_has ls maxL (lv_args 0 av) →
      W p l e rm s m args below meth c s.heap [] 0 0 (MQT below D cl A post s) (F0 m 0 ls [])) : Tr l D cl tys Ts NX y bytes maxL ret rm av wc post := by
  unfold Tr MetK
  refine MetFree.of_bodySF (code := bytes) (maxLocals := maxL) (ret := ret) hy ?_ ?_
  · intro args s m h hn
    obtain ⟨meth, c, h1, h2, h3, h4, h5, h6, -, -⟩ := Cond.code_spec hn (atoms_spec (ws := Cond.code y bytes maxL ret :: Ts) h _ List.mem_cons_self)
    exact ⟨meth, c, h1, h2, h3, h4, h5, h6⟩
  · intro p e s m args below meth c s₁ B hml hP _
    obtain ⟨rfl, hP, hK, hD0, hNs⟩ := hP
    have hh0 : s₁.heap = s.heap := by rw [B.state]; rfl
    have hts := atoms_spec (ws := Cond.code y bytes maxL ret :: Ts) B.pre
    have hb := body p e s m av.toArray below meth c (va_A wc s.heap.size) _ B.exec B.bytes hml (findClass_of_methodNamed B.named) (fun w hw => hts w (List.mem_cons_of_mem _ hw)) B.returns B.notSynchronized (name_of_methodNamed B.named B.method).1
      ⟨hK, hNs, hN, fun q h => Or.inr h⟩ hP (hD0.self (sz := s.heap.size)) va_S.rf (lv_entry av (n := maxL) hsz)
    rw [← lg_entry_eq] at hb
    obtain ⟨t, a1, v, w1, L, k, n, b1, b2, b3, b4, b5, b6, b7, b8⟩ := hb s₁ hh0 (Stand.of_body B)
    exact ⟨t, .returned v, a1, b1, b2, L, k, n, b3, v, w1, rfl, b4, b5, b6, b7, b8⟩
/-- the end of a method that only reads -/
def MQR (below : List Frame) (post : Value → Prop) (s : State) : State → Prop := fun t =>
  ∃ v : Value, t.status = .running ∧ Ended t below (.returned (some v)) ∧ FrameEnd s (.returned (some v)) t [] 0 0 ∧ post v ∧ t.heap = s.heap
section RE
variable {p : Program} {l : Launch} {e : Env} {R : Room} {s : State} {m : MethodId} {args : Array Value} {below : List Frame} {meth : Method} {c : Code}
variable {cc : ByteArray} {pc : Nat} {ls : Array Slot} {post : Value → Prop}
theorem r_ret {v : Value} {g : JFrame} (h : W p l e R s m args below meth c s.heap [] 0 0 (MQ below (fun _ _ o t => o = .returned (some v) ∧ t.heap = s.heap) args s 0 0 (fun _ => False)) g)
    (hq : post v) : W p l e R s m args below meth c s.heap [] 0 0 (MQR below post s) g := by
  intro T hT X
  obtain ⟨t, st, o, h1, h2, ⟨rfl, hh⟩, L, hF, hL⟩ := h T hT X
  have hn : L = [] := by
    cases L with
    | nil => rfl
    | cons q L => exact absurd (hL q List.mem_cons_self) (fun h => h)
  subst hn
  exact ⟨t, st, v, h1, h2, hF, hq, hh⟩
theorem r_iret (hx : p.tables.exec = Jvm.exec) (hb : c.code = cc) (hr : meth.sig.returnType = some .int) (hlk : meth.locks = false) {v : Int32} (hdg : decode cc pc = .ok (.ireturn, 1))
    (hq : post (.int v)) : W p l e R s m args below meth c s.heap [] 0 0 (MQR below post s) (F0 m pc ls [.int v]) :=
  r_ret (W.iret hx hb hr (fun t ht hW => ⟨rfl, ht⟩) (fun q h => by cases h) hdg (hlocks := hlk)) hq
theorem r_zret (hx : p.tables.exec = Jvm.exec) (hb : c.code = cc) (hr : meth.sig.returnType = some .boolean) (hlk : meth.locks = false) {v : Int32} (hv : narrow .boolean (.int v) = .int v) (hdg : decode cc pc = .ok (.ireturn, 1))
    (hq : post (.int v)) : W p l e R s m args below meth c s.heap [] 0 0 (MQR below post s) (F0 m pc ls [.int v]) :=
  r_ret (W.zret hx hb hr hv (fun t ht hW => ⟨rfl, ht⟩) (fun q h => by cases h) hdg (hlocks := hlk)) hq
theorem r_lret (hx : p.tables.exec = Jvm.exec) (hb : c.code = cc) (hr : meth.sig.returnType = some .long) (hlk : meth.locks = false) {v : Int64} (hdg : decode cc pc = .ok (.lreturn, 1))
    (hq : post (.long v)) : W p l e R s m args below meth c s.heap [] 0 0 (MQR below post s) (F0 m pc ls [.long v]) :=
  r_ret (W.lret hx hb hr (fun t ht hW => ⟨rfl, ht⟩) (fun q h => by cases h) hdg (hlocks := hlk)) hq
theorem r_aret (hx : p.tables.exec = Jvm.exec) (hb : c.code = cc) {rt : FieldType} (hr : meth.sig.returnType = some rt) (hrt : (∃ n, rt = .object n) ∨ ∃ t, rt = .array t) (hlk : meth.locks = false) {a : Nat} (hdg : decode cc pc = .ok (.areturn, 1))
    (hq : post (.ref a)) : W p l e R s m args below meth c s.heap [] 0 0 (MQR below post s) (F0 m pc ls [.ref a]) :=
  r_ret (W.aret hx hb hr hrt (Or.inr ⟨a, rfl⟩) (fun t ht hW => ⟨rfl, ht⟩) (fun q h => by cases h) hdg (hlocks := hlk)) hq
end RE
theorem Ro.intro {l : Launch} {D : va_G} {cl : List vw_C} {tys : List (ClassId × FieldType)} {Ts NX : List Cond} {y : MethodName} {bytes : ByteArray} {maxL : Nat} {ret : Option FieldType} {rm : Room} {av : List Value} {wc : va_W} {post : Value → Prop}
    (hy : plainFor y = true) (hN : NXok NX) (hsz : (lg_sl av).length ≤ maxL)
    (body : ∀ (p : Program) (e : Env) (s : State) (m : MethodId) (args : Array Value) (below : List Frame) (meth : Method) (c : Code) (A : Nat → Prop) (ls : Array Slot),
      p.tables.exec = Jvm.exec → c.code = bytes → c.maxLocals = maxL → s.vm.findClass y.cls = some m.cls → (∀ w ∈ Ts, w.before args s = true) → meth.sig.returnType = ret → meth.locks = false → meth.name = y.name →
      Sit D cl tys NX s A → va_P D cl wc s.heap → va_D A wc → lv_has ls maxL (lv_args 0 av) →
      W p l e rm s m args below meth c s.heap [] 0 0 (MQR below post s) (F0 m 0 ls [])) : Ro l D cl tys Ts NX y bytes maxL ret rm av wc post := by
  unfold Ro MetK
  refine MetFree.of_bodySF (code := bytes) (maxLocals := maxL) (ret := ret) hy ?_ ?_
  · intro args s m h hn
    obtain ⟨meth, c, h1, h2, h3, h4, h5, h6, -, -⟩ := Cond.code_spec hn (atoms_spec (ws := Cond.code y bytes maxL ret :: Ts) h _ List.mem_cons_self)
    exact ⟨meth, c, h1, h2, h3, h4, h5, h6⟩
  · intro p e s m args below meth c s₁ B hml hP _
    obtain ⟨rfl, hP, hK, hD0, hNs⟩ := hP
    have hh0 : s₁.heap = s.heap := by rw [B.state]; rfl
    have hts := atoms_spec (ws := Cond.code y bytes maxL ret :: Ts) B.pre
    have hb := body p e s m av.toArray below meth c (va_A wc s.heap.size) _ B.exec B.bytes hml (findClass_of_methodNamed B.named) (fun w hw => hts w (List.mem_cons_of_mem _ hw)) B.returns B.notSynchronized (name_of_methodNamed B.named B.method).1
      ⟨hK, hNs, hN, fun q h => Or.inr h⟩ hP (hD0.self (sz := s.heap.size)) (lv_entry av (n := maxL) hsz)
    rw [← lg_entry_eq] at hb
    obtain ⟨t, a1, v, b1, b2, b3, b4, b5⟩ := hb s₁ hh0 (Stand.of_body B)
    exact ⟨t, .returned (some v), a1, b1, b2, [], 0, 0, b3, v, rfl, b4, b5, rfl, rfl, rfl⟩
section TV
variable {p : Program} {l : Launch} {e : Env} {R : Room} {s : State} {m : MethodId} {args : Array Value} {below : List Frame} {meth : Method} {c : Code} {H : Heap} {locs : List Loc} {cells slots : Nat} {Q : State → Prop} {pc : Nat} {ls : Array Slot} {rest : List Value}
theorem lv_tv {x y : Int32} (h : x = y) (k : W p l e R s m args below meth c H locs cells slots Q (F0 m pc ls (.int y :: rest))) : W p l e R s m args below meth c H locs cells slots Q (F0 m pc ls (.int x :: rest)) := by
  rw [h]; exact k
theorem lv_tvl {x y : Int64} (h : x = y) (k : W p l e R s m args below meth c H locs cells slots Q (F0 m pc ls (.long y :: rest))) : W p l e R s m args below meth c H locs cells slots Q (F0 m pc ls (.long x :: rest)) := by
  rw [h]; exact k
/-- a new array of numbers, of a class of arrays that is known -/
theorem t_newa {cc : ByteArray} {D : va_G} {cl : List vw_C} {tys : List (ClassId × FieldType)} {ws : va_W} {A : Nat → Prop} (hexec : p.tables.exec = Jvm.exec) (hb : c.code = cc) {atype : ArrayType} (harr : (Cond.arrayClass (newarray.typeOf atype)).before args s = true) {ty : FieldType} (hty : newarray.typeOf atype = ty) (hK : va_K D cl tys s) (hP : va_P D cl ws H) (hD : va_D A ws) (hS : va_S A s.heap H locs) (hA : ∀ q, s.heap.size ≤ q → A q)
    (t0 : Nat) {cA : ClassId} (ht : tys[t0]? = some (cA, ty)) {n : Int32} {N' : Nat} {a0 : vp_A} (ha : ∀ cA : ClassId, vp_cell cA a0 = arrV cA N' (fun _ => defaultValue ty)) (hn : ¬ n < 0) (hN : n.toNatClampNeg = N') (hbytes : N' * componentBytes ty ≤ 536870912) (hcells : cells + 1 ≤ R.cells) (hslots : slots + N' ≤ R.slots) (hdg : decode cc pc = .ok (.newarray atype, 2))
    (kk : ∀ (q : Nat) (H1 : Heap), va_P D cl (ws ++ [(q, .inl (cA, a0))]) H1 → va_D A (ws ++ [(q, .inl (cA, a0))]) → va_S A s.heap H1 locs →
      W p l e R s m args below meth c H1 locs (cells + 1) (slots + N') Q (F0 m (pc + 2) ls (.ref q :: rest))) : W p l e R s m args below meth c H locs cells slots Q (F0 m pc ls (.int n :: rest)) := by
  refine va_newa hexec hb harr hty hK hP hD hS hA ha hn hN hbytes hcells hslots hdg (fun q cA' H1 hK' hP' hD' hS' => ?_)
  have h1 := (hK.2 t0 _ ht).2
  have h2 := (hK'.2 tys.length (cA', ty) (by rw [List.getElem?_append_right (Nat.le_refl _), Nat.sub_self]; rfl)).2
  have hc : cA' = cA := by
    subst hty
    cases atype <;> exact Option.some.inj (h2.symm.trans h1)
  subst hc
  exact kk q H1 hP' hD' hS'
end TV
end
section
def gd_tbl : List Cond := lw_tbl.filter goodWord
theorem gd_good : GoodIn gd_tbl gd_tbl := fun w h => ⟨h, good_of_word (List.mem_filter.mp h).2⟩
def nx_tbl : List Cond := [(Jvm.Cond.methodLinkNest "CharOutlines" (9 : Nat) ({ cls := "CharOutlines$Bytes", name := "<init>", desc := "()V" } : Jvm.MethodName) "CharOutlines"), (Jvm.Cond.methodLinkNest "CharOutlines" (18 : Nat) ({ cls := "CharOutlines$Machine", name := "<init>", desc := "()V" } : Jvm.MethodName) "CharOutlines"), (Jvm.Cond.methodLinkNest "CharOutlines$Machine" (11 : Nat) ({ cls := "CharOutlines$Strings", name := "<init>", desc := "()V" } : Jvm.MethodName) "CharOutlines"), (Jvm.Cond.methodLinkNest "CharOutlines$Strings" (11 : Nat) ({ cls := "CharOutlines$Shelf", name := "<init>", desc := "()V" } : Jvm.MethodName) "CharOutlines"), (Jvm.Cond.methodLinkNest "CharOutlines$Shelf" (11 : Nat) ({ cls := "CharOutlines$Bytes", name := "<init>", desc := "()V" } : Jvm.MethodName) "CharOutlines"), (Jvm.Cond.methodLinkNest "CharOutlines$Machine" (20 : Nat) ({ cls := "CharOutlines$Values", name := "<init>", desc := "()V" } : Jvm.MethodName) "CharOutlines"), (Jvm.Cond.methodLinkNest "CharOutlines$Machine" (27 : Nat) ({ cls := "CharOutlines$Reckoning", name := "<init>", desc := "()V" } : Jvm.MethodName) "CharOutlines"), (Jvm.Cond.methodLinkNest "CharOutlines$Machine" (34 : Nat) ({ cls := "CharOutlines$Outline", name := "<init>", desc := "()V" } : Jvm.MethodName) "CharOutlines"), (Jvm.Cond.castable "java/lang/IndexOutOfBoundsException" "java/lang/IndexOutOfBoundsException"), (Jvm.Cond.declares ({ cls := "java/lang/RuntimeException", name := "<init>", desc := "()V" } : Jvm.MethodName)), (Jvm.Cond.declares ({ cls := "java/lang/RuntimeException", name := "<init>", desc := "(Ljava/lang/String;)V" } : Jvm.MethodName)), (Jvm.Cond.declares ({ cls := "java/lang/Exception", name := "<init>", desc := "()V" } : Jvm.MethodName)), (Jvm.Cond.declares ({ cls := "java/lang/Exception", name := "<init>", desc := "(Ljava/lang/String;)V" } : Jvm.MethodName)), (Jvm.Cond.declares ({ cls := "java/lang/Throwable", name := "<init>", desc := "()V" } : Jvm.MethodName)), (Jvm.Cond.declares ({ cls := "java/lang/Throwable", name := "<init>", desc := "(Ljava/lang/String;)V" } : Jvm.MethodName)), (Jvm.Cond.castable "java/lang/IllegalArgumentException" "java/lang/IllegalArgumentException")]
theorem nx_ok : NXok nx_tbl := by
  intro w hw
  simp only [nx_tbl, List.mem_cons, List.not_mem_nil, or_false] at hw
  rcases hw with rfl | rfl | rfl | rfl | rfl | rfl | rfl | rfl | rfl | rfl | rfl | rfl | rfl | rfl | rfl | rfl
  · exact Or.inl ⟨_, _, _, _, rfl⟩
  · exact Or.inl ⟨_, _, _, _, rfl⟩
  · exact Or.inl ⟨_, _, _, _, rfl⟩
  · exact Or.inl ⟨_, _, _, _, rfl⟩
  · exact Or.inl ⟨_, _, _, _, rfl⟩
  · exact Or.inl ⟨_, _, _, _, rfl⟩
  · exact Or.inl ⟨_, _, _, _, rfl⟩
  · exact Or.inl ⟨_, _, _, _, rfl⟩
  · exact Or.inr (Or.inr (Or.inr ⟨_, _, rfl⟩))
  · exact Or.inr (Or.inr (Or.inl ⟨_, rfl⟩))
  · exact Or.inr (Or.inr (Or.inl ⟨_, rfl⟩))
  · exact Or.inr (Or.inr (Or.inl ⟨_, rfl⟩))
  · exact Or.inr (Or.inr (Or.inl ⟨_, rfl⟩))
  · exact Or.inr (Or.inr (Or.inl ⟨_, rfl⟩))
  · exact Or.inr (Or.inr (Or.inl ⟨_, rfl⟩))
  · exact Or.inr (Or.inr (Or.inr ⟨_, _, rfl⟩))
set_option maxRecDepth 100000 in
theorem nx_in : ∀ w ∈ nx_tbl, w ∈ lw_tbl := by
  intro w hw
  simp only [nx_tbl, List.mem_cons, List.not_mem_nil, or_false] at hw
  rcases hw with rfl | rfl | rfl | rfl | rfl | rfl | rfl | rfl | rfl | rfl | rfl | rfl | rfl | rfl | rfl | rfl
  · exact List.mem_of_getElem? (i := 88) rfl
  · exact List.mem_of_getElem? (i := 102) rfl
  · exact List.mem_of_getElem? (i := 108) rfl
  · exact List.mem_of_getElem? (i := 114) rfl
  · exact List.mem_of_getElem? (i := 119) rfl
  · exact List.mem_of_getElem? (i := 155) rfl
  · exact List.mem_of_getElem? (i := 171) rfl
  · exact List.mem_of_getElem? (i := 181) rfl
  · exact List.mem_of_getElem? (i := 302) rfl
  · exact List.mem_of_getElem? (i := 303) rfl
  · exact List.mem_of_getElem? (i := 304) rfl
  · exact List.mem_of_getElem? (i := 305) rfl
  · exact List.mem_of_getElem? (i := 306) rfl
  · exact List.mem_of_getElem? (i := 307) rfl
  · exact List.mem_of_getElem? (i := 308) rfl
  · exact List.mem_of_getElem? (i := 368) rfl
abbrev TY (cB cI cJ : ClassId) : List (ClassId × FieldType) := [(cB, .byte), (cI, .int), (cJ, .long)]
abbrev R_By : String := "CharOutlines$Bytes"
def F_By : u_T := fun k => match k with
  | 0 => ("CharOutlines$Bytes", "room", "[B", false)
  | _ => ("CharOutlines$Bytes", "length", "I", false)
def t_By : Nat → FieldType := fun k => match k with
  | 0 => .array .byte
  | _ => .int
theorem n_By : ∀ a, a < 2 → ∀ b, b < 2 → a ≠ b → (F_By a).2.1 ≠ (F_By b).2.1 := by decide +kernel
theorem t_By_ok : ∀ k, k < 2 → parseFieldDescriptor (F_By k).2.2.1 = some (t_By k) := by decide +kernel
set_option maxRecDepth 100000 in
theorem i_By : ∀ w ∈ u_ws R_By F_By 2, w ∈ gd_tbl := by
  intro w hw
  obtain ⟨k, hk, rfl⟩ := List.mem_map.mp hw
  have hk : k < 2 := List.mem_range.mp hk
  match k, hk with
  | 0, _ => exact List.mem_filter.mpr ⟨List.mem_of_getElem? (i := 94) rfl, rfl⟩
  | 1, _ => exact List.mem_filter.mpr ⟨List.mem_of_getElem? (i := 96) rfl, rfl⟩
  | k + 2, h => exact absurd h (by omega)
set_option maxRecDepth 100000 in
theorem in_By : Cond.instantiable R_By 2 ∈ gd_tbl := List.mem_filter.mpr ⟨List.mem_of_getElem? (i := 87) rfl, rfl⟩
set_option maxRecDepth 100000 in
theorem ini_By : Cond.initialized R_By ∈ gd_tbl := List.mem_filter.mpr ⟨List.mem_of_getElem? (i := 61) rfl, rfl⟩
abbrev R_Sh : String := "CharOutlines$Shelf"
def F_Sh : u_T := fun k => match k with
  | 0 => ("CharOutlines$Shelf", "bytes", "LCharOutlines$Bytes;", true)
  | _ => ("CharOutlines$Shelf", "strings", "I", false)
def t_Sh : Nat → FieldType := fun k => match k with
  | 0 => .object "CharOutlines$Bytes"
  | _ => .int
theorem n_Sh : ∀ a, a < 2 → ∀ b, b < 2 → a ≠ b → (F_Sh a).2.1 ≠ (F_Sh b).2.1 := by decide +kernel
theorem t_Sh_ok : ∀ k, k < 2 → parseFieldDescriptor (F_Sh k).2.2.1 = some (t_Sh k) := by decide +kernel
set_option maxRecDepth 100000 in
theorem i_Sh : ∀ w ∈ u_ws R_Sh F_Sh 2, w ∈ gd_tbl := by
  intro w hw
  obtain ⟨k, hk, rfl⟩ := List.mem_map.mp hw
  have hk : k < 2 := List.mem_range.mp hk
  match k, hk with
  | 0, _ => exact List.mem_filter.mpr ⟨List.mem_of_getElem? (i := 122) rfl, rfl⟩
  | 1, _ => exact List.mem_filter.mpr ⟨List.mem_of_getElem? (i := 124) rfl, rfl⟩
  | k + 2, h => exact absurd h (by omega)
set_option maxRecDepth 100000 in
theorem in_Sh : Cond.instantiable R_Sh 2 ∈ gd_tbl := List.mem_filter.mpr ⟨List.mem_of_getElem? (i := 113) rfl, rfl⟩
set_option maxRecDepth 100000 in
theorem ini_Sh : Cond.initialized R_Sh ∈ gd_tbl := List.mem_filter.mpr ⟨List.mem_of_getElem? (i := 64) rfl, rfl⟩
abbrev R_St : String := "CharOutlines$Strings"
def F_St : u_T := fun k => match k with
  | 0 => ("CharOutlines$Strings", "programs", "LCharOutlines$Shelf;", true)
  | 1 => ("CharOutlines$Strings", "globals", "LCharOutlines$Shelf;", true)
  | 2 => ("CharOutlines$Strings", "locals", "LCharOutlines$Shelf;", true)
  | 3 => ("CharOutlines$Strings", "kinds", "[I", true)
  | 4 => ("CharOutlines$Strings", "places", "[I", true)
  | 5 => ("CharOutlines$Strings", "ends", "[I", true)
  | 6 => ("CharOutlines$Strings", "depth", "I", false)
  | _ => ("CharOutlines$Strings", "deepest", "I", false)
def t_St : Nat → FieldType := fun k => match k with
  | 0 => .object "CharOutlines$Shelf"
  | 1 => .object "CharOutlines$Shelf"
  | 2 => .object "CharOutlines$Shelf"
  | 3 => .array .int
  | 4 => .array .int
  | 5 => .array .int
  | 6 => .int
  | _ => .int
theorem n_St : ∀ a, a < 8 → ∀ b, b < 8 → a ≠ b → (F_St a).2.1 ≠ (F_St b).2.1 := by decide +kernel
theorem t_St_ok : ∀ k, k < 8 → parseFieldDescriptor (F_St k).2.2.1 = some (t_St k) := by decide +kernel
set_option maxRecDepth 100000 in
theorem i_St : ∀ w ∈ u_ws R_St F_St 8, w ∈ gd_tbl := by
  intro w hw
  obtain ⟨k, hk, rfl⟩ := List.mem_map.mp hw
  have hk : k < 8 := List.mem_range.mp hk
  match k, hk with
  | 0, _ => exact List.mem_filter.mpr ⟨List.mem_of_getElem? (i := 135) rfl, rfl⟩
  | 1, _ => exact List.mem_filter.mpr ⟨List.mem_of_getElem? (i := 137) rfl, rfl⟩
  | 2, _ => exact List.mem_filter.mpr ⟨List.mem_of_getElem? (i := 139) rfl, rfl⟩
  | 3, _ => exact List.mem_filter.mpr ⟨List.mem_of_getElem? (i := 141) rfl, rfl⟩
  | 4, _ => exact List.mem_filter.mpr ⟨List.mem_of_getElem? (i := 143) rfl, rfl⟩
  | 5, _ => exact List.mem_filter.mpr ⟨List.mem_of_getElem? (i := 145) rfl, rfl⟩
  | 6, _ => exact List.mem_filter.mpr ⟨List.mem_of_getElem? (i := 147) rfl, rfl⟩
  | 7, _ => exact List.mem_filter.mpr ⟨List.mem_of_getElem? (i := 149) rfl, rfl⟩
  | k + 8, h => exact absurd h (by omega)
set_option maxRecDepth 100000 in
theorem in_St : Cond.instantiable R_St 8 ∈ gd_tbl := List.mem_filter.mpr ⟨List.mem_of_getElem? (i := 107) rfl, rfl⟩
set_option maxRecDepth 100000 in
theorem ini_St : Cond.initialized R_St ∈ gd_tbl := List.mem_filter.mpr ⟨List.mem_of_getElem? (i := 63) rfl, rfl⟩
abbrev R_Va : String := "CharOutlines$Values"
def F_Va : u_T := fun k => match k with
  | 0 => ("CharOutlines$Values", "values", "[I", true)
  | 1 => ("CharOutlines$Values", "turned", "[I", true)
  | _ => ("CharOutlines$Values", "size", "I", false)
def t_Va : Nat → FieldType := fun k => match k with
  | 0 => .array .int
  | 1 => .array .int
  | _ => .int
theorem n_Va : ∀ a, a < 3 → ∀ b, b < 3 → a ≠ b → (F_Va a).2.1 ≠ (F_Va b).2.1 := by decide +kernel
theorem t_Va_ok : ∀ k, k < 3 → parseFieldDescriptor (F_Va k).2.2.1 = some (t_Va k) := by decide +kernel
set_option maxRecDepth 100000 in
theorem i_Va : ∀ w ∈ u_ws R_Va F_Va 3, w ∈ gd_tbl := by
  intro w hw
  obtain ⟨k, hk, rfl⟩ := List.mem_map.mp hw
  have hk : k < 3 := List.mem_range.mp hk
  match k, hk with
  | 0, _ => exact List.mem_filter.mpr ⟨List.mem_of_getElem? (i := 162) rfl, rfl⟩
  | 1, _ => exact List.mem_filter.mpr ⟨List.mem_of_getElem? (i := 164) rfl, rfl⟩
  | 2, _ => exact List.mem_filter.mpr ⟨List.mem_of_getElem? (i := 166) rfl, rfl⟩
  | k + 3, h => exact absurd h (by omega)
set_option maxRecDepth 100000 in
theorem in_Va : Cond.instantiable R_Va 3 ∈ gd_tbl := List.mem_filter.mpr ⟨List.mem_of_getElem? (i := 154) rfl, rfl⟩
set_option maxRecDepth 100000 in
theorem ini_Va : Cond.initialized R_Va ∈ gd_tbl := List.mem_filter.mpr ⟨List.mem_of_getElem? (i := 65) rfl, rfl⟩
abbrev R_Ou : String := "CharOutlines$Outline"
def F_Ou : u_T := fun k => match k with
  | 0 => ("CharOutlines$Outline", "room", "[I", false)
  | 1 => ("CharOutlines$Outline", "marks", "I", false)
  | 2 => ("CharOutlines$Outline", "x", "I", false)
  | _ => ("CharOutlines$Outline", "y", "I", false)
def t_Ou : Nat → FieldType := fun k => match k with
  | 0 => .array .int
  | 1 => .int
  | 2 => .int
  | _ => .int
theorem n_Ou : ∀ a, a < 4 → ∀ b, b < 4 → a ≠ b → (F_Ou a).2.1 ≠ (F_Ou b).2.1 := by decide +kernel
theorem t_Ou_ok : ∀ k, k < 4 → parseFieldDescriptor (F_Ou k).2.2.1 = some (t_Ou k) := by decide +kernel
set_option maxRecDepth 100000 in
theorem i_Ou : ∀ w ∈ u_ws R_Ou F_Ou 4, w ∈ gd_tbl := by
  intro w hw
  obtain ⟨k, hk, rfl⟩ := List.mem_map.mp hw
  have hk : k < 4 := List.mem_range.mp hk
  match k, hk with
  | 0, _ => exact List.mem_filter.mpr ⟨List.mem_of_getElem? (i := 189) rfl, rfl⟩
  | 1, _ => exact List.mem_filter.mpr ⟨List.mem_of_getElem? (i := 191) rfl, rfl⟩
  | 2, _ => exact List.mem_filter.mpr ⟨List.mem_of_getElem? (i := 193) rfl, rfl⟩
  | 3, _ => exact List.mem_filter.mpr ⟨List.mem_of_getElem? (i := 195) rfl, rfl⟩
  | k + 4, h => exact absurd h (by omega)
set_option maxRecDepth 100000 in
theorem in_Ou : Cond.instantiable R_Ou 4 ∈ gd_tbl := List.mem_filter.mpr ⟨List.mem_of_getElem? (i := 180) rfl, rfl⟩
set_option maxRecDepth 100000 in
theorem ini_Ou : Cond.initialized R_Ou ∈ gd_tbl := List.mem_filter.mpr ⟨List.mem_of_getElem? (i := 67) rfl, rfl⟩
abbrev R_Re : String := "CharOutlines$Reckoning"
def F_Re : u_T := fun k => match k with
  | _ => ("CharOutlines$Reckoning", "places", "[I", true)
def t_Re : Nat → FieldType := fun k => match k with
  | _ => .array .int
theorem n_Re : ∀ a, a < 1 → ∀ b, b < 1 → a ≠ b → (F_Re a).2.1 ≠ (F_Re b).2.1 := by decide +kernel
theorem t_Re_ok : ∀ k, k < 1 → parseFieldDescriptor (F_Re k).2.2.1 = some (t_Re k) := by decide +kernel
set_option maxRecDepth 100000 in
theorem i_Re : ∀ w ∈ u_ws R_Re F_Re 1, w ∈ gd_tbl := by
  intro w hw
  obtain ⟨k, hk, rfl⟩ := List.mem_map.mp hw
  have hk : k < 1 := List.mem_range.mp hk
  match k, hk with
  | 0, _ => exact List.mem_filter.mpr ⟨List.mem_of_getElem? (i := 176) rfl, rfl⟩
  | k + 1, h => exact absurd h (by omega)
set_option maxRecDepth 100000 in
theorem in_Re : Cond.instantiable R_Re 1 ∈ gd_tbl := List.mem_filter.mpr ⟨List.mem_of_getElem? (i := 170) rfl, rfl⟩
set_option maxRecDepth 100000 in
theorem ini_Re : Cond.initialized R_Re ∈ gd_tbl := List.mem_filter.mpr ⟨List.mem_of_getElem? (i := 66) rfl, rfl⟩
abbrev R_Ma : String := "CharOutlines$Machine"
def F_Ma : u_T := fun k => match k with
  | 0 => ("CharOutlines$Machine", "strings", "LCharOutlines$Strings;", true)
  | 1 => ("CharOutlines$Machine", "values", "LCharOutlines$Values;", true)
  | 2 => ("CharOutlines$Machine", "reckoning", "LCharOutlines$Reckoning;", true)
  | 3 => ("CharOutlines$Machine", "outline", "LCharOutlines$Outline;", true)
  | 4 => ("CharOutlines$Machine", "hasRun", "Z", false)
  | 5 => ("CharOutlines$Machine", "steps", "I", false)
  | 6 => ("CharOutlines$Machine", "hints", "I", false)
  | 7 => ("CharOutlines$Machine", "widthPassed", "Z", false)
  | 8 => ("CharOutlines$Machine", "widthTold", "Z", false)
  | 9 => ("CharOutlines$Machine", "width", "I", false)
  | _ => ("CharOutlines$Machine", "moved", "Z", false)
def t_Ma : Nat → FieldType := fun k => match k with
  | 0 => .object "CharOutlines$Strings"
  | 1 => .object "CharOutlines$Values"
  | 2 => .object "CharOutlines$Reckoning"
  | 3 => .object "CharOutlines$Outline"
  | 4 => .boolean
  | 5 => .int
  | 6 => .int
  | 7 => .boolean
  | 8 => .boolean
  | 9 => .int
  | _ => .boolean
theorem n_Ma : ∀ a, a < 11 → ∀ b, b < 11 → a ≠ b → (F_Ma a).2.1 ≠ (F_Ma b).2.1 := by decide +kernel
theorem t_Ma_ok : ∀ k, k < 11 → parseFieldDescriptor (F_Ma k).2.2.1 = some (t_Ma k) := by decide +kernel
set_option maxRecDepth 100000 in
theorem i_Ma : ∀ w ∈ u_ws R_Ma F_Ma 11, w ∈ gd_tbl := by
  intro w hw
  obtain ⟨k, hk, rfl⟩ := List.mem_map.mp hw
  have hk : k < 11 := List.mem_range.mp hk
  match k, hk with
  | 0, _ => exact List.mem_filter.mpr ⟨List.mem_of_getElem? (i := 209) rfl, rfl⟩
  | 1, _ => exact List.mem_filter.mpr ⟨List.mem_of_getElem? (i := 211) rfl, rfl⟩
  | 2, _ => exact List.mem_filter.mpr ⟨List.mem_of_getElem? (i := 213) rfl, rfl⟩
  | 3, _ => exact List.mem_filter.mpr ⟨List.mem_of_getElem? (i := 215) rfl, rfl⟩
  | 4, _ => exact List.mem_filter.mpr ⟨List.mem_of_getElem? (i := 217) rfl, rfl⟩
  | 5, _ => exact List.mem_filter.mpr ⟨List.mem_of_getElem? (i := 219) rfl, rfl⟩
  | 6, _ => exact List.mem_filter.mpr ⟨List.mem_of_getElem? (i := 221) rfl, rfl⟩
  | 7, _ => exact List.mem_filter.mpr ⟨List.mem_of_getElem? (i := 223) rfl, rfl⟩
  | 8, _ => exact List.mem_filter.mpr ⟨List.mem_of_getElem? (i := 225) rfl, rfl⟩
  | 9, _ => exact List.mem_filter.mpr ⟨List.mem_of_getElem? (i := 227) rfl, rfl⟩
  | 10, _ => exact List.mem_filter.mpr ⟨List.mem_of_getElem? (i := 229) rfl, rfl⟩
  | k + 11, h => exact absurd h (by omega)
set_option maxRecDepth 100000 in
theorem in_Ma : Cond.instantiable R_Ma 11 ∈ gd_tbl := List.mem_filter.mpr ⟨List.mem_of_getElem? (i := 101) rfl, rfl⟩
set_option maxRecDepth 100000 in
theorem ini_Ma : Cond.initialized R_Ma ∈ gd_tbl := List.mem_filter.mpr ⟨List.mem_of_getElem? (i := 62) rfl, rfl⟩
abbrev R_CO : String := "CharOutlines"
def F_CO : u_T := fun k => match k with
  | 0 => ("CharOutlines", "row", "LCharOutlines$Bytes;", true)
  | _ => ("CharOutlines", "machine", "LCharOutlines$Machine;", true)
def t_CO : Nat → FieldType := fun k => match k with
  | 0 => .object "CharOutlines$Bytes"
  | _ => .object "CharOutlines$Machine"
theorem n_CO : ∀ a, a < 2 → ∀ b, b < 2 → a ≠ b → (F_CO a).2.1 ≠ (F_CO b).2.1 := by decide +kernel
theorem t_CO_ok : ∀ k, k < 2 → parseFieldDescriptor (F_CO k).2.2.1 = some (t_CO k) := by decide +kernel
set_option maxRecDepth 100000 in
theorem i_CO : ∀ w ∈ u_ws R_CO F_CO 2, w ∈ gd_tbl := by
  intro w hw
  obtain ⟨k, hk, rfl⟩ := List.mem_map.mp hw
  have hk : k < 2 := List.mem_range.mp hk
  match k, hk with
  | 0, _ => exact List.mem_filter.mpr ⟨List.mem_of_getElem? (i := 234) rfl, rfl⟩
  | 1, _ => exact List.mem_filter.mpr ⟨List.mem_of_getElem? (i := 236) rfl, rfl⟩
  | k + 2, h => exact absurd h (by omega)
set_option maxRecDepth 100000 in
theorem in_CO : Cond.instantiable R_CO 2 ∈ gd_tbl := List.mem_filter.mpr ⟨List.mem_of_getElem? (i := 79) rfl, rfl⟩
set_option maxRecDepth 100000 in
theorem ini_CO : Cond.initialized R_CO ∈ gd_tbl := List.mem_filter.mpr ⟨List.mem_of_getElem? (i := 60) rfl, rfl⟩
abbrev R_Mo : String := "CharOutlinesModel"
def F_Mo : u_T := fun k => match k with
  | 0 => ("CharOutlinesModel", "fault", "I", false)
  | 1 => ("CharOutlinesModel", "size", "I", false)
  | 2 => ("CharOutlinesModel", "row", "[I", true)
  | 3 => ("CharOutlinesModel", "shelves", "[I", true)
  | 4 => ("CharOutlinesModel", "many", "[I", true)
  | 5 => ("CharOutlinesModel", "widths", "[I", true)
  | 6 => ("CharOutlinesModel", "marks", "I", false)
  | 7 => ("CharOutlinesModel", "mark", "[I", true)
  | 8 => ("CharOutlinesModel", "shown", "I", false)
  | 9 => ("CharOutlinesModel", "shownMark", "[I", true)
  | 10 => ("CharOutlinesModel", "wasRun", "Z", false)
  | 11 => ("CharOutlinesModel", "wrong", "I", false)
  | 12 => ("CharOutlinesModel", "ended", "Z", false)
  | 13 => ("CharOutlinesModel", "steps", "I", false)
  | 14 => ("CharOutlinesModel", "hints", "I", false)
  | 15 => ("CharOutlinesModel", "hasWidth", "Z", false)
  | 16 => ("CharOutlinesModel", "width", "I", false)
  | 17 => ("CharOutlinesModel", "first", "Z", false)
  | 18 => ("CharOutlinesModel", "moved", "Z", false)
  | 19 => ("CharOutlinesModel", "deepest", "I", false)
  | 20 => ("CharOutlinesModel", "x", "I", false)
  | 21 => ("CharOutlinesModel", "y", "I", false)
  | 22 => ("CharOutlinesModel", "top", "I", false)
  | 23 => ("CharOutlinesModel", "stack", "[I", true)
  | 24 => ("CharOutlinesModel", "places", "[I", true)
  | 25 => ("CharOutlinesModel", "depth", "I", false)
  | 26 => ("CharOutlinesModel", "kinds", "[I", true)
  | 27 => ("CharOutlinesModel", "ats", "[I", true)
  | _ => ("CharOutlinesModel", "ends", "[I", true)
def t_Mo : Nat → FieldType := fun k => match k with
  | 0 => .int
  | 1 => .int
  | 2 => .array .int
  | 3 => .array .int
  | 4 => .array .int
  | 5 => .array .int
  | 6 => .int
  | 7 => .array .int
  | 8 => .int
  | 9 => .array .int
  | 10 => .boolean
  | 11 => .int
  | 12 => .boolean
  | 13 => .int
  | 14 => .int
  | 15 => .boolean
  | 16 => .int
  | 17 => .boolean
  | 18 => .boolean
  | 19 => .int
  | 20 => .int
  | 21 => .int
  | 22 => .int
  | 23 => .array .int
  | 24 => .array .int
  | 25 => .int
  | 26 => .array .int
  | 27 => .array .int
  | _ => .array .int
theorem n_Mo : ∀ a, a < 29 → ∀ b, b < 29 → a ≠ b → (F_Mo a).2.1 ≠ (F_Mo b).2.1 := by decide +kernel
theorem t_Mo_ok : ∀ k, k < 29 → parseFieldDescriptor (F_Mo k).2.2.1 = some (t_Mo k) := by decide +kernel
set_option maxRecDepth 100000 in
theorem i_Mo : ∀ w ∈ u_ws R_Mo F_Mo 29, w ∈ gd_tbl := by
  intro w hw
  obtain ⟨k, hk, rfl⟩ := List.mem_map.mp hw
  have hk : k < 29 := List.mem_range.mp hk
  match k, hk with
  | 0, _ => exact List.mem_filter.mpr ⟨List.mem_of_getElem? (i := 780) rfl, rfl⟩
  | 1, _ => exact List.mem_filter.mpr ⟨List.mem_of_getElem? (i := 782) rfl, rfl⟩
  | 2, _ => exact List.mem_filter.mpr ⟨List.mem_of_getElem? (i := 784) rfl, rfl⟩
  | 3, _ => exact List.mem_filter.mpr ⟨List.mem_of_getElem? (i := 786) rfl, rfl⟩
  | 4, _ => exact List.mem_filter.mpr ⟨List.mem_of_getElem? (i := 788) rfl, rfl⟩
  | 5, _ => exact List.mem_filter.mpr ⟨List.mem_of_getElem? (i := 790) rfl, rfl⟩
  | 6, _ => exact List.mem_filter.mpr ⟨List.mem_of_getElem? (i := 792) rfl, rfl⟩
  | 7, _ => exact List.mem_filter.mpr ⟨List.mem_of_getElem? (i := 794) rfl, rfl⟩
  | 8, _ => exact List.mem_filter.mpr ⟨List.mem_of_getElem? (i := 796) rfl, rfl⟩
  | 9, _ => exact List.mem_filter.mpr ⟨List.mem_of_getElem? (i := 798) rfl, rfl⟩
  | 10, _ => exact List.mem_filter.mpr ⟨List.mem_of_getElem? (i := 800) rfl, rfl⟩
  | 11, _ => exact List.mem_filter.mpr ⟨List.mem_of_getElem? (i := 802) rfl, rfl⟩
  | 12, _ => exact List.mem_filter.mpr ⟨List.mem_of_getElem? (i := 804) rfl, rfl⟩
  | 13, _ => exact List.mem_filter.mpr ⟨List.mem_of_getElem? (i := 806) rfl, rfl⟩
  | 14, _ => exact List.mem_filter.mpr ⟨List.mem_of_getElem? (i := 808) rfl, rfl⟩
  | 15, _ => exact List.mem_filter.mpr ⟨List.mem_of_getElem? (i := 810) rfl, rfl⟩
  | 16, _ => exact List.mem_filter.mpr ⟨List.mem_of_getElem? (i := 812) rfl, rfl⟩
  | 17, _ => exact List.mem_filter.mpr ⟨List.mem_of_getElem? (i := 814) rfl, rfl⟩
  | 18, _ => exact List.mem_filter.mpr ⟨List.mem_of_getElem? (i := 816) rfl, rfl⟩
  | 19, _ => exact List.mem_filter.mpr ⟨List.mem_of_getElem? (i := 818) rfl, rfl⟩
  | 20, _ => exact List.mem_filter.mpr ⟨List.mem_of_getElem? (i := 820) rfl, rfl⟩
  | 21, _ => exact List.mem_filter.mpr ⟨List.mem_of_getElem? (i := 822) rfl, rfl⟩
  | 22, _ => exact List.mem_filter.mpr ⟨List.mem_of_getElem? (i := 824) rfl, rfl⟩
  | 23, _ => exact List.mem_filter.mpr ⟨List.mem_of_getElem? (i := 826) rfl, rfl⟩
  | 24, _ => exact List.mem_filter.mpr ⟨List.mem_of_getElem? (i := 828) rfl, rfl⟩
  | 25, _ => exact List.mem_filter.mpr ⟨List.mem_of_getElem? (i := 830) rfl, rfl⟩
  | 26, _ => exact List.mem_filter.mpr ⟨List.mem_of_getElem? (i := 832) rfl, rfl⟩
  | 27, _ => exact List.mem_filter.mpr ⟨List.mem_of_getElem? (i := 834) rfl, rfl⟩
  | 28, _ => exact List.mem_filter.mpr ⟨List.mem_of_getElem? (i := 836) rfl, rfl⟩
  | k + 29, h => exact absurd h (by omega)
set_option maxRecDepth 100000 in
theorem in_Mo : Cond.instantiable R_Mo 29 ∈ gd_tbl := List.mem_filter.mpr ⟨List.mem_of_getElem? (i := 745) rfl, rfl⟩
set_option maxRecDepth 100000 in
theorem ini_Mo : Cond.initialized R_Mo ∈ gd_tbl := List.mem_filter.mpr ⟨List.mem_of_getElem? (i := 68) rfl, rfl⟩
abbrev classes : List vw_C := [(R_By, F_By, 2), (R_Sh, F_Sh, 2), (R_St, F_St, 8), (R_Va, F_Va, 3), (R_Ou, F_Ou, 4), (R_Re, F_Re, 1), (R_Ma, F_Ma, 11), (R_CO, F_CO, 2), (R_Mo, F_Mo, 29)]
set_option maxRecDepth 100000 in
theorem ar_B : Cond.arrayClass .byte ∈ gd_tbl := List.mem_filter.mpr ⟨List.mem_of_getElem? (i := 99) rfl, rfl⟩
set_option maxRecDepth 100000 in
theorem ar_I : Cond.arrayClass .int ∈ gd_tbl := List.mem_filter.mpr ⟨List.mem_of_getElem? (i := 152) rfl, rfl⟩
set_option maxRecDepth 100000 in
theorem ar_J : Cond.arrayClass .long ∈ gd_tbl := List.mem_filter.mpr ⟨List.mem_of_getElem? (i := 1059) rfl, rfl⟩
abbrev R_La : String := "CharOutlinesLaw"
set_option maxRecDepth 100000 in
theorem im_objectInit : Cond.instanceMethod objectInit ∈ gd_tbl := List.mem_filter.mpr ⟨List.mem_of_getElem? (i := 84) rfl, rfl⟩
set_option maxRecDepth 100000 in
theorem co_objectInit : Cond.code objectInit ⟨#[0xb1]⟩ 1 none ∈ gd_tbl := List.mem_filter.mpr ⟨List.mem_of_getElem? (i := 85) rfl, rfl⟩
end
section
def atB (n : Nat) (f : Nat → Int32) (i : Int32) : Int32 := if i < 0 then 0 else if nI n ≤ i then 0 else f i.toNatClampNeg &&& 255
theorem in_c {i : Int32} {n cap : Nat} (h1 : ¬ i < 0) (h2 : ¬ nI n ≤ i) (h3 : n ≤ cap) (h4 : n < 2 ^ 31) : vp_in i cap := by
  obtain ⟨j, hj, rfl⟩ := nI_of h1
  have : j < n := by
    rcases Nat.lt_or_ge j n with q | q
    · exact q
    · exact absurd (nI_le q hj) h2
  exact fun h => by
    rcases h with h | h
    · exact h1 h
    · rw [nI_clamp hj] at h; omega
theorem in_d {i : Int32} {n cap : Nat} (h1 : ¬ i < 0) (h2 : i < nI n) (h3 : n ≤ cap) (h4 : n < 2 ^ 31) : vp_in i cap := in_c h1 (Int32.not_le.mpr h2) h3 h4
abbrev b_By_length : ByteArray := prog_2_method_2_code
abbrev y_By_length : MethodName := ⟨"CharOutlines$Bytes", "length", "()I"⟩
set_option maxRecDepth 100000 in
theorem cal_By_length : CalV gd_tbl "CharOutlines$Bytes" y_By_length b_By_length 1 (some .int) 0 := ⟨⟨List.mem_filter.mpr ⟨List.mem_of_getElem? (i := 246) rfl, rfl⟩, List.mem_filter.mpr ⟨List.mem_of_getElem? (i := 61) rfl, rfl⟩, ⟨by decide, by decide⟩, by decide +kernel⟩, List.mem_filter.mpr ⟨List.mem_of_getElem? (i := 244) rfl, rfl⟩, List.mem_filter.mpr ⟨List.mem_of_getElem? (i := 245) rfl, rfl⟩⟩
theorem d_By_length_0 : decode b_By_length 0 = .ok (.aload_n 0, 1) := by decide +kernel
theorem d_By_length_1 : decode b_By_length 1 = .ok (.getfield 15, 3) := by decide +kernel
theorem d_By_length_4 : decode b_By_length 4 = .ok (.ireturn, 1) := by decide +kernel
abbrev b_By_at : ByteArray := prog_2_method_3_code
abbrev y_By_at : MethodName := ⟨"CharOutlines$Bytes", "at", "(I)I"⟩
set_option maxRecDepth 100000 in
theorem cal_By_at : CalV gd_tbl "CharOutlines$Bytes" y_By_at b_By_at 2 (some .int) 1 := ⟨⟨List.mem_filter.mpr ⟨List.mem_of_getElem? (i := 389) rfl, rfl⟩, List.mem_filter.mpr ⟨List.mem_of_getElem? (i := 61) rfl, rfl⟩, ⟨by decide, by decide⟩, by decide +kernel⟩, List.mem_filter.mpr ⟨List.mem_of_getElem? (i := 387) rfl, rfl⟩, List.mem_filter.mpr ⟨List.mem_of_getElem? (i := 388) rfl, rfl⟩⟩
theorem d_By_at_0 : decode b_By_at 0 = .ok (.iload_n 1, 1) := by decide +kernel
theorem d_By_at_1 : decode b_By_at 1 = .ok (.ifCond .lt 24, 3) := by decide +kernel
theorem d_By_at_4 : decode b_By_at 4 = .ok (.iload_n 1, 1) := by decide +kernel
theorem d_By_at_5 : decode b_By_at 5 = .ok (.aload_n 0, 1) := by decide +kernel
theorem d_By_at_6 : decode b_By_at 6 = .ok (.getfield 15, 3) := by decide +kernel
theorem d_By_at_9 : decode b_By_at 9 = .ok (.if_icmp .ge 16, 3) := by decide +kernel
theorem d_By_at_12 : decode b_By_at 12 = .ok (.aload_n 0, 1) := by decide +kernel
theorem d_By_at_13 : decode b_By_at 13 = .ok (.getfield 11, 3) := by decide +kernel
theorem d_By_at_16 : decode b_By_at 16 = .ok (.iload_n 1, 1) := by decide +kernel
theorem d_By_at_17 : decode b_By_at 17 = .ok (.baload, 1) := by decide +kernel
theorem d_By_at_18 : decode b_By_at 18 = .ok (.sipush 255, 3) := by decide +kernel
theorem d_By_at_21 : decode b_By_at 21 = .ok (.iand, 1) := by decide +kernel
theorem d_By_at_22 : decode b_By_at 22 = .ok (.goto 4, 3) := by decide +kernel
theorem d_By_at_25 : decode b_By_at 25 = .ok (.iconst 0, 1) := by decide +kernel
theorem d_By_at_26 : decode b_By_at 26 = .ok (.ireturn, 1) := by decide +kernel
set_option maxRecDepth 100000 in
theorem fl_By_11 : (Jvm.Cond.fieldLink "CharOutlines$Bytes" (11 : Nat) "CharOutlines$Bytes" "room" "[B") ∈ gd_tbl := List.mem_filter.mpr ⟨List.mem_of_getElem? (i := 92) rfl, rfl⟩
set_option maxRecDepth 100000 in
theorem fl_By_15 : (Jvm.Cond.fieldLink "CharOutlines$Bytes" (15 : Nat) "CharOutlines$Bytes" "length" "I") ∈ gd_tbl := List.mem_filter.mpr ⟨List.mem_of_getElem? (i := 93) rfl, rfl⟩
set_option maxHeartbeats 1000000 in
set_option maxRecDepth 100000 in
theorem c_By_length (l : Launch) (D : va_G) (cB cI cJ : ClassId) (h a n cap : Nat) (f : Nat → Int32) : Ro l D classes (TY cB cI cJ) gd_tbl nx_tbl y_By_length b_By_length 1 (some .int) ({ frames := 0, cells := 0, slots := 0, locals := 0 }) [.ref h] [(h, .inr (0, [.ref a, .int (nI n)])), (a, .inl (cB, cap, .inl f))] (fun v => v = .int (nI n)) := by
  refine Ro.intro (by decide +kernel) nx_ok (Nat.le_of_ble_eq_true rfl) ?_
  intro p_ e_ s_ m_ args_ below_ meth_ c_ A_ ls hx hb hml hown hts hr hlk hnm hZ hP hD hl
  have hl : lv_has ls 1 [(0, .ref h)] := hl
  refine lv_aload_n hx hb d_By_length_0 rfl (lv_at hl 0 rfl) ?_
  refine va_get (D := D) (ci := 0) (v := .int (nI n)) (C := R_By) (T := F_By) (N := 2) hx hb hts i_By hown hZ.1 hP 0 rfl rfl 1 (by decide) (hts _ fl_By_15) (fun _ h9 => h9) rfl d_By_length_1 ?_
  exact r_iret hx hb hr hlk d_By_length_4 rfl
set_option maxHeartbeats 1000000 in
set_option maxRecDepth 100000 in
theorem c_By_at (l : Launch) (D : va_G) (cB cI cJ : ClassId) (h a n cap : Nat) (f : Nat → Int32) (i : Int32) (hn : n ≤ cap ∧ cap ≤ 16384) : Ro l D classes (TY cB cI cJ) gd_tbl nx_tbl y_By_at b_By_at 2 (some .int) ({ frames := 0, cells := 0, slots := 0, locals := 0 }) [.ref h, .int i] [(h, .inr (0, [.ref a, .int (nI n)])), (a, .inl (cB, cap, .inl f))] (fun v => v = .int (atB n f i)) := by
  refine Ro.intro (by decide +kernel) nx_ok (Nat.le_of_ble_eq_true rfl) ?_
  intro p_ e_ s_ m_ args_ below_ meth_ c_ A_ ls hx hb hml hown hts hr hlk hnm hZ hP hD hl
  have hl : lv_has ls 2 [(0, .ref h), (1, .int i)] := hl
  refine lv_iload_n hx hb d_By_at_0 rfl (lv_at hl 1 rfl) ?_
  refine lv_if_lt (tgt := 25) hx hb d_By_at_1 (by decide) (fun c_1 => ?_) (fun c_1 => ?_)
  · refine lv_iconst (v := 0) hx hb d_By_at_25 (by decide) ?_
    exact r_iret hx hb hr hlk d_By_at_26 (by simp [atB, c_1])
  · refine lv_iload_n hx hb d_By_at_4 rfl (lv_at hl 1 rfl) ?_
    refine lv_aload_n hx hb d_By_at_5 rfl (lv_at hl 0 rfl) ?_
    refine va_get (D := D) (ci := 0) (v := .int (nI n)) (C := R_By) (T := F_By) (N := 2) hx hb hts i_By hown hZ.1 hP 0 rfl rfl 1 (by decide) (hts _ fl_By_15) (fun _ h9 => h9) rfl d_By_at_6 ?_
    refine lv_icmp_ge (tgt := 25) hx hb d_By_at_9 (by decide) (fun c_9 => ?_) (fun c_9 => ?_)
    · refine lv_iconst (v := 0) hx hb d_By_at_25 (by decide) ?_
      exact r_iret hx hb hr hlk d_By_at_26 (by simp [atB, c_1, c_9])
    · refine lv_aload_n hx hb d_By_at_12 rfl (lv_at hl 0 rfl) ?_
      refine va_get (D := D) (ci := 0) (v := .ref a) (C := R_By) (T := F_By) (N := 2) hx hb hts i_By hown hZ.1 hP 0 rfl rfl 0 (by decide) (hts _ fl_By_11) (fun _ h9 => h9) rfl d_By_at_13 ?_
      refine lv_iload_n hx hb d_By_at_16 rfl (lv_at hl 1 rfl) ?_
      refine va_bald hx hb hZ.1 hP 1 0 rfl rfl (in_c c_1 c_9 (by omega) (by omega)) d_By_at_17 ?_
      refine lv_sipush (v := 255) hx hb d_By_at_18 (by decide) ?_
      refine lv_iand hx hb d_By_at_21 ?_
      refine lv_goto (tgt := 26) hx hb d_By_at_22 (by decide) ?_
      exact r_iret hx hb hr hlk d_By_at_26 (by simp [atB, c_1, c_9])
end
section
abbrev b_By_init : ByteArray := prog_2_method_1_code
abbrev y_By_init : MethodName := ⟨"CharOutlines$Bytes", "<init>", "()V"⟩
set_option maxRecDepth 100000 in
theorem cal_By_init : CalI gd_tbl y_By_init b_By_init 1 0 := ⟨⟨List.mem_filter.mpr ⟨List.mem_of_getElem? (i := 90) rfl, rfl⟩, List.mem_filter.mpr ⟨List.mem_of_getElem? (i := 61) rfl, rfl⟩, ⟨by decide, by decide⟩, by decide +kernel⟩, rfl, List.mem_filter.mpr ⟨List.mem_of_getElem? (i := 89) rfl, rfl⟩⟩
theorem d_By_init_0 : decode b_By_init 0 = .ok (.aload_n 0, 1) := by decide +kernel
theorem d_By_init_1 : decode b_By_init 1 = .ok (.invokespecial 3, 3) := by decide +kernel
theorem d_By_init_4 : decode b_By_init 4 = .ok (.aload_n 0, 1) := by decide +kernel
theorem d_By_init_5 : decode b_By_init 5 = .ok (.bipush 64, 2) := by decide +kernel
theorem d_By_init_7 : decode b_By_init 7 = .ok (.newarray .byte, 2) := by decide +kernel
theorem d_By_init_9 : decode b_By_init 9 = .ok (.putfield 11, 3) := by decide +kernel
theorem d_By_init_12 : decode b_By_init 12 = .ok (.return_, 1) := by decide +kernel
abbrev b_Sh_init : ByteArray := prog_8_method_1_code
abbrev y_Sh_init : MethodName := ⟨"CharOutlines$Shelf", "<init>", "()V"⟩
set_option maxRecDepth 100000 in
theorem cal_Sh_init : CalI gd_tbl y_Sh_init b_Sh_init 1 0 := ⟨⟨List.mem_filter.mpr ⟨List.mem_of_getElem? (i := 116) rfl, rfl⟩, List.mem_filter.mpr ⟨List.mem_of_getElem? (i := 64) rfl, rfl⟩, ⟨by decide, by decide⟩, by decide +kernel⟩, rfl, List.mem_filter.mpr ⟨List.mem_of_getElem? (i := 115) rfl, rfl⟩⟩
theorem d_Sh_init_0 : decode b_Sh_init 0 = .ok (.aload_n 0, 1) := by decide +kernel
theorem d_Sh_init_1 : decode b_Sh_init 1 = .ok (.invokespecial 3, 3) := by decide +kernel
theorem d_Sh_init_4 : decode b_Sh_init 4 = .ok (.aload_n 0, 1) := by decide +kernel
theorem d_Sh_init_5 : decode b_Sh_init 5 = .ok (.new 9, 3) := by decide +kernel
theorem d_Sh_init_8 : decode b_Sh_init 8 = .ok (.dup, 1) := by decide +kernel
theorem d_Sh_init_9 : decode b_Sh_init 9 = .ok (.invokespecial 11, 3) := by decide +kernel
theorem d_Sh_init_12 : decode b_Sh_init 12 = .ok (.putfield 12, 3) := by decide +kernel
theorem d_Sh_init_15 : decode b_Sh_init 15 = .ok (.return_, 1) := by decide +kernel
abbrev b_St_init : ByteArray := prog_9_method_1_code
abbrev y_St_init : MethodName := ⟨"CharOutlines$Strings", "<init>", "()V"⟩
set_option maxRecDepth 100000 in
theorem cal_St_init : CalI gd_tbl y_St_init b_St_init 1 0 := ⟨⟨List.mem_filter.mpr ⟨List.mem_of_getElem? (i := 110) rfl, rfl⟩, List.mem_filter.mpr ⟨List.mem_of_getElem? (i := 63) rfl, rfl⟩, ⟨by decide, by decide⟩, by decide +kernel⟩, rfl, List.mem_filter.mpr ⟨List.mem_of_getElem? (i := 109) rfl, rfl⟩⟩
theorem d_St_init_0 : decode b_St_init 0 = .ok (.aload_n 0, 1) := by decide +kernel
theorem d_St_init_1 : decode b_St_init 1 = .ok (.invokespecial 3, 3) := by decide +kernel
theorem d_St_init_4 : decode b_St_init 4 = .ok (.aload_n 0, 1) := by decide +kernel
theorem d_St_init_5 : decode b_St_init 5 = .ok (.new 9, 3) := by decide +kernel
theorem d_St_init_8 : decode b_St_init 8 = .ok (.dup, 1) := by decide +kernel
theorem d_St_init_9 : decode b_St_init 9 = .ok (.invokespecial 11, 3) := by decide +kernel
theorem d_St_init_12 : decode b_St_init 12 = .ok (.putfield 12, 3) := by decide +kernel
theorem d_St_init_15 : decode b_St_init 15 = .ok (.aload_n 0, 1) := by decide +kernel
theorem d_St_init_16 : decode b_St_init 16 = .ok (.new 9, 3) := by decide +kernel
theorem d_St_init_19 : decode b_St_init 19 = .ok (.dup, 1) := by decide +kernel
theorem d_St_init_20 : decode b_St_init 20 = .ok (.invokespecial 11, 3) := by decide +kernel
theorem d_St_init_23 : decode b_St_init 23 = .ok (.putfield 18, 3) := by decide +kernel
theorem d_St_init_26 : decode b_St_init 26 = .ok (.aload_n 0, 1) := by decide +kernel
theorem d_St_init_27 : decode b_St_init 27 = .ok (.new 9, 3) := by decide +kernel
theorem d_St_init_30 : decode b_St_init 30 = .ok (.dup, 1) := by decide +kernel
theorem d_St_init_31 : decode b_St_init 31 = .ok (.invokespecial 11, 3) := by decide +kernel
theorem d_St_init_34 : decode b_St_init 34 = .ok (.putfield 21, 3) := by decide +kernel
theorem d_St_init_37 : decode b_St_init 37 = .ok (.aload_n 0, 1) := by decide +kernel
theorem d_St_init_38 : decode b_St_init 38 = .ok (.bipush 10, 2) := by decide +kernel
theorem d_St_init_40 : decode b_St_init 40 = .ok (.newarray .int, 2) := by decide +kernel
theorem d_St_init_42 : decode b_St_init 42 = .ok (.putfield 24, 3) := by decide +kernel
theorem d_St_init_45 : decode b_St_init 45 = .ok (.aload_n 0, 1) := by decide +kernel
theorem d_St_init_46 : decode b_St_init 46 = .ok (.bipush 10, 2) := by decide +kernel
theorem d_St_init_48 : decode b_St_init 48 = .ok (.newarray .int, 2) := by decide +kernel
theorem d_St_init_50 : decode b_St_init 50 = .ok (.putfield 28, 3) := by decide +kernel
theorem d_St_init_53 : decode b_St_init 53 = .ok (.aload_n 0, 1) := by decide +kernel
theorem d_St_init_54 : decode b_St_init 54 = .ok (.bipush 10, 2) := by decide +kernel
theorem d_St_init_56 : decode b_St_init 56 = .ok (.newarray .int, 2) := by decide +kernel
theorem d_St_init_58 : decode b_St_init 58 = .ok (.putfield 31, 3) := by decide +kernel
theorem d_St_init_61 : decode b_St_init 61 = .ok (.return_, 1) := by decide +kernel
abbrev b_Va_init : ByteArray := prog_10_method_1_code
abbrev y_Va_init : MethodName := ⟨"CharOutlines$Values", "<init>", "()V"⟩
set_option maxRecDepth 100000 in
theorem cal_Va_init : CalI gd_tbl y_Va_init b_Va_init 1 0 := ⟨⟨List.mem_filter.mpr ⟨List.mem_of_getElem? (i := 157) rfl, rfl⟩, List.mem_filter.mpr ⟨List.mem_of_getElem? (i := 65) rfl, rfl⟩, ⟨by decide, by decide⟩, by decide +kernel⟩, rfl, List.mem_filter.mpr ⟨List.mem_of_getElem? (i := 156) rfl, rfl⟩⟩
theorem d_Va_init_0 : decode b_Va_init 0 = .ok (.aload_n 0, 1) := by decide +kernel
theorem d_Va_init_1 : decode b_Va_init 1 = .ok (.invokespecial 3, 3) := by decide +kernel
theorem d_Va_init_4 : decode b_Va_init 4 = .ok (.aload_n 0, 1) := by decide +kernel
theorem d_Va_init_5 : decode b_Va_init 5 = .ok (.bipush 48, 2) := by decide +kernel
theorem d_Va_init_7 : decode b_Va_init 7 = .ok (.newarray .int, 2) := by decide +kernel
theorem d_Va_init_9 : decode b_Va_init 9 = .ok (.putfield 9, 3) := by decide +kernel
theorem d_Va_init_12 : decode b_Va_init 12 = .ok (.aload_n 0, 1) := by decide +kernel
theorem d_Va_init_13 : decode b_Va_init 13 = .ok (.bipush 48, 2) := by decide +kernel
theorem d_Va_init_15 : decode b_Va_init 15 = .ok (.newarray .int, 2) := by decide +kernel
theorem d_Va_init_17 : decode b_Va_init 17 = .ok (.putfield 15, 3) := by decide +kernel
theorem d_Va_init_20 : decode b_Va_init 20 = .ok (.return_, 1) := by decide +kernel
abbrev b_Ou_init : ByteArray := prog_6_method_1_code
abbrev y_Ou_init : MethodName := ⟨"CharOutlines$Outline", "<init>", "()V"⟩
set_option maxRecDepth 100000 in
theorem cal_Ou_init : CalI gd_tbl y_Ou_init b_Ou_init 1 0 := ⟨⟨List.mem_filter.mpr ⟨List.mem_of_getElem? (i := 183) rfl, rfl⟩, List.mem_filter.mpr ⟨List.mem_of_getElem? (i := 67) rfl, rfl⟩, ⟨by decide, by decide⟩, by decide +kernel⟩, rfl, List.mem_filter.mpr ⟨List.mem_of_getElem? (i := 182) rfl, rfl⟩⟩
theorem d_Ou_init_0 : decode b_Ou_init 0 = .ok (.aload_n 0, 1) := by decide +kernel
theorem d_Ou_init_1 : decode b_Ou_init 1 = .ok (.invokespecial 3, 3) := by decide +kernel
theorem d_Ou_init_4 : decode b_Ou_init 4 = .ok (.aload_n 0, 1) := by decide +kernel
theorem d_Ou_init_5 : decode b_Ou_init 5 = .ok (.sipush 336, 3) := by decide +kernel
theorem d_Ou_init_8 : decode b_Ou_init 8 = .ok (.newarray .int, 2) := by decide +kernel
theorem d_Ou_init_10 : decode b_Ou_init 10 = .ok (.putfield 11, 3) := by decide +kernel
theorem d_Ou_init_13 : decode b_Ou_init 13 = .ok (.return_, 1) := by decide +kernel
abbrev b_Re_init : ByteArray := prog_7_method_1_code
abbrev y_Re_init : MethodName := ⟨"CharOutlines$Reckoning", "<init>", "()V"⟩
set_option maxRecDepth 100000 in
theorem cal_Re_init : CalI gd_tbl y_Re_init b_Re_init 1 0 := ⟨⟨List.mem_filter.mpr ⟨List.mem_of_getElem? (i := 173) rfl, rfl⟩, List.mem_filter.mpr ⟨List.mem_of_getElem? (i := 66) rfl, rfl⟩, ⟨by decide, by decide⟩, by decide +kernel⟩, rfl, List.mem_filter.mpr ⟨List.mem_of_getElem? (i := 172) rfl, rfl⟩⟩
theorem d_Re_init_0 : decode b_Re_init 0 = .ok (.aload_n 0, 1) := by decide +kernel
theorem d_Re_init_1 : decode b_Re_init 1 = .ok (.invokespecial 3, 3) := by decide +kernel
theorem d_Re_init_4 : decode b_Re_init 4 = .ok (.aload_n 0, 1) := by decide +kernel
theorem d_Re_init_5 : decode b_Re_init 5 = .ok (.bipush 32, 2) := by decide +kernel
theorem d_Re_init_7 : decode b_Re_init 7 = .ok (.newarray .int, 2) := by decide +kernel
theorem d_Re_init_9 : decode b_Re_init 9 = .ok (.putfield 9, 3) := by decide +kernel
theorem d_Re_init_12 : decode b_Re_init 12 = .ok (.return_, 1) := by decide +kernel
abbrev b_Ma_init : ByteArray := prog_4_method_1_code
abbrev y_Ma_init : MethodName := ⟨"CharOutlines$Machine", "<init>", "()V"⟩
set_option maxRecDepth 100000 in
theorem cal_Ma_init : CalI gd_tbl y_Ma_init b_Ma_init 1 0 := ⟨⟨List.mem_filter.mpr ⟨List.mem_of_getElem? (i := 104) rfl, rfl⟩, List.mem_filter.mpr ⟨List.mem_of_getElem? (i := 62) rfl, rfl⟩, ⟨by decide, by decide⟩, by decide +kernel⟩, rfl, List.mem_filter.mpr ⟨List.mem_of_getElem? (i := 103) rfl, rfl⟩⟩
theorem d_Ma_init_0 : decode b_Ma_init 0 = .ok (.aload_n 0, 1) := by decide +kernel
theorem d_Ma_init_1 : decode b_Ma_init 1 = .ok (.invokespecial 3, 3) := by decide +kernel
theorem d_Ma_init_4 : decode b_Ma_init 4 = .ok (.aload_n 0, 1) := by decide +kernel
theorem d_Ma_init_5 : decode b_Ma_init 5 = .ok (.new 9, 3) := by decide +kernel
theorem d_Ma_init_8 : decode b_Ma_init 8 = .ok (.dup, 1) := by decide +kernel
theorem d_Ma_init_9 : decode b_Ma_init 9 = .ok (.invokespecial 11, 3) := by decide +kernel
theorem d_Ma_init_12 : decode b_Ma_init 12 = .ok (.putfield 12, 3) := by decide +kernel
theorem d_Ma_init_15 : decode b_Ma_init 15 = .ok (.aload_n 0, 1) := by decide +kernel
theorem d_Ma_init_16 : decode b_Ma_init 16 = .ok (.new 18, 3) := by decide +kernel
theorem d_Ma_init_19 : decode b_Ma_init 19 = .ok (.dup, 1) := by decide +kernel
theorem d_Ma_init_20 : decode b_Ma_init 20 = .ok (.invokespecial 20, 3) := by decide +kernel
theorem d_Ma_init_23 : decode b_Ma_init 23 = .ok (.putfield 21, 3) := by decide +kernel
theorem d_Ma_init_26 : decode b_Ma_init 26 = .ok (.aload_n 0, 1) := by decide +kernel
theorem d_Ma_init_27 : decode b_Ma_init 27 = .ok (.new 25, 3) := by decide +kernel
theorem d_Ma_init_30 : decode b_Ma_init 30 = .ok (.dup, 1) := by decide +kernel
theorem d_Ma_init_31 : decode b_Ma_init 31 = .ok (.invokespecial 27, 3) := by decide +kernel
theorem d_Ma_init_34 : decode b_Ma_init 34 = .ok (.putfield 28, 3) := by decide +kernel
theorem d_Ma_init_37 : decode b_Ma_init 37 = .ok (.aload_n 0, 1) := by decide +kernel
theorem d_Ma_init_38 : decode b_Ma_init 38 = .ok (.new 32, 3) := by decide +kernel
theorem d_Ma_init_41 : decode b_Ma_init 41 = .ok (.dup, 1) := by decide +kernel
theorem d_Ma_init_42 : decode b_Ma_init 42 = .ok (.invokespecial 34, 3) := by decide +kernel
theorem d_Ma_init_45 : decode b_Ma_init 45 = .ok (.putfield 35, 3) := by decide +kernel
theorem d_Ma_init_48 : decode b_Ma_init 48 = .ok (.return_, 1) := by decide +kernel
abbrev b_CO_init : ByteArray := prog_1_method_1_code
abbrev y_CO_init : MethodName := ⟨"CharOutlines", "<init>", "()V"⟩
set_option maxRecDepth 100000 in
theorem cal_CO_init : CalI gd_tbl y_CO_init b_CO_init 1 0 := ⟨⟨List.mem_filter.mpr ⟨List.mem_of_getElem? (i := 82) rfl, rfl⟩, List.mem_filter.mpr ⟨List.mem_of_getElem? (i := 60) rfl, rfl⟩, ⟨by decide, by decide⟩, by decide +kernel⟩, rfl, List.mem_filter.mpr ⟨List.mem_of_getElem? (i := 81) rfl, rfl⟩⟩
theorem d_CO_init_0 : decode b_CO_init 0 = .ok (.aload_n 0, 1) := by decide +kernel
theorem d_CO_init_1 : decode b_CO_init 1 = .ok (.invokespecial 1, 3) := by decide +kernel
theorem d_CO_init_4 : decode b_CO_init 4 = .ok (.aload_n 0, 1) := by decide +kernel
theorem d_CO_init_5 : decode b_CO_init 5 = .ok (.new 7, 3) := by decide +kernel
theorem d_CO_init_8 : decode b_CO_init 8 = .ok (.dup, 1) := by decide +kernel
theorem d_CO_init_9 : decode b_CO_init 9 = .ok (.invokespecial 9, 3) := by decide +kernel
theorem d_CO_init_12 : decode b_CO_init 12 = .ok (.putfield 10, 3) := by decide +kernel
theorem d_CO_init_15 : decode b_CO_init 15 = .ok (.aload_n 0, 1) := by decide +kernel
theorem d_CO_init_16 : decode b_CO_init 16 = .ok (.new 16, 3) := by decide +kernel
theorem d_CO_init_19 : decode b_CO_init 19 = .ok (.dup, 1) := by decide +kernel
theorem d_CO_init_20 : decode b_CO_init 20 = .ok (.invokespecial 18, 3) := by decide +kernel
theorem d_CO_init_23 : decode b_CO_init 23 = .ok (.putfield 19, 3) := by decide +kernel
theorem d_CO_init_26 : decode b_CO_init 26 = .ok (.return_, 1) := by decide +kernel
abbrev b_Mo_init : ByteArray := prog_12_method_1_code
abbrev y_Mo_init : MethodName := ⟨"CharOutlinesModel", "<init>", "()V"⟩
set_option maxRecDepth 100000 in
theorem cal_Mo_init : CalI gd_tbl y_Mo_init b_Mo_init 1 0 := ⟨⟨List.mem_filter.mpr ⟨List.mem_of_getElem? (i := 748) rfl, rfl⟩, List.mem_filter.mpr ⟨List.mem_of_getElem? (i := 68) rfl, rfl⟩, ⟨by decide, by decide⟩, by decide +kernel⟩, rfl, List.mem_filter.mpr ⟨List.mem_of_getElem? (i := 747) rfl, rfl⟩⟩
theorem d_Mo_init_0 : decode b_Mo_init 0 = .ok (.aload_n 0, 1) := by decide +kernel
theorem d_Mo_init_1 : decode b_Mo_init 1 = .ok (.invokespecial 1, 3) := by decide +kernel
theorem d_Mo_init_4 : decode b_Mo_init 4 = .ok (.aload_n 0, 1) := by decide +kernel
theorem d_Mo_init_5 : decode b_Mo_init 5 = .ok (.sipush 16384, 3) := by decide +kernel
theorem d_Mo_init_8 : decode b_Mo_init 8 = .ok (.newarray .int, 2) := by decide +kernel
theorem d_Mo_init_10 : decode b_Mo_init 10 = .ok (.putfield 7, 3) := by decide +kernel
theorem d_Mo_init_13 : decode b_Mo_init 13 = .ok (.aload_n 0, 1) := by decide +kernel
theorem d_Mo_init_14 : decode b_Mo_init 14 = .ok (.ldc 13, 2) := by decide +kernel
theorem d_Mo_init_16 : decode b_Mo_init 16 = .ok (.newarray .int, 2) := by decide +kernel
theorem d_Mo_init_18 : decode b_Mo_init 18 = .ok (.putfield 14, 3) := by decide +kernel
theorem d_Mo_init_21 : decode b_Mo_init 21 = .ok (.aload_n 0, 1) := by decide +kernel
theorem d_Mo_init_22 : decode b_Mo_init 22 = .ok (.iconst 3, 1) := by decide +kernel
theorem d_Mo_init_23 : decode b_Mo_init 23 = .ok (.newarray .int, 2) := by decide +kernel
theorem d_Mo_init_25 : decode b_Mo_init 25 = .ok (.putfield 17, 3) := by decide +kernel
theorem d_Mo_init_28 : decode b_Mo_init 28 = .ok (.aload_n 0, 1) := by decide +kernel
theorem d_Mo_init_29 : decode b_Mo_init 29 = .ok (.iconst 3, 1) := by decide +kernel
theorem d_Mo_init_30 : decode b_Mo_init 30 = .ok (.newarray .int, 2) := by decide +kernel
theorem d_Mo_init_32 : decode b_Mo_init 32 = .ok (.putfield 20, 3) := by decide +kernel
theorem d_Mo_init_35 : decode b_Mo_init 35 = .ok (.aload_n 0, 1) := by decide +kernel
theorem d_Mo_init_36 : decode b_Mo_init 36 = .ok (.sipush 28000, 3) := by decide +kernel
theorem d_Mo_init_39 : decode b_Mo_init 39 = .ok (.newarray .int, 2) := by decide +kernel
theorem d_Mo_init_41 : decode b_Mo_init 41 = .ok (.putfield 23, 3) := by decide +kernel
theorem d_Mo_init_44 : decode b_Mo_init 44 = .ok (.aload_n 0, 1) := by decide +kernel
theorem d_Mo_init_45 : decode b_Mo_init 45 = .ok (.sipush 28000, 3) := by decide +kernel
theorem d_Mo_init_48 : decode b_Mo_init 48 = .ok (.newarray .int, 2) := by decide +kernel
theorem d_Mo_init_50 : decode b_Mo_init 50 = .ok (.putfield 26, 3) := by decide +kernel
theorem d_Mo_init_53 : decode b_Mo_init 53 = .ok (.aload_n 0, 1) := by decide +kernel
theorem d_Mo_init_54 : decode b_Mo_init 54 = .ok (.bipush 48, 2) := by decide +kernel
theorem d_Mo_init_56 : decode b_Mo_init 56 = .ok (.newarray .int, 2) := by decide +kernel
theorem d_Mo_init_58 : decode b_Mo_init 58 = .ok (.putfield 29, 3) := by decide +kernel
theorem d_Mo_init_61 : decode b_Mo_init 61 = .ok (.aload_n 0, 1) := by decide +kernel
theorem d_Mo_init_62 : decode b_Mo_init 62 = .ok (.bipush 32, 2) := by decide +kernel
theorem d_Mo_init_64 : decode b_Mo_init 64 = .ok (.newarray .int, 2) := by decide +kernel
theorem d_Mo_init_66 : decode b_Mo_init 66 = .ok (.putfield 32, 3) := by decide +kernel
theorem d_Mo_init_69 : decode b_Mo_init 69 = .ok (.aload_n 0, 1) := by decide +kernel
theorem d_Mo_init_70 : decode b_Mo_init 70 = .ok (.bipush 11, 2) := by decide +kernel
theorem d_Mo_init_72 : decode b_Mo_init 72 = .ok (.newarray .int, 2) := by decide +kernel
theorem d_Mo_init_74 : decode b_Mo_init 74 = .ok (.putfield 35, 3) := by decide +kernel
theorem d_Mo_init_77 : decode b_Mo_init 77 = .ok (.aload_n 0, 1) := by decide +kernel
theorem d_Mo_init_78 : decode b_Mo_init 78 = .ok (.bipush 11, 2) := by decide +kernel
theorem d_Mo_init_80 : decode b_Mo_init 80 = .ok (.newarray .int, 2) := by decide +kernel
theorem d_Mo_init_82 : decode b_Mo_init 82 = .ok (.putfield 38, 3) := by decide +kernel
theorem d_Mo_init_85 : decode b_Mo_init 85 = .ok (.aload_n 0, 1) := by decide +kernel
theorem d_Mo_init_86 : decode b_Mo_init 86 = .ok (.bipush 11, 2) := by decide +kernel
theorem d_Mo_init_88 : decode b_Mo_init 88 = .ok (.newarray .int, 2) := by decide +kernel
theorem d_Mo_init_90 : decode b_Mo_init 90 = .ok (.putfield 41, 3) := by decide +kernel
theorem d_Mo_init_93 : decode b_Mo_init 93 = .ok (.return_, 1) := by decide +kernel
set_option maxRecDepth 100000 in
theorem cl_CO_16 : (Jvm.Cond.classLink "CharOutlines" (16 : Nat) "CharOutlines$Machine") ∈ gd_tbl := List.mem_filter.mpr ⟨List.mem_of_getElem? (i := 100) rfl, rfl⟩
set_option maxRecDepth 100000 in
theorem cl_CO_7 : (Jvm.Cond.classLink "CharOutlines" (7 : Nat) "CharOutlines$Bytes") ∈ gd_tbl := List.mem_filter.mpr ⟨List.mem_of_getElem? (i := 86) rfl, rfl⟩
set_option maxRecDepth 100000 in
theorem cl_Ma_18 : (Jvm.Cond.classLink "CharOutlines$Machine" (18 : Nat) "CharOutlines$Values") ∈ gd_tbl := List.mem_filter.mpr ⟨List.mem_of_getElem? (i := 153) rfl, rfl⟩
set_option maxRecDepth 100000 in
theorem cl_Ma_25 : (Jvm.Cond.classLink "CharOutlines$Machine" (25 : Nat) "CharOutlines$Reckoning") ∈ gd_tbl := List.mem_filter.mpr ⟨List.mem_of_getElem? (i := 169) rfl, rfl⟩
set_option maxRecDepth 100000 in
theorem cl_Ma_32 : (Jvm.Cond.classLink "CharOutlines$Machine" (32 : Nat) "CharOutlines$Outline") ∈ gd_tbl := List.mem_filter.mpr ⟨List.mem_of_getElem? (i := 179) rfl, rfl⟩
set_option maxRecDepth 100000 in
theorem cl_Ma_9 : (Jvm.Cond.classLink "CharOutlines$Machine" (9 : Nat) "CharOutlines$Strings") ∈ gd_tbl := List.mem_filter.mpr ⟨List.mem_of_getElem? (i := 106) rfl, rfl⟩
set_option maxRecDepth 100000 in
theorem cl_Sh_9 : (Jvm.Cond.classLink "CharOutlines$Shelf" (9 : Nat) "CharOutlines$Bytes") ∈ gd_tbl := List.mem_filter.mpr ⟨List.mem_of_getElem? (i := 118) rfl, rfl⟩
set_option maxRecDepth 100000 in
theorem cl_St_9 : (Jvm.Cond.classLink "CharOutlines$Strings" (9 : Nat) "CharOutlines$Shelf") ∈ gd_tbl := List.mem_filter.mpr ⟨List.mem_of_getElem? (i := 112) rfl, rfl⟩
set_option maxRecDepth 100000 in
theorem fl_CO_10 : (Jvm.Cond.fieldLink "CharOutlines" (10 : Nat) "CharOutlines" "row" "LCharOutlines$Bytes;") ∈ gd_tbl := List.mem_filter.mpr ⟨List.mem_of_getElem? (i := 232) rfl, rfl⟩
set_option maxRecDepth 100000 in
theorem fl_CO_19 : (Jvm.Cond.fieldLink "CharOutlines" (19 : Nat) "CharOutlines" "machine" "LCharOutlines$Machine;") ∈ gd_tbl := List.mem_filter.mpr ⟨List.mem_of_getElem? (i := 233) rfl, rfl⟩
set_option maxRecDepth 100000 in
theorem fl_Ma_12 : (Jvm.Cond.fieldLink "CharOutlines$Machine" (12 : Nat) "CharOutlines$Machine" "strings" "LCharOutlines$Strings;") ∈ gd_tbl := List.mem_filter.mpr ⟨List.mem_of_getElem? (i := 198) rfl, rfl⟩
set_option maxRecDepth 100000 in
theorem fl_Ma_21 : (Jvm.Cond.fieldLink "CharOutlines$Machine" (21 : Nat) "CharOutlines$Machine" "values" "LCharOutlines$Values;") ∈ gd_tbl := List.mem_filter.mpr ⟨List.mem_of_getElem? (i := 199) rfl, rfl⟩
set_option maxRecDepth 100000 in
theorem fl_Ma_28 : (Jvm.Cond.fieldLink "CharOutlines$Machine" (28 : Nat) "CharOutlines$Machine" "reckoning" "LCharOutlines$Reckoning;") ∈ gd_tbl := List.mem_filter.mpr ⟨List.mem_of_getElem? (i := 200) rfl, rfl⟩
set_option maxRecDepth 100000 in
theorem fl_Ma_35 : (Jvm.Cond.fieldLink "CharOutlines$Machine" (35 : Nat) "CharOutlines$Machine" "outline" "LCharOutlines$Outline;") ∈ gd_tbl := List.mem_filter.mpr ⟨List.mem_of_getElem? (i := 201) rfl, rfl⟩
set_option maxRecDepth 100000 in
theorem fl_Mo_14 : (Jvm.Cond.fieldLink "CharOutlinesModel" (14 : Nat) "CharOutlinesModel" "shelves" "[I") ∈ gd_tbl := List.mem_filter.mpr ⟨List.mem_of_getElem? (i := 754) rfl, rfl⟩
set_option maxRecDepth 100000 in
theorem fl_Mo_17 : (Jvm.Cond.fieldLink "CharOutlinesModel" (17 : Nat) "CharOutlinesModel" "many" "[I") ∈ gd_tbl := List.mem_filter.mpr ⟨List.mem_of_getElem? (i := 755) rfl, rfl⟩
set_option maxRecDepth 100000 in
theorem fl_Mo_20 : (Jvm.Cond.fieldLink "CharOutlinesModel" (20 : Nat) "CharOutlinesModel" "widths" "[I") ∈ gd_tbl := List.mem_filter.mpr ⟨List.mem_of_getElem? (i := 756) rfl, rfl⟩
set_option maxRecDepth 100000 in
theorem fl_Mo_23 : (Jvm.Cond.fieldLink "CharOutlinesModel" (23 : Nat) "CharOutlinesModel" "mark" "[I") ∈ gd_tbl := List.mem_filter.mpr ⟨List.mem_of_getElem? (i := 758) rfl, rfl⟩
set_option maxRecDepth 100000 in
theorem fl_Mo_26 : (Jvm.Cond.fieldLink "CharOutlinesModel" (26 : Nat) "CharOutlinesModel" "shownMark" "[I") ∈ gd_tbl := List.mem_filter.mpr ⟨List.mem_of_getElem? (i := 760) rfl, rfl⟩
set_option maxRecDepth 100000 in
theorem fl_Mo_29 : (Jvm.Cond.fieldLink "CharOutlinesModel" (29 : Nat) "CharOutlinesModel" "stack" "[I") ∈ gd_tbl := List.mem_filter.mpr ⟨List.mem_of_getElem? (i := 774) rfl, rfl⟩
set_option maxRecDepth 100000 in
theorem fl_Mo_32 : (Jvm.Cond.fieldLink "CharOutlinesModel" (32 : Nat) "CharOutlinesModel" "places" "[I") ∈ gd_tbl := List.mem_filter.mpr ⟨List.mem_of_getElem? (i := 775) rfl, rfl⟩
set_option maxRecDepth 100000 in
theorem fl_Mo_35 : (Jvm.Cond.fieldLink "CharOutlinesModel" (35 : Nat) "CharOutlinesModel" "kinds" "[I") ∈ gd_tbl := List.mem_filter.mpr ⟨List.mem_of_getElem? (i := 777) rfl, rfl⟩
set_option maxRecDepth 100000 in
theorem fl_Mo_38 : (Jvm.Cond.fieldLink "CharOutlinesModel" (38 : Nat) "CharOutlinesModel" "ats" "[I") ∈ gd_tbl := List.mem_filter.mpr ⟨List.mem_of_getElem? (i := 778) rfl, rfl⟩
set_option maxRecDepth 100000 in
theorem fl_Mo_41 : (Jvm.Cond.fieldLink "CharOutlinesModel" (41 : Nat) "CharOutlinesModel" "ends" "[I") ∈ gd_tbl := List.mem_filter.mpr ⟨List.mem_of_getElem? (i := 779) rfl, rfl⟩
set_option maxRecDepth 100000 in
theorem fl_Mo_7 : (Jvm.Cond.fieldLink "CharOutlinesModel" (7 : Nat) "CharOutlinesModel" "row" "[I") ∈ gd_tbl := List.mem_filter.mpr ⟨List.mem_of_getElem? (i := 753) rfl, rfl⟩
set_option maxRecDepth 100000 in
theorem fl_Ou_11 : (Jvm.Cond.fieldLink "CharOutlines$Outline" (11 : Nat) "CharOutlines$Outline" "room" "[I") ∈ gd_tbl := List.mem_filter.mpr ⟨List.mem_of_getElem? (i := 185) rfl, rfl⟩
set_option maxRecDepth 100000 in
theorem fl_Re_9 : (Jvm.Cond.fieldLink "CharOutlines$Reckoning" (9 : Nat) "CharOutlines$Reckoning" "places" "[I") ∈ gd_tbl := List.mem_filter.mpr ⟨List.mem_of_getElem? (i := 175) rfl, rfl⟩
set_option maxRecDepth 100000 in
theorem fl_Sh_12 : (Jvm.Cond.fieldLink "CharOutlines$Shelf" (12 : Nat) "CharOutlines$Shelf" "bytes" "LCharOutlines$Bytes;") ∈ gd_tbl := List.mem_filter.mpr ⟨List.mem_of_getElem? (i := 120) rfl, rfl⟩
set_option maxRecDepth 100000 in
theorem fl_St_12 : (Jvm.Cond.fieldLink "CharOutlines$Strings" (12 : Nat) "CharOutlines$Strings" "programs" "LCharOutlines$Shelf;") ∈ gd_tbl := List.mem_filter.mpr ⟨List.mem_of_getElem? (i := 127) rfl, rfl⟩
set_option maxRecDepth 100000 in
theorem fl_St_18 : (Jvm.Cond.fieldLink "CharOutlines$Strings" (18 : Nat) "CharOutlines$Strings" "globals" "LCharOutlines$Shelf;") ∈ gd_tbl := List.mem_filter.mpr ⟨List.mem_of_getElem? (i := 128) rfl, rfl⟩
set_option maxRecDepth 100000 in
theorem fl_St_21 : (Jvm.Cond.fieldLink "CharOutlines$Strings" (21 : Nat) "CharOutlines$Strings" "locals" "LCharOutlines$Shelf;") ∈ gd_tbl := List.mem_filter.mpr ⟨List.mem_of_getElem? (i := 129) rfl, rfl⟩
set_option maxRecDepth 100000 in
theorem fl_St_24 : (Jvm.Cond.fieldLink "CharOutlines$Strings" (24 : Nat) "CharOutlines$Strings" "kinds" "[I") ∈ gd_tbl := List.mem_filter.mpr ⟨List.mem_of_getElem? (i := 130) rfl, rfl⟩
set_option maxRecDepth 100000 in
theorem fl_St_28 : (Jvm.Cond.fieldLink "CharOutlines$Strings" (28 : Nat) "CharOutlines$Strings" "places" "[I") ∈ gd_tbl := List.mem_filter.mpr ⟨List.mem_of_getElem? (i := 131) rfl, rfl⟩
set_option maxRecDepth 100000 in
theorem fl_St_31 : (Jvm.Cond.fieldLink "CharOutlines$Strings" (31 : Nat) "CharOutlines$Strings" "ends" "[I") ∈ gd_tbl := List.mem_filter.mpr ⟨List.mem_of_getElem? (i := 132) rfl, rfl⟩
set_option maxRecDepth 100000 in
theorem fl_Va_15 : (Jvm.Cond.fieldLink "CharOutlines$Values" (15 : Nat) "CharOutlines$Values" "turned" "[I") ∈ gd_tbl := List.mem_filter.mpr ⟨List.mem_of_getElem? (i := 160) rfl, rfl⟩
set_option maxRecDepth 100000 in
theorem fl_Va_9 : (Jvm.Cond.fieldLink "CharOutlines$Values" (9 : Nat) "CharOutlines$Values" "values" "[I") ∈ gd_tbl := List.mem_filter.mpr ⟨List.mem_of_getElem? (i := 159) rfl, rfl⟩
set_option maxRecDepth 100000 in
theorem kc_Mo_13 : (Jvm.Cond.constant "CharOutlinesModel" (13 : Nat) (49152 : Int32)) ∈ gd_tbl := List.mem_filter.mpr ⟨List.mem_of_getElem? (i := 750) rfl, rfl⟩
set_option maxRecDepth 100000 in
theorem ml_By_3 : (Jvm.Cond.methodLink "CharOutlines$Bytes" (3 : Nat) ({ cls := "java/lang/Object", name := "<init>", desc := "()V" } : Jvm.MethodName)) ∈ gd_tbl := List.mem_filter.mpr ⟨List.mem_of_getElem? (i := 91) rfl, rfl⟩
set_option maxRecDepth 100000 in
theorem ml_CO_1 : (Jvm.Cond.methodLink "CharOutlines" (1 : Nat) ({ cls := "java/lang/Object", name := "<init>", desc := "()V" } : Jvm.MethodName)) ∈ gd_tbl := List.mem_filter.mpr ⟨List.mem_of_getElem? (i := 83) rfl, rfl⟩
set_option maxRecDepth 100000 in
theorem ml_Ma_3 : (Jvm.Cond.methodLink "CharOutlines$Machine" (3 : Nat) ({ cls := "java/lang/Object", name := "<init>", desc := "()V" } : Jvm.MethodName)) ∈ gd_tbl := List.mem_filter.mpr ⟨List.mem_of_getElem? (i := 105) rfl, rfl⟩
set_option maxRecDepth 100000 in
theorem ml_Mo_1 : (Jvm.Cond.methodLink "CharOutlinesModel" (1 : Nat) ({ cls := "java/lang/Object", name := "<init>", desc := "()V" } : Jvm.MethodName)) ∈ gd_tbl := List.mem_filter.mpr ⟨List.mem_of_getElem? (i := 749) rfl, rfl⟩
set_option maxRecDepth 100000 in
theorem ml_Ou_3 : (Jvm.Cond.methodLink "CharOutlines$Outline" (3 : Nat) ({ cls := "java/lang/Object", name := "<init>", desc := "()V" } : Jvm.MethodName)) ∈ gd_tbl := List.mem_filter.mpr ⟨List.mem_of_getElem? (i := 184) rfl, rfl⟩
set_option maxRecDepth 100000 in
theorem ml_Re_3 : (Jvm.Cond.methodLink "CharOutlines$Reckoning" (3 : Nat) ({ cls := "java/lang/Object", name := "<init>", desc := "()V" } : Jvm.MethodName)) ∈ gd_tbl := List.mem_filter.mpr ⟨List.mem_of_getElem? (i := 174) rfl, rfl⟩
set_option maxRecDepth 100000 in
theorem ml_Sh_3 : (Jvm.Cond.methodLink "CharOutlines$Shelf" (3 : Nat) ({ cls := "java/lang/Object", name := "<init>", desc := "()V" } : Jvm.MethodName)) ∈ gd_tbl := List.mem_filter.mpr ⟨List.mem_of_getElem? (i := 117) rfl, rfl⟩
set_option maxRecDepth 100000 in
theorem ml_St_3 : (Jvm.Cond.methodLink "CharOutlines$Strings" (3 : Nat) ({ cls := "java/lang/Object", name := "<init>", desc := "()V" } : Jvm.MethodName)) ∈ gd_tbl := List.mem_filter.mpr ⟨List.mem_of_getElem? (i := 111) rfl, rfl⟩
set_option maxRecDepth 100000 in
theorem ml_Va_3 : (Jvm.Cond.methodLink "CharOutlines$Values" (3 : Nat) ({ cls := "java/lang/Object", name := "<init>", desc := "()V" } : Jvm.MethodName)) ∈ gd_tbl := List.mem_filter.mpr ⟨List.mem_of_getElem? (i := 158) rfl, rfl⟩
set_option maxRecDepth 100000 in
theorem mn_CO_18 : (Jvm.Cond.methodLinkNest "CharOutlines" (18 : Nat) ({ cls := "CharOutlines$Machine", name := "<init>", desc := "()V" } : Jvm.MethodName) "CharOutlines") ∈ nx_tbl := List.mem_of_getElem? (i := 1) rfl
set_option maxRecDepth 100000 in
theorem mn_CO_9 : (Jvm.Cond.methodLinkNest "CharOutlines" (9 : Nat) ({ cls := "CharOutlines$Bytes", name := "<init>", desc := "()V" } : Jvm.MethodName) "CharOutlines") ∈ nx_tbl := List.mem_of_getElem? (i := 0) rfl
set_option maxRecDepth 100000 in
theorem mn_Ma_11 : (Jvm.Cond.methodLinkNest "CharOutlines$Machine" (11 : Nat) ({ cls := "CharOutlines$Strings", name := "<init>", desc := "()V" } : Jvm.MethodName) "CharOutlines") ∈ nx_tbl := List.mem_of_getElem? (i := 2) rfl
set_option maxRecDepth 100000 in
theorem mn_Ma_20 : (Jvm.Cond.methodLinkNest "CharOutlines$Machine" (20 : Nat) ({ cls := "CharOutlines$Values", name := "<init>", desc := "()V" } : Jvm.MethodName) "CharOutlines") ∈ nx_tbl := List.mem_of_getElem? (i := 5) rfl
set_option maxRecDepth 100000 in
theorem mn_Ma_27 : (Jvm.Cond.methodLinkNest "CharOutlines$Machine" (27 : Nat) ({ cls := "CharOutlines$Reckoning", name := "<init>", desc := "()V" } : Jvm.MethodName) "CharOutlines") ∈ nx_tbl := List.mem_of_getElem? (i := 6) rfl
set_option maxRecDepth 100000 in
theorem mn_Ma_34 : (Jvm.Cond.methodLinkNest "CharOutlines$Machine" (34 : Nat) ({ cls := "CharOutlines$Outline", name := "<init>", desc := "()V" } : Jvm.MethodName) "CharOutlines") ∈ nx_tbl := List.mem_of_getElem? (i := 7) rfl
set_option maxRecDepth 100000 in
theorem mn_Sh_11 : (Jvm.Cond.methodLinkNest "CharOutlines$Shelf" (11 : Nat) ({ cls := "CharOutlines$Bytes", name := "<init>", desc := "()V" } : Jvm.MethodName) "CharOutlines") ∈ nx_tbl := List.mem_of_getElem? (i := 4) rfl
set_option maxRecDepth 100000 in
theorem mn_St_11 : (Jvm.Cond.methodLinkNest "CharOutlines$Strings" (11 : Nat) ({ cls := "CharOutlines$Shelf", name := "<init>", desc := "()V" } : Jvm.MethodName) "CharOutlines") ∈ nx_tbl := List.mem_of_getElem? (i := 3) rfl
set_option maxHeartbeats 1000000 in
set_option maxRecDepth 100000 in
theorem c_By_init (l : Launch) (D : va_G) (cB cI cJ : ClassId) (h : Nat) : Tr l D classes (TY cB cI cJ) gd_tbl nx_tbl y_By_init b_By_init 1 none ({ frames := 1, cells := 1, slots := 64, locals := 12 }) [.ref h] [(h, .inr (0, [.null, .int 0]))] (pV (fun w k n => ∃ a : Nat, w = [(h, .inr (0, [.ref a, .int 0])), (a, .inl (cB, 64, .inl (fun _ => 0)))] ∧ k = 1 ∧ n = 64)) := by
  refine Tr.intro (by decide +kernel) nx_ok (Nat.le_of_ble_eq_true rfl) ?_
  intro p_ e_ s_ m_ args_ below_ meth_ c_ A_ ls hx hb hml hown hts hr hlk hnm hZ hP hD hS hl
  have hl : lv_has ls 1 [(0, .ref h)] := hl
  refine lv_aload_n hx hb d_By_init_0 rfl (lv_at hl 0 rfl) ?_
  refine W.objInit hx hb hown (hts _ ml_By_3) (hts _ im_objectInit) (hts _ co_objectInit) rfl (by rw [hml]; exact hl.1) rfl d_By_init_1 (Nat.le_of_ble_eq_true rfl) (Nat.le_of_ble_eq_true rfl) ?_
  refine W.eq (g2 := F0 m_ 4 ls []) rfl ?_
  refine lv_aload_n hx hb d_By_init_4 rfl (lv_at hl 0 rfl) ?_
  refine lv_bipush (v := 64) hx hb d_By_init_5 (by decide) ?_
  refine t_newa (atype := .byte) (a0 := (64, .inl (fun _ => 0))) (N' := 64) hx hb (hts _ ar_B) rfl hZ.1 hP hD hS hZ.2.2.2 0 rfl (fun _ => rfl) (by decide) (by decide) (by decide) (Nat.le_of_ble_eq_true rfl) (Nat.le_of_ble_eq_true rfl) d_By_init_7 (fun q7 H hP hD hS => ?_)
  have hP : va_P D classes [(h, .inr (0, [.null, .int 0])), (q7, .inl (cB, 64, .inl (fun _ => 0)))] H := hP
  have hD : va_D A_ [(h, .inr (0, [.null, .int 0])), (q7, .inl (cB, 64, .inl (fun _ => 0)))] := hD
  refine va_put (D := D) (ci := 0) (v := .ref q7) (ty := .array .byte) (C := R_By) (T := F_By) (N := 2) hx hb hts i_By t_By t_By_ok n_By hown hZ.1 hP hD hS 0 rfl rfl 0 (by decide) (hts _ fl_By_11) (fun _ h9 => h9) rfl (by decide +kernel) rfl rfl (Nat.le_of_ble_eq_true rfl) d_By_init_9 (fun H locs hP hD hS => ?_)
  have hP : va_P D classes [(h, .inr (0, [.ref q7, .int 0])), (q7, .inl (cB, 64, .inl (fun _ => 0)))] H := hP
  have hD : va_D A_ [(h, .inr (0, [.ref q7, .int 0])), (q7, .inl (cB, 64, .inl (fun _ => 0)))] := hD
  exact t_vret hx hb hr hlk d_By_init_12 (hP.subm (ws' := [(h, .inr (0, [.ref q7, .int 0])), (q7, .inl (cB, 64, .inl (fun _ => 0)))]) [0, 1] rfl) (hD.sub (ws' := [(h, .inr (0, [.ref q7, .int 0])), (q7, .inl (cB, 64, .inl (fun _ => 0)))]) [0, 1] rfl rfl) hS ⟨rfl, q7, rfl, rfl, rfl⟩
set_option maxHeartbeats 1000000 in
set_option maxRecDepth 100000 in
theorem c_Sh_init (l : Launch) (D : va_G) (cB cI cJ : ClassId) (h : Nat) : Tr l D classes (TY cB cI cJ) gd_tbl nx_tbl y_Sh_init b_Sh_init 1 none ({ frames := 2, cells := 2, slots := 66, locals := 32 }) [.ref h] [(h, .inr (1, [.null, .int 0]))] (pV (fun w k n => ∃ hb a : Nat, w = [(h, .inr (1, [.ref hb, .int 0])), (hb, .inr (0, [.ref a, .int 0])), (a, .inl (cB, 64, .inl (fun _ => 0)))] ∧ k = 2 ∧ n = 66)) := by
  refine Tr.intro (by decide +kernel) nx_ok (Nat.le_of_ble_eq_true rfl) ?_
  intro p_ e_ s_ m_ args_ below_ meth_ c_ A_ ls hx hb hml hown hts hr hlk hnm hZ hP hD hS hl
  have hl : lv_has ls 1 [(0, .ref h)] := hl
  refine lv_aload_n hx hb d_Sh_init_0 rfl (lv_at hl 0 rfl) ?_
  refine W.objInit hx hb hown (hts _ ml_Sh_3) (hts _ im_objectInit) (hts _ co_objectInit) rfl (by rw [hml]; exact hl.1) rfl d_Sh_init_1 (Nat.le_of_ble_eq_true rfl) (Nat.le_of_ble_eq_true rfl) ?_
  refine W.eq (g2 := F0 m_ 4 ls []) rfl ?_
  refine lv_aload_n hx hb d_Sh_init_4 rfl (lv_at hl 0 rfl) ?_
  refine va_new (ci := 0) (fs := [.null, .int 0]) (C := R_By) (T := F_By) (N := 2) hx hb hts i_By t_By t_By_ok hown (hts _ cl_Sh_9) (hts _ in_By) (hts _ ini_By) hZ.1 hP hD hS hZ.2.2.2 rfl (fun j hj => by rcases (show j = 0 ∨ j = 1 by omega) with rfl | rfl <;> rfl) (Nat.le_of_ble_eq_true rfl) (Nat.le_of_ble_eq_true rfl) d_Sh_init_5 (fun q5 H hP hD hS => ?_)
  have hP : va_P D classes [(h, .inr (1, [.null, .int 0])), (q5, .inr (0, [.null, .int 0]))] H := hP
  have hD : va_D A_ [(h, .inr (1, [.null, .int 0])), (q5, .inr (0, [.null, .int 0]))] := hD
  refine W.widen (k := 1) (n := 2) (by omega) (by omega) ?_
  refine lv_dup hx hb d_Sh_init_8 rfl ?_
  have hC : Cut [(h, .inr (1, [.null, .int 0])), (q5, .inr (0, [.null, .int 0]))] [(q5, .inr (0, [.null, .int 0]))] [(h, .inr (1, [.null, .int 0]))] [1] [0] := ⟨rfl, rfl, rfl, rfl, by decide⟩
  refine goV (trIN (As := []) (rest := [.ref q5, .ref h]) ⟨hx, hb, hml, hown, hts⟩ gd_good (c_By_init l D cB cI cJ q5) cal_By_init mn_Sh_11 ⟨Nat.le_of_ble_eq_true rfl, Nat.le_of_ble_eq_true rfl⟩ hZ hP hD hC rfl hl.1 rfl (Nat.le_of_ble_eq_true rfl) d_Sh_init_9 ⟨Nat.le_of_ble_eq_true rfl, Nat.le_of_ble_eq_true rfl⟩) hZ hP hD hS hC (fun w1 k_9 n_9 H locs hq hP hD hS => ?_)
  obtain ⟨a_9, rfl, rfl, rfl⟩ := hq
  have hP : va_P D classes [(h, .inr (1, [.null, .int 0])), (q5, .inr (0, [.ref a_9, .int 0])), (a_9, .inl (cB, 64, .inl (fun _ => 0)))] H := hP
  have hD : va_D A_ [(h, .inr (1, [.null, .int 0])), (q5, .inr (0, [.ref a_9, .int 0])), (a_9, .inl (cB, 64, .inl (fun _ => 0)))] := hD
  refine va_putF (D := D) (ci := 1) (v := .ref q5) (ty := .object "CharOutlines$Bytes") (C := R_Sh) (T := F_Sh) (N := 2) hx hb hts i_Sh t_Sh t_Sh_ok n_Sh hown hZ.1 hP hD hS 0 rfl rfl 0 (by decide) (hts _ fl_Sh_12) (fun _ h9 => h9) rfl hnm rfl (by decide +kernel) rfl rfl (Nat.le_of_ble_eq_true rfl) d_Sh_init_12 (fun H locs hP hD hS => ?_)
  have hP : va_P D classes [(h, .inr (1, [.ref q5, .int 0])), (q5, .inr (0, [.ref a_9, .int 0])), (a_9, .inl (cB, 64, .inl (fun _ => 0)))] H := hP
  have hD : va_D A_ [(h, .inr (1, [.ref q5, .int 0])), (q5, .inr (0, [.ref a_9, .int 0])), (a_9, .inl (cB, 64, .inl (fun _ => 0)))] := hD
  exact t_vret hx hb hr hlk d_Sh_init_15 (hP.subm (ws' := [(h, .inr (1, [.ref q5, .int 0])), (q5, .inr (0, [.ref a_9, .int 0])), (a_9, .inl (cB, 64, .inl (fun _ => 0)))]) [0, 1, 2] rfl) (hD.sub (ws' := [(h, .inr (1, [.ref q5, .int 0])), (q5, .inr (0, [.ref a_9, .int 0])), (a_9, .inl (cB, 64, .inl (fun _ => 0)))]) [0, 1, 2] rfl rfl) hS ⟨rfl, q5, a_9, rfl, rfl, rfl⟩
set_option maxHeartbeats 1000000 in
set_option maxRecDepth 100000 in
theorem c_St_init (l : Launch) (D : va_G) (cB cI cJ : ClassId) (h : Nat) : Tr l D classes (TY cB cI cJ) gd_tbl nx_tbl y_St_init b_St_init 1 none ({ frames := 3, cells := 12, slots := 234, locals := 52 }) [.ref h] [(h, .inr (2, [.null, .null, .null, .null, .null, .null, .int 0, .int 0]))] (pV (fun w k n => ∃ p pb pa g gb ga q qb qa ki pl en : Nat, w = [(h, .inr (2, [.ref p, .ref g, .ref q, .ref ki, .ref pl, .ref en, .int 0, .int 0])), (p, .inr (1, [.ref pb, .int 0])), (pb, .inr (0, [.ref pa, .int 0])), (pa, .inl (cB, 64, .inl (fun _ => 0))), (g, .inr (1, [.ref gb, .int 0])), (gb, .inr (0, [.ref ga, .int 0])), (ga, .inl (cB, 64, .inl (fun _ => 0))), (q, .inr (1, [.ref qb, .int 0])), (qb, .inr (0, [.ref qa, .int 0])), (qa, .inl (cB, 64, .inl (fun _ => 0))), (ki, .inl (cI, 10, .inl (fun _ => 0))), (pl, .inl (cI, 10, .inl (fun _ => 0))), (en, .inl (cI, 10, .inl (fun _ => 0)))] ∧ k = 12 ∧ n = 234)) := by
  refine Tr.intro (by decide +kernel) nx_ok (Nat.le_of_ble_eq_true rfl) ?_
  intro p_ e_ s_ m_ args_ below_ meth_ c_ A_ ls hx hb hml hown hts hr hlk hnm hZ hP hD hS hl
  have hl : lv_has ls 1 [(0, .ref h)] := hl
  refine lv_aload_n hx hb d_St_init_0 rfl (lv_at hl 0 rfl) ?_
  refine W.objInit hx hb hown (hts _ ml_St_3) (hts _ im_objectInit) (hts _ co_objectInit) rfl (by rw [hml]; exact hl.1) rfl d_St_init_1 (Nat.le_of_ble_eq_true rfl) (Nat.le_of_ble_eq_true rfl) ?_
  refine W.eq (g2 := F0 m_ 4 ls []) rfl ?_
  refine lv_aload_n hx hb d_St_init_4 rfl (lv_at hl 0 rfl) ?_
  refine va_new (ci := 1) (fs := [.null, .int 0]) (C := R_Sh) (T := F_Sh) (N := 2) hx hb hts i_Sh t_Sh t_Sh_ok hown (hts _ cl_St_9) (hts _ in_Sh) (hts _ ini_Sh) hZ.1 hP hD hS hZ.2.2.2 rfl (fun j hj => by rcases (show j = 0 ∨ j = 1 by omega) with rfl | rfl <;> rfl) (Nat.le_of_ble_eq_true rfl) (Nat.le_of_ble_eq_true rfl) d_St_init_5 (fun q5 H hP hD hS => ?_)
  have hP : va_P D classes [(h, .inr (2, [.null, .null, .null, .null, .null, .null, .int 0, .int 0])), (q5, .inr (1, [.null, .int 0]))] H := hP
  have hD : va_D A_ [(h, .inr (2, [.null, .null, .null, .null, .null, .null, .int 0, .int 0])), (q5, .inr (1, [.null, .int 0]))] := hD
  refine W.widen (k := 1) (n := 2) (by omega) (by omega) ?_
  refine lv_dup hx hb d_St_init_8 rfl ?_
  have hC : Cut [(h, .inr (2, [.null, .null, .null, .null, .null, .null, .int 0, .int 0])), (q5, .inr (1, [.null, .int 0]))] [(q5, .inr (1, [.null, .int 0]))] [(h, .inr (2, [.null, .null, .null, .null, .null, .null, .int 0, .int 0]))] [1] [0] := ⟨rfl, rfl, rfl, rfl, by decide⟩
  refine goV (trIN (As := []) (rest := [.ref q5, .ref h]) ⟨hx, hb, hml, hown, hts⟩ gd_good (c_Sh_init l D cB cI cJ q5) cal_Sh_init mn_St_11 ⟨Nat.le_of_ble_eq_true rfl, Nat.le_of_ble_eq_true rfl⟩ hZ hP hD hC rfl hl.1 rfl (Nat.le_of_ble_eq_true rfl) d_St_init_9 ⟨Nat.le_of_ble_eq_true rfl, Nat.le_of_ble_eq_true rfl⟩) hZ hP hD hS hC (fun w1 k_9 n_9 H locs hq hP hD hS => ?_)
  obtain ⟨hb_9, a_9, rfl, rfl, rfl⟩ := hq
  have hP : va_P D classes [(h, .inr (2, [.null, .null, .null, .null, .null, .null, .int 0, .int 0])), (q5, .inr (1, [.ref hb_9, .int 0])), (hb_9, .inr (0, [.ref a_9, .int 0])), (a_9, .inl (cB, 64, .inl (fun _ => 0)))] H := hP
  have hD : va_D A_ [(h, .inr (2, [.null, .null, .null, .null, .null, .null, .int 0, .int 0])), (q5, .inr (1, [.ref hb_9, .int 0])), (hb_9, .inr (0, [.ref a_9, .int 0])), (a_9, .inl (cB, 64, .inl (fun _ => 0)))] := hD
  refine va_putF (D := D) (ci := 2) (v := .ref q5) (ty := .object "CharOutlines$Shelf") (C := R_St) (T := F_St) (N := 8) hx hb hts i_St t_St t_St_ok n_St hown hZ.1 hP hD hS 0 rfl rfl 0 (by decide) (hts _ fl_St_12) (fun _ h9 => h9) rfl hnm rfl (by decide +kernel) rfl rfl (Nat.le_of_ble_eq_true rfl) d_St_init_12 (fun H locs hP hD hS => ?_)
  have hP : va_P D classes [(h, .inr (2, [.ref q5, .null, .null, .null, .null, .null, .int 0, .int 0])), (q5, .inr (1, [.ref hb_9, .int 0])), (hb_9, .inr (0, [.ref a_9, .int 0])), (a_9, .inl (cB, 64, .inl (fun _ => 0)))] H := hP
  have hD : va_D A_ [(h, .inr (2, [.ref q5, .null, .null, .null, .null, .null, .int 0, .int 0])), (q5, .inr (1, [.ref hb_9, .int 0])), (hb_9, .inr (0, [.ref a_9, .int 0])), (a_9, .inl (cB, 64, .inl (fun _ => 0)))] := hD
  refine lv_aload_n hx hb d_St_init_15 rfl (lv_at hl 0 rfl) ?_
  refine va_new (ci := 1) (fs := [.null, .int 0]) (C := R_Sh) (T := F_Sh) (N := 2) hx hb hts i_Sh t_Sh t_Sh_ok hown (hts _ cl_St_9) (hts _ in_Sh) (hts _ ini_Sh) hZ.1 hP hD hS hZ.2.2.2 rfl (fun j hj => by rcases (show j = 0 ∨ j = 1 by omega) with rfl | rfl <;> rfl) (Nat.le_of_ble_eq_true rfl) (Nat.le_of_ble_eq_true rfl) d_St_init_16 (fun q16 H hP hD hS => ?_)
  have hP : va_P D classes [(h, .inr (2, [.ref q5, .null, .null, .null, .null, .null, .int 0, .int 0])), (q5, .inr (1, [.ref hb_9, .int 0])), (hb_9, .inr (0, [.ref a_9, .int 0])), (a_9, .inl (cB, 64, .inl (fun _ => 0))), (q16, .inr (1, [.null, .int 0]))] H := hP
  have hD : va_D A_ [(h, .inr (2, [.ref q5, .null, .null, .null, .null, .null, .int 0, .int 0])), (q5, .inr (1, [.ref hb_9, .int 0])), (hb_9, .inr (0, [.ref a_9, .int 0])), (a_9, .inl (cB, 64, .inl (fun _ => 0))), (q16, .inr (1, [.null, .int 0]))] := hD
  refine W.widen (k := 4) (n := 70) (by omega) (by omega) ?_
  refine lv_dup hx hb d_St_init_19 rfl ?_
  have hC : Cut [(h, .inr (2, [.ref q5, .null, .null, .null, .null, .null, .int 0, .int 0])), (q5, .inr (1, [.ref hb_9, .int 0])), (hb_9, .inr (0, [.ref a_9, .int 0])), (a_9, .inl (cB, 64, .inl (fun _ => 0))), (q16, .inr (1, [.null, .int 0]))] [(q16, .inr (1, [.null, .int 0]))] [(h, .inr (2, [.ref q5, .null, .null, .null, .null, .null, .int 0, .int 0])), (q5, .inr (1, [.ref hb_9, .int 0])), (hb_9, .inr (0, [.ref a_9, .int 0])), (a_9, .inl (cB, 64, .inl (fun _ => 0)))] [4] [0, 1, 2, 3] := ⟨rfl, rfl, rfl, rfl, by decide⟩
  refine goV (trIN (As := []) (rest := [.ref q16, .ref h]) ⟨hx, hb, hml, hown, hts⟩ gd_good (c_Sh_init l D cB cI cJ q16) cal_Sh_init mn_St_11 ⟨Nat.le_of_ble_eq_true rfl, Nat.le_of_ble_eq_true rfl⟩ hZ hP hD hC rfl hl.1 rfl (Nat.le_of_ble_eq_true rfl) d_St_init_20 ⟨Nat.le_of_ble_eq_true rfl, Nat.le_of_ble_eq_true rfl⟩) hZ hP hD hS hC (fun w1 k_20 n_20 H locs hq hP hD hS => ?_)
  obtain ⟨hb_20, a_20, rfl, rfl, rfl⟩ := hq
  have hP : va_P D classes [(h, .inr (2, [.ref q5, .null, .null, .null, .null, .null, .int 0, .int 0])), (q5, .inr (1, [.ref hb_9, .int 0])), (hb_9, .inr (0, [.ref a_9, .int 0])), (a_9, .inl (cB, 64, .inl (fun _ => 0))), (q16, .inr (1, [.ref hb_20, .int 0])), (hb_20, .inr (0, [.ref a_20, .int 0])), (a_20, .inl (cB, 64, .inl (fun _ => 0)))] H := hP
  have hD : va_D A_ [(h, .inr (2, [.ref q5, .null, .null, .null, .null, .null, .int 0, .int 0])), (q5, .inr (1, [.ref hb_9, .int 0])), (hb_9, .inr (0, [.ref a_9, .int 0])), (a_9, .inl (cB, 64, .inl (fun _ => 0))), (q16, .inr (1, [.ref hb_20, .int 0])), (hb_20, .inr (0, [.ref a_20, .int 0])), (a_20, .inl (cB, 64, .inl (fun _ => 0)))] := hD
  refine va_putF (D := D) (ci := 2) (v := .ref q16) (ty := .object "CharOutlines$Shelf") (C := R_St) (T := F_St) (N := 8) hx hb hts i_St t_St t_St_ok n_St hown hZ.1 hP hD hS 0 rfl rfl 1 (by decide) (hts _ fl_St_18) (fun _ h9 => h9) rfl hnm rfl (by decide +kernel) rfl rfl (Nat.le_of_ble_eq_true rfl) d_St_init_23 (fun H locs hP hD hS => ?_)
  have hP : va_P D classes [(h, .inr (2, [.ref q5, .ref q16, .null, .null, .null, .null, .int 0, .int 0])), (q5, .inr (1, [.ref hb_9, .int 0])), (hb_9, .inr (0, [.ref a_9, .int 0])), (a_9, .inl (cB, 64, .inl (fun _ => 0))), (q16, .inr (1, [.ref hb_20, .int 0])), (hb_20, .inr (0, [.ref a_20, .int 0])), (a_20, .inl (cB, 64, .inl (fun _ => 0)))] H := hP
  have hD : va_D A_ [(h, .inr (2, [.ref q5, .ref q16, .null, .null, .null, .null, .int 0, .int 0])), (q5, .inr (1, [.ref hb_9, .int 0])), (hb_9, .inr (0, [.ref a_9, .int 0])), (a_9, .inl (cB, 64, .inl (fun _ => 0))), (q16, .inr (1, [.ref hb_20, .int 0])), (hb_20, .inr (0, [.ref a_20, .int 0])), (a_20, .inl (cB, 64, .inl (fun _ => 0)))] := hD
  refine lv_aload_n hx hb d_St_init_26 rfl (lv_at hl 0 rfl) ?_
  refine va_new (ci := 1) (fs := [.null, .int 0]) (C := R_Sh) (T := F_Sh) (N := 2) hx hb hts i_Sh t_Sh t_Sh_ok hown (hts _ cl_St_9) (hts _ in_Sh) (hts _ ini_Sh) hZ.1 hP hD hS hZ.2.2.2 rfl (fun j hj => by rcases (show j = 0 ∨ j = 1 by omega) with rfl | rfl <;> rfl) (Nat.le_of_ble_eq_true rfl) (Nat.le_of_ble_eq_true rfl) d_St_init_27 (fun q27 H hP hD hS => ?_)
  have hP : va_P D classes [(h, .inr (2, [.ref q5, .ref q16, .null, .null, .null, .null, .int 0, .int 0])), (q5, .inr (1, [.ref hb_9, .int 0])), (hb_9, .inr (0, [.ref a_9, .int 0])), (a_9, .inl (cB, 64, .inl (fun _ => 0))), (q16, .inr (1, [.ref hb_20, .int 0])), (hb_20, .inr (0, [.ref a_20, .int 0])), (a_20, .inl (cB, 64, .inl (fun _ => 0))), (q27, .inr (1, [.null, .int 0]))] H := hP
  have hD : va_D A_ [(h, .inr (2, [.ref q5, .ref q16, .null, .null, .null, .null, .int 0, .int 0])), (q5, .inr (1, [.ref hb_9, .int 0])), (hb_9, .inr (0, [.ref a_9, .int 0])), (a_9, .inl (cB, 64, .inl (fun _ => 0))), (q16, .inr (1, [.ref hb_20, .int 0])), (hb_20, .inr (0, [.ref a_20, .int 0])), (a_20, .inl (cB, 64, .inl (fun _ => 0))), (q27, .inr (1, [.null, .int 0]))] := hD
  refine W.widen (k := 7) (n := 138) (by omega) (by omega) ?_
  refine lv_dup hx hb d_St_init_30 rfl ?_
  have hC : Cut [(h, .inr (2, [.ref q5, .ref q16, .null, .null, .null, .null, .int 0, .int 0])), (q5, .inr (1, [.ref hb_9, .int 0])), (hb_9, .inr (0, [.ref a_9, .int 0])), (a_9, .inl (cB, 64, .inl (fun _ => 0))), (q16, .inr (1, [.ref hb_20, .int 0])), (hb_20, .inr (0, [.ref a_20, .int 0])), (a_20, .inl (cB, 64, .inl (fun _ => 0))), (q27, .inr (1, [.null, .int 0]))] [(q27, .inr (1, [.null, .int 0]))] [(h, .inr (2, [.ref q5, .ref q16, .null, .null, .null, .null, .int 0, .int 0])), (q5, .inr (1, [.ref hb_9, .int 0])), (hb_9, .inr (0, [.ref a_9, .int 0])), (a_9, .inl (cB, 64, .inl (fun _ => 0))), (q16, .inr (1, [.ref hb_20, .int 0])), (hb_20, .inr (0, [.ref a_20, .int 0])), (a_20, .inl (cB, 64, .inl (fun _ => 0)))] [7] [0, 1, 2, 3, 4, 5, 6] := ⟨rfl, rfl, rfl, rfl, by decide⟩
  refine goV (trIN (As := []) (rest := [.ref q27, .ref h]) ⟨hx, hb, hml, hown, hts⟩ gd_good (c_Sh_init l D cB cI cJ q27) cal_Sh_init mn_St_11 ⟨Nat.le_of_ble_eq_true rfl, Nat.le_of_ble_eq_true rfl⟩ hZ hP hD hC rfl hl.1 rfl (Nat.le_of_ble_eq_true rfl) d_St_init_31 ⟨Nat.le_of_ble_eq_true rfl, Nat.le_of_ble_eq_true rfl⟩) hZ hP hD hS hC (fun w1 k_31 n_31 H locs hq hP hD hS => ?_)
  obtain ⟨hb_31, a_31, rfl, rfl, rfl⟩ := hq
  have hP : va_P D classes [(h, .inr (2, [.ref q5, .ref q16, .null, .null, .null, .null, .int 0, .int 0])), (q5, .inr (1, [.ref hb_9, .int 0])), (hb_9, .inr (0, [.ref a_9, .int 0])), (a_9, .inl (cB, 64, .inl (fun _ => 0))), (q16, .inr (1, [.ref hb_20, .int 0])), (hb_20, .inr (0, [.ref a_20, .int 0])), (a_20, .inl (cB, 64, .inl (fun _ => 0))), (q27, .inr (1, [.ref hb_31, .int 0])), (hb_31, .inr (0, [.ref a_31, .int 0])), (a_31, .inl (cB, 64, .inl (fun _ => 0)))] H := hP
  have hD : va_D A_ [(h, .inr (2, [.ref q5, .ref q16, .null, .null, .null, .null, .int 0, .int 0])), (q5, .inr (1, [.ref hb_9, .int 0])), (hb_9, .inr (0, [.ref a_9, .int 0])), (a_9, .inl (cB, 64, .inl (fun _ => 0))), (q16, .inr (1, [.ref hb_20, .int 0])), (hb_20, .inr (0, [.ref a_20, .int 0])), (a_20, .inl (cB, 64, .inl (fun _ => 0))), (q27, .inr (1, [.ref hb_31, .int 0])), (hb_31, .inr (0, [.ref a_31, .int 0])), (a_31, .inl (cB, 64, .inl (fun _ => 0)))] := hD
  refine va_putF (D := D) (ci := 2) (v := .ref q27) (ty := .object "CharOutlines$Shelf") (C := R_St) (T := F_St) (N := 8) hx hb hts i_St t_St t_St_ok n_St hown hZ.1 hP hD hS 0 rfl rfl 2 (by decide) (hts _ fl_St_21) (fun _ h9 => h9) rfl hnm rfl (by decide +kernel) rfl rfl (Nat.le_of_ble_eq_true rfl) d_St_init_34 (fun H locs hP hD hS => ?_)
  have hP : va_P D classes [(h, .inr (2, [.ref q5, .ref q16, .ref q27, .null, .null, .null, .int 0, .int 0])), (q5, .inr (1, [.ref hb_9, .int 0])), (hb_9, .inr (0, [.ref a_9, .int 0])), (a_9, .inl (cB, 64, .inl (fun _ => 0))), (q16, .inr (1, [.ref hb_20, .int 0])), (hb_20, .inr (0, [.ref a_20, .int 0])), (a_20, .inl (cB, 64, .inl (fun _ => 0))), (q27, .inr (1, [.ref hb_31, .int 0])), (hb_31, .inr (0, [.ref a_31, .int 0])), (a_31, .inl (cB, 64, .inl (fun _ => 0)))] H := hP
  have hD : va_D A_ [(h, .inr (2, [.ref q5, .ref q16, .ref q27, .null, .null, .null, .int 0, .int 0])), (q5, .inr (1, [.ref hb_9, .int 0])), (hb_9, .inr (0, [.ref a_9, .int 0])), (a_9, .inl (cB, 64, .inl (fun _ => 0))), (q16, .inr (1, [.ref hb_20, .int 0])), (hb_20, .inr (0, [.ref a_20, .int 0])), (a_20, .inl (cB, 64, .inl (fun _ => 0))), (q27, .inr (1, [.ref hb_31, .int 0])), (hb_31, .inr (0, [.ref a_31, .int 0])), (a_31, .inl (cB, 64, .inl (fun _ => 0)))] := hD
  refine lv_aload_n hx hb d_St_init_37 rfl (lv_at hl 0 rfl) ?_
  refine lv_bipush (v := 10) hx hb d_St_init_38 (by decide) ?_
  refine t_newa (atype := .int) (a0 := (10, .inl (fun _ => 0))) (N' := 10) hx hb (hts _ ar_I) rfl hZ.1 hP hD hS hZ.2.2.2 1 rfl (fun _ => rfl) (by decide) (by decide) (by decide) (Nat.le_of_ble_eq_true rfl) (Nat.le_of_ble_eq_true rfl) d_St_init_40 (fun q40 H hP hD hS => ?_)
  have hP : va_P D classes [(h, .inr (2, [.ref q5, .ref q16, .ref q27, .null, .null, .null, .int 0, .int 0])), (q5, .inr (1, [.ref hb_9, .int 0])), (hb_9, .inr (0, [.ref a_9, .int 0])), (a_9, .inl (cB, 64, .inl (fun _ => 0))), (q16, .inr (1, [.ref hb_20, .int 0])), (hb_20, .inr (0, [.ref a_20, .int 0])), (a_20, .inl (cB, 64, .inl (fun _ => 0))), (q27, .inr (1, [.ref hb_31, .int 0])), (hb_31, .inr (0, [.ref a_31, .int 0])), (a_31, .inl (cB, 64, .inl (fun _ => 0))), (q40, .inl (cI, 10, .inl (fun _ => 0)))] H := hP
  have hD : va_D A_ [(h, .inr (2, [.ref q5, .ref q16, .ref q27, .null, .null, .null, .int 0, .int 0])), (q5, .inr (1, [.ref hb_9, .int 0])), (hb_9, .inr (0, [.ref a_9, .int 0])), (a_9, .inl (cB, 64, .inl (fun _ => 0))), (q16, .inr (1, [.ref hb_20, .int 0])), (hb_20, .inr (0, [.ref a_20, .int 0])), (a_20, .inl (cB, 64, .inl (fun _ => 0))), (q27, .inr (1, [.ref hb_31, .int 0])), (hb_31, .inr (0, [.ref a_31, .int 0])), (a_31, .inl (cB, 64, .inl (fun _ => 0))), (q40, .inl (cI, 10, .inl (fun _ => 0)))] := hD
  refine va_putF (D := D) (ci := 2) (v := .ref q40) (ty := .array .int) (C := R_St) (T := F_St) (N := 8) hx hb hts i_St t_St t_St_ok n_St hown hZ.1 hP hD hS 0 rfl rfl 3 (by decide) (hts _ fl_St_24) (fun _ h9 => h9) rfl hnm rfl (by decide +kernel) rfl rfl (Nat.le_of_ble_eq_true rfl) d_St_init_42 (fun H locs hP hD hS => ?_)
  have hP : va_P D classes [(h, .inr (2, [.ref q5, .ref q16, .ref q27, .ref q40, .null, .null, .int 0, .int 0])), (q5, .inr (1, [.ref hb_9, .int 0])), (hb_9, .inr (0, [.ref a_9, .int 0])), (a_9, .inl (cB, 64, .inl (fun _ => 0))), (q16, .inr (1, [.ref hb_20, .int 0])), (hb_20, .inr (0, [.ref a_20, .int 0])), (a_20, .inl (cB, 64, .inl (fun _ => 0))), (q27, .inr (1, [.ref hb_31, .int 0])), (hb_31, .inr (0, [.ref a_31, .int 0])), (a_31, .inl (cB, 64, .inl (fun _ => 0))), (q40, .inl (cI, 10, .inl (fun _ => 0)))] H := hP
  have hD : va_D A_ [(h, .inr (2, [.ref q5, .ref q16, .ref q27, .ref q40, .null, .null, .int 0, .int 0])), (q5, .inr (1, [.ref hb_9, .int 0])), (hb_9, .inr (0, [.ref a_9, .int 0])), (a_9, .inl (cB, 64, .inl (fun _ => 0))), (q16, .inr (1, [.ref hb_20, .int 0])), (hb_20, .inr (0, [.ref a_20, .int 0])), (a_20, .inl (cB, 64, .inl (fun _ => 0))), (q27, .inr (1, [.ref hb_31, .int 0])), (hb_31, .inr (0, [.ref a_31, .int 0])), (a_31, .inl (cB, 64, .inl (fun _ => 0))), (q40, .inl (cI, 10, .inl (fun _ => 0)))] := hD
  refine lv_aload_n hx hb d_St_init_45 rfl (lv_at hl 0 rfl) ?_
  refine lv_bipush (v := 10) hx hb d_St_init_46 (by decide) ?_
  refine t_newa (atype := .int) (a0 := (10, .inl (fun _ => 0))) (N' := 10) hx hb (hts _ ar_I) rfl hZ.1 hP hD hS hZ.2.2.2 1 rfl (fun _ => rfl) (by decide) (by decide) (by decide) (Nat.le_of_ble_eq_true rfl) (Nat.le_of_ble_eq_true rfl) d_St_init_48 (fun q48 H hP hD hS => ?_)
  have hP : va_P D classes [(h, .inr (2, [.ref q5, .ref q16, .ref q27, .ref q40, .null, .null, .int 0, .int 0])), (q5, .inr (1, [.ref hb_9, .int 0])), (hb_9, .inr (0, [.ref a_9, .int 0])), (a_9, .inl (cB, 64, .inl (fun _ => 0))), (q16, .inr (1, [.ref hb_20, .int 0])), (hb_20, .inr (0, [.ref a_20, .int 0])), (a_20, .inl (cB, 64, .inl (fun _ => 0))), (q27, .inr (1, [.ref hb_31, .int 0])), (hb_31, .inr (0, [.ref a_31, .int 0])), (a_31, .inl (cB, 64, .inl (fun _ => 0))), (q40, .inl (cI, 10, .inl (fun _ => 0))), (q48, .inl (cI, 10, .inl (fun _ => 0)))] H := hP
  have hD : va_D A_ [(h, .inr (2, [.ref q5, .ref q16, .ref q27, .ref q40, .null, .null, .int 0, .int 0])), (q5, .inr (1, [.ref hb_9, .int 0])), (hb_9, .inr (0, [.ref a_9, .int 0])), (a_9, .inl (cB, 64, .inl (fun _ => 0))), (q16, .inr (1, [.ref hb_20, .int 0])), (hb_20, .inr (0, [.ref a_20, .int 0])), (a_20, .inl (cB, 64, .inl (fun _ => 0))), (q27, .inr (1, [.ref hb_31, .int 0])), (hb_31, .inr (0, [.ref a_31, .int 0])), (a_31, .inl (cB, 64, .inl (fun _ => 0))), (q40, .inl (cI, 10, .inl (fun _ => 0))), (q48, .inl (cI, 10, .inl (fun _ => 0)))] := hD
  refine va_putF (D := D) (ci := 2) (v := .ref q48) (ty := .array .int) (C := R_St) (T := F_St) (N := 8) hx hb hts i_St t_St t_St_ok n_St hown hZ.1 hP hD hS 0 rfl rfl 4 (by decide) (hts _ fl_St_28) (fun _ h9 => h9) rfl hnm rfl (by decide +kernel) rfl rfl (Nat.le_of_ble_eq_true rfl) d_St_init_50 (fun H locs hP hD hS => ?_)
  have hP : va_P D classes [(h, .inr (2, [.ref q5, .ref q16, .ref q27, .ref q40, .ref q48, .null, .int 0, .int 0])), (q5, .inr (1, [.ref hb_9, .int 0])), (hb_9, .inr (0, [.ref a_9, .int 0])), (a_9, .inl (cB, 64, .inl (fun _ => 0))), (q16, .inr (1, [.ref hb_20, .int 0])), (hb_20, .inr (0, [.ref a_20, .int 0])), (a_20, .inl (cB, 64, .inl (fun _ => 0))), (q27, .inr (1, [.ref hb_31, .int 0])), (hb_31, .inr (0, [.ref a_31, .int 0])), (a_31, .inl (cB, 64, .inl (fun _ => 0))), (q40, .inl (cI, 10, .inl (fun _ => 0))), (q48, .inl (cI, 10, .inl (fun _ => 0)))] H := hP
  have hD : va_D A_ [(h, .inr (2, [.ref q5, .ref q16, .ref q27, .ref q40, .ref q48, .null, .int 0, .int 0])), (q5, .inr (1, [.ref hb_9, .int 0])), (hb_9, .inr (0, [.ref a_9, .int 0])), (a_9, .inl (cB, 64, .inl (fun _ => 0))), (q16, .inr (1, [.ref hb_20, .int 0])), (hb_20, .inr (0, [.ref a_20, .int 0])), (a_20, .inl (cB, 64, .inl (fun _ => 0))), (q27, .inr (1, [.ref hb_31, .int 0])), (hb_31, .inr (0, [.ref a_31, .int 0])), (a_31, .inl (cB, 64, .inl (fun _ => 0))), (q40, .inl (cI, 10, .inl (fun _ => 0))), (q48, .inl (cI, 10, .inl (fun _ => 0)))] := hD
  refine lv_aload_n hx hb d_St_init_53 rfl (lv_at hl 0 rfl) ?_
  refine lv_bipush (v := 10) hx hb d_St_init_54 (by decide) ?_
  refine t_newa (atype := .int) (a0 := (10, .inl (fun _ => 0))) (N' := 10) hx hb (hts _ ar_I) rfl hZ.1 hP hD hS hZ.2.2.2 1 rfl (fun _ => rfl) (by decide) (by decide) (by decide) (Nat.le_of_ble_eq_true rfl) (Nat.le_of_ble_eq_true rfl) d_St_init_56 (fun q56 H hP hD hS => ?_)
  have hP : va_P D classes [(h, .inr (2, [.ref q5, .ref q16, .ref q27, .ref q40, .ref q48, .null, .int 0, .int 0])), (q5, .inr (1, [.ref hb_9, .int 0])), (hb_9, .inr (0, [.ref a_9, .int 0])), (a_9, .inl (cB, 64, .inl (fun _ => 0))), (q16, .inr (1, [.ref hb_20, .int 0])), (hb_20, .inr (0, [.ref a_20, .int 0])), (a_20, .inl (cB, 64, .inl (fun _ => 0))), (q27, .inr (1, [.ref hb_31, .int 0])), (hb_31, .inr (0, [.ref a_31, .int 0])), (a_31, .inl (cB, 64, .inl (fun _ => 0))), (q40, .inl (cI, 10, .inl (fun _ => 0))), (q48, .inl (cI, 10, .inl (fun _ => 0))), (q56, .inl (cI, 10, .inl (fun _ => 0)))] H := hP
  have hD : va_D A_ [(h, .inr (2, [.ref q5, .ref q16, .ref q27, .ref q40, .ref q48, .null, .int 0, .int 0])), (q5, .inr (1, [.ref hb_9, .int 0])), (hb_9, .inr (0, [.ref a_9, .int 0])), (a_9, .inl (cB, 64, .inl (fun _ => 0))), (q16, .inr (1, [.ref hb_20, .int 0])), (hb_20, .inr (0, [.ref a_20, .int 0])), (a_20, .inl (cB, 64, .inl (fun _ => 0))), (q27, .inr (1, [.ref hb_31, .int 0])), (hb_31, .inr (0, [.ref a_31, .int 0])), (a_31, .inl (cB, 64, .inl (fun _ => 0))), (q40, .inl (cI, 10, .inl (fun _ => 0))), (q48, .inl (cI, 10, .inl (fun _ => 0))), (q56, .inl (cI, 10, .inl (fun _ => 0)))] := hD
  refine va_putF (D := D) (ci := 2) (v := .ref q56) (ty := .array .int) (C := R_St) (T := F_St) (N := 8) hx hb hts i_St t_St t_St_ok n_St hown hZ.1 hP hD hS 0 rfl rfl 5 (by decide) (hts _ fl_St_31) (fun _ h9 => h9) rfl hnm rfl (by decide +kernel) rfl rfl (Nat.le_of_ble_eq_true rfl) d_St_init_58 (fun H locs hP hD hS => ?_)
  have hP : va_P D classes [(h, .inr (2, [.ref q5, .ref q16, .ref q27, .ref q40, .ref q48, .ref q56, .int 0, .int 0])), (q5, .inr (1, [.ref hb_9, .int 0])), (hb_9, .inr (0, [.ref a_9, .int 0])), (a_9, .inl (cB, 64, .inl (fun _ => 0))), (q16, .inr (1, [.ref hb_20, .int 0])), (hb_20, .inr (0, [.ref a_20, .int 0])), (a_20, .inl (cB, 64, .inl (fun _ => 0))), (q27, .inr (1, [.ref hb_31, .int 0])), (hb_31, .inr (0, [.ref a_31, .int 0])), (a_31, .inl (cB, 64, .inl (fun _ => 0))), (q40, .inl (cI, 10, .inl (fun _ => 0))), (q48, .inl (cI, 10, .inl (fun _ => 0))), (q56, .inl (cI, 10, .inl (fun _ => 0)))] H := hP
  have hD : va_D A_ [(h, .inr (2, [.ref q5, .ref q16, .ref q27, .ref q40, .ref q48, .ref q56, .int 0, .int 0])), (q5, .inr (1, [.ref hb_9, .int 0])), (hb_9, .inr (0, [.ref a_9, .int 0])), (a_9, .inl (cB, 64, .inl (fun _ => 0))), (q16, .inr (1, [.ref hb_20, .int 0])), (hb_20, .inr (0, [.ref a_20, .int 0])), (a_20, .inl (cB, 64, .inl (fun _ => 0))), (q27, .inr (1, [.ref hb_31, .int 0])), (hb_31, .inr (0, [.ref a_31, .int 0])), (a_31, .inl (cB, 64, .inl (fun _ => 0))), (q40, .inl (cI, 10, .inl (fun _ => 0))), (q48, .inl (cI, 10, .inl (fun _ => 0))), (q56, .inl (cI, 10, .inl (fun _ => 0)))] := hD
  exact t_vret hx hb hr hlk d_St_init_61 (hP.subm (ws' := [(h, .inr (2, [.ref q5, .ref q16, .ref q27, .ref q40, .ref q48, .ref q56, .int 0, .int 0])), (q5, .inr (1, [.ref hb_9, .int 0])), (hb_9, .inr (0, [.ref a_9, .int 0])), (a_9, .inl (cB, 64, .inl (fun _ => 0))), (q16, .inr (1, [.ref hb_20, .int 0])), (hb_20, .inr (0, [.ref a_20, .int 0])), (a_20, .inl (cB, 64, .inl (fun _ => 0))), (q27, .inr (1, [.ref hb_31, .int 0])), (hb_31, .inr (0, [.ref a_31, .int 0])), (a_31, .inl (cB, 64, .inl (fun _ => 0))), (q40, .inl (cI, 10, .inl (fun _ => 0))), (q48, .inl (cI, 10, .inl (fun _ => 0))), (q56, .inl (cI, 10, .inl (fun _ => 0)))]) [0, 1, 2, 3, 4, 5, 6, 7, 8, 9, 10, 11, 12] rfl) (hD.sub (ws' := [(h, .inr (2, [.ref q5, .ref q16, .ref q27, .ref q40, .ref q48, .ref q56, .int 0, .int 0])), (q5, .inr (1, [.ref hb_9, .int 0])), (hb_9, .inr (0, [.ref a_9, .int 0])), (a_9, .inl (cB, 64, .inl (fun _ => 0))), (q16, .inr (1, [.ref hb_20, .int 0])), (hb_20, .inr (0, [.ref a_20, .int 0])), (a_20, .inl (cB, 64, .inl (fun _ => 0))), (q27, .inr (1, [.ref hb_31, .int 0])), (hb_31, .inr (0, [.ref a_31, .int 0])), (a_31, .inl (cB, 64, .inl (fun _ => 0))), (q40, .inl (cI, 10, .inl (fun _ => 0))), (q48, .inl (cI, 10, .inl (fun _ => 0))), (q56, .inl (cI, 10, .inl (fun _ => 0)))]) [0, 1, 2, 3, 4, 5, 6, 7, 8, 9, 10, 11, 12] rfl rfl) hS ⟨rfl, q5, hb_9, a_9, q16, hb_20, a_20, q27, hb_31, a_31, q40, q48, q56, rfl, rfl, rfl⟩
set_option maxHeartbeats 1000000 in
set_option maxRecDepth 100000 in
theorem c_Va_init (l : Launch) (D : va_G) (cB cI cJ : ClassId) (h : Nat) : Tr l D classes (TY cB cI cJ) gd_tbl nx_tbl y_Va_init b_Va_init 1 none ({ frames := 1, cells := 2, slots := 96, locals := 12 }) [.ref h] [(h, .inr (3, [.null, .null, .int 0]))] (pV (fun w k n => ∃ va vb : Nat, w = [(h, .inr (3, [.ref va, .ref vb, .int 0])), (va, .inl (cI, 48, .inl (fun _ => 0))), (vb, .inl (cI, 48, .inl (fun _ => 0)))] ∧ k = 2 ∧ n = 96)) := by
  refine Tr.intro (by decide +kernel) nx_ok (Nat.le_of_ble_eq_true rfl) ?_
  intro p_ e_ s_ m_ args_ below_ meth_ c_ A_ ls hx hb hml hown hts hr hlk hnm hZ hP hD hS hl
  have hl : lv_has ls 1 [(0, .ref h)] := hl
  refine lv_aload_n hx hb d_Va_init_0 rfl (lv_at hl 0 rfl) ?_
  refine W.objInit hx hb hown (hts _ ml_Va_3) (hts _ im_objectInit) (hts _ co_objectInit) rfl (by rw [hml]; exact hl.1) rfl d_Va_init_1 (Nat.le_of_ble_eq_true rfl) (Nat.le_of_ble_eq_true rfl) ?_
  refine W.eq (g2 := F0 m_ 4 ls []) rfl ?_
  refine lv_aload_n hx hb d_Va_init_4 rfl (lv_at hl 0 rfl) ?_
  refine lv_bipush (v := 48) hx hb d_Va_init_5 (by decide) ?_
  refine t_newa (atype := .int) (a0 := (48, .inl (fun _ => 0))) (N' := 48) hx hb (hts _ ar_I) rfl hZ.1 hP hD hS hZ.2.2.2 1 rfl (fun _ => rfl) (by decide) (by decide) (by decide) (Nat.le_of_ble_eq_true rfl) (Nat.le_of_ble_eq_true rfl) d_Va_init_7 (fun q7 H hP hD hS => ?_)
  have hP : va_P D classes [(h, .inr (3, [.null, .null, .int 0])), (q7, .inl (cI, 48, .inl (fun _ => 0)))] H := hP
  have hD : va_D A_ [(h, .inr (3, [.null, .null, .int 0])), (q7, .inl (cI, 48, .inl (fun _ => 0)))] := hD
  refine va_putF (D := D) (ci := 3) (v := .ref q7) (ty := .array .int) (C := R_Va) (T := F_Va) (N := 3) hx hb hts i_Va t_Va t_Va_ok n_Va hown hZ.1 hP hD hS 0 rfl rfl 0 (by decide) (hts _ fl_Va_9) (fun _ h9 => h9) rfl hnm rfl (by decide +kernel) rfl rfl (Nat.le_of_ble_eq_true rfl) d_Va_init_9 (fun H locs hP hD hS => ?_)
  have hP : va_P D classes [(h, .inr (3, [.ref q7, .null, .int 0])), (q7, .inl (cI, 48, .inl (fun _ => 0)))] H := hP
  have hD : va_D A_ [(h, .inr (3, [.ref q7, .null, .int 0])), (q7, .inl (cI, 48, .inl (fun _ => 0)))] := hD
  refine lv_aload_n hx hb d_Va_init_12 rfl (lv_at hl 0 rfl) ?_
  refine lv_bipush (v := 48) hx hb d_Va_init_13 (by decide) ?_
  refine t_newa (atype := .int) (a0 := (48, .inl (fun _ => 0))) (N' := 48) hx hb (hts _ ar_I) rfl hZ.1 hP hD hS hZ.2.2.2 1 rfl (fun _ => rfl) (by decide) (by decide) (by decide) (Nat.le_of_ble_eq_true rfl) (Nat.le_of_ble_eq_true rfl) d_Va_init_15 (fun q15 H hP hD hS => ?_)
  have hP : va_P D classes [(h, .inr (3, [.ref q7, .null, .int 0])), (q7, .inl (cI, 48, .inl (fun _ => 0))), (q15, .inl (cI, 48, .inl (fun _ => 0)))] H := hP
  have hD : va_D A_ [(h, .inr (3, [.ref q7, .null, .int 0])), (q7, .inl (cI, 48, .inl (fun _ => 0))), (q15, .inl (cI, 48, .inl (fun _ => 0)))] := hD
  refine va_putF (D := D) (ci := 3) (v := .ref q15) (ty := .array .int) (C := R_Va) (T := F_Va) (N := 3) hx hb hts i_Va t_Va t_Va_ok n_Va hown hZ.1 hP hD hS 0 rfl rfl 1 (by decide) (hts _ fl_Va_15) (fun _ h9 => h9) rfl hnm rfl (by decide +kernel) rfl rfl (Nat.le_of_ble_eq_true rfl) d_Va_init_17 (fun H locs hP hD hS => ?_)
  have hP : va_P D classes [(h, .inr (3, [.ref q7, .ref q15, .int 0])), (q7, .inl (cI, 48, .inl (fun _ => 0))), (q15, .inl (cI, 48, .inl (fun _ => 0)))] H := hP
  have hD : va_D A_ [(h, .inr (3, [.ref q7, .ref q15, .int 0])), (q7, .inl (cI, 48, .inl (fun _ => 0))), (q15, .inl (cI, 48, .inl (fun _ => 0)))] := hD
  exact t_vret hx hb hr hlk d_Va_init_20 (hP.subm (ws' := [(h, .inr (3, [.ref q7, .ref q15, .int 0])), (q7, .inl (cI, 48, .inl (fun _ => 0))), (q15, .inl (cI, 48, .inl (fun _ => 0)))]) [0, 1, 2] rfl) (hD.sub (ws' := [(h, .inr (3, [.ref q7, .ref q15, .int 0])), (q7, .inl (cI, 48, .inl (fun _ => 0))), (q15, .inl (cI, 48, .inl (fun _ => 0)))]) [0, 1, 2] rfl rfl) hS ⟨rfl, q7, q15, rfl, rfl, rfl⟩
set_option maxHeartbeats 1000000 in
set_option maxRecDepth 100000 in
theorem c_Ou_init (l : Launch) (D : va_G) (cB cI cJ : ClassId) (h : Nat) : Tr l D classes (TY cB cI cJ) gd_tbl nx_tbl y_Ou_init b_Ou_init 1 none ({ frames := 1, cells := 1, slots := 336, locals := 12 }) [.ref h] [(h, .inr (4, [.null, .int 0, .int 0, .int 0]))] (pV (fun w k n => ∃ ro : Nat, w = [(h, .inr (4, [.ref ro, .int 0, .int 0, .int 0])), (ro, .inl (cI, 336, .inl (fun _ => 0)))] ∧ k = 1 ∧ n = 336)) := by
  refine Tr.intro (by decide +kernel) nx_ok (Nat.le_of_ble_eq_true rfl) ?_
  intro p_ e_ s_ m_ args_ below_ meth_ c_ A_ ls hx hb hml hown hts hr hlk hnm hZ hP hD hS hl
  have hl : lv_has ls 1 [(0, .ref h)] := hl
  refine lv_aload_n hx hb d_Ou_init_0 rfl (lv_at hl 0 rfl) ?_
  refine W.objInit hx hb hown (hts _ ml_Ou_3) (hts _ im_objectInit) (hts _ co_objectInit) rfl (by rw [hml]; exact hl.1) rfl d_Ou_init_1 (Nat.le_of_ble_eq_true rfl) (Nat.le_of_ble_eq_true rfl) ?_
  refine W.eq (g2 := F0 m_ 4 ls []) rfl ?_
  refine lv_aload_n hx hb d_Ou_init_4 rfl (lv_at hl 0 rfl) ?_
  refine lv_sipush (v := 336) hx hb d_Ou_init_5 (by decide) ?_
  refine t_newa (atype := .int) (a0 := (336, .inl (fun _ => 0))) (N' := 336) hx hb (hts _ ar_I) rfl hZ.1 hP hD hS hZ.2.2.2 1 rfl (fun _ => rfl) (by decide) (by decide) (by decide) (Nat.le_of_ble_eq_true rfl) (Nat.le_of_ble_eq_true rfl) d_Ou_init_8 (fun q8 H hP hD hS => ?_)
  have hP : va_P D classes [(h, .inr (4, [.null, .int 0, .int 0, .int 0])), (q8, .inl (cI, 336, .inl (fun _ => 0)))] H := hP
  have hD : va_D A_ [(h, .inr (4, [.null, .int 0, .int 0, .int 0])), (q8, .inl (cI, 336, .inl (fun _ => 0)))] := hD
  refine va_put (D := D) (ci := 4) (v := .ref q8) (ty := .array .int) (C := R_Ou) (T := F_Ou) (N := 4) hx hb hts i_Ou t_Ou t_Ou_ok n_Ou hown hZ.1 hP hD hS 0 rfl rfl 0 (by decide) (hts _ fl_Ou_11) (fun _ h9 => h9) rfl (by decide +kernel) rfl rfl (Nat.le_of_ble_eq_true rfl) d_Ou_init_10 (fun H locs hP hD hS => ?_)
  have hP : va_P D classes [(h, .inr (4, [.ref q8, .int 0, .int 0, .int 0])), (q8, .inl (cI, 336, .inl (fun _ => 0)))] H := hP
  have hD : va_D A_ [(h, .inr (4, [.ref q8, .int 0, .int 0, .int 0])), (q8, .inl (cI, 336, .inl (fun _ => 0)))] := hD
  exact t_vret hx hb hr hlk d_Ou_init_13 (hP.subm (ws' := [(h, .inr (4, [.ref q8, .int 0, .int 0, .int 0])), (q8, .inl (cI, 336, .inl (fun _ => 0)))]) [0, 1] rfl) (hD.sub (ws' := [(h, .inr (4, [.ref q8, .int 0, .int 0, .int 0])), (q8, .inl (cI, 336, .inl (fun _ => 0)))]) [0, 1] rfl rfl) hS ⟨rfl, q8, rfl, rfl, rfl⟩
set_option maxHeartbeats 1000000 in
set_option maxRecDepth 100000 in
theorem c_Re_init (l : Launch) (D : va_G) (cB cI cJ : ClassId) (h : Nat) : Tr l D classes (TY cB cI cJ) gd_tbl nx_tbl y_Re_init b_Re_init 1 none ({ frames := 1, cells := 1, slots := 32, locals := 12 }) [.ref h] [(h, .inr (5, [.null]))] (pV (fun w k n => ∃ rp : Nat, w = [(h, .inr (5, [.ref rp])), (rp, .inl (cI, 32, .inl (fun _ => 0)))] ∧ k = 1 ∧ n = 32)) := by
  refine Tr.intro (by decide +kernel) nx_ok (Nat.le_of_ble_eq_true rfl) ?_
  intro p_ e_ s_ m_ args_ below_ meth_ c_ A_ ls hx hb hml hown hts hr hlk hnm hZ hP hD hS hl
  have hl : lv_has ls 1 [(0, .ref h)] := hl
  refine lv_aload_n hx hb d_Re_init_0 rfl (lv_at hl 0 rfl) ?_
  refine W.objInit hx hb hown (hts _ ml_Re_3) (hts _ im_objectInit) (hts _ co_objectInit) rfl (by rw [hml]; exact hl.1) rfl d_Re_init_1 (Nat.le_of_ble_eq_true rfl) (Nat.le_of_ble_eq_true rfl) ?_
  refine W.eq (g2 := F0 m_ 4 ls []) rfl ?_
  refine lv_aload_n hx hb d_Re_init_4 rfl (lv_at hl 0 rfl) ?_
  refine lv_bipush (v := 32) hx hb d_Re_init_5 (by decide) ?_
  refine t_newa (atype := .int) (a0 := (32, .inl (fun _ => 0))) (N' := 32) hx hb (hts _ ar_I) rfl hZ.1 hP hD hS hZ.2.2.2 1 rfl (fun _ => rfl) (by decide) (by decide) (by decide) (Nat.le_of_ble_eq_true rfl) (Nat.le_of_ble_eq_true rfl) d_Re_init_7 (fun q7 H hP hD hS => ?_)
  have hP : va_P D classes [(h, .inr (5, [.null])), (q7, .inl (cI, 32, .inl (fun _ => 0)))] H := hP
  have hD : va_D A_ [(h, .inr (5, [.null])), (q7, .inl (cI, 32, .inl (fun _ => 0)))] := hD
  refine va_putF (D := D) (ci := 5) (v := .ref q7) (ty := .array .int) (C := R_Re) (T := F_Re) (N := 1) hx hb hts i_Re t_Re t_Re_ok n_Re hown hZ.1 hP hD hS 0 rfl rfl 0 (by decide) (hts _ fl_Re_9) (fun _ h9 => h9) rfl hnm rfl (by decide +kernel) rfl rfl (Nat.le_of_ble_eq_true rfl) d_Re_init_9 (fun H locs hP hD hS => ?_)
  have hP : va_P D classes [(h, .inr (5, [.ref q7])), (q7, .inl (cI, 32, .inl (fun _ => 0)))] H := hP
  have hD : va_D A_ [(h, .inr (5, [.ref q7])), (q7, .inl (cI, 32, .inl (fun _ => 0)))] := hD
  exact t_vret hx hb hr hlk d_Re_init_12 (hP.subm (ws' := [(h, .inr (5, [.ref q7])), (q7, .inl (cI, 32, .inl (fun _ => 0)))]) [0, 1] rfl) (hD.sub (ws' := [(h, .inr (5, [.ref q7])), (q7, .inl (cI, 32, .inl (fun _ => 0)))]) [0, 1] rfl rfl) hS ⟨rfl, q7, rfl, rfl, rfl⟩
set_option maxHeartbeats 1000000 in
set_option maxRecDepth 100000 in
theorem c_Ma_init (l : Launch) (D : va_G) (cB cI cJ : ClassId) (h : Nat) : Tr l D classes (TY cB cI cJ) gd_tbl nx_tbl y_Ma_init b_Ma_init 1 none ({ frames := 4, cells := 20, slots := 714, locals := 72 }) [.ref h] [(h, .inr (6, [.null, .null, .null, .null, .int 0, .int 0, .int 0, .int 0, .int 0, .int 0, .int 0]))] (pV (fun w k n => ∃ ms p pb pa g gb ga q qb qa ki pl en mv va vb mr rp mo ro : Nat, w = [(h, .inr (6, [.ref ms, .ref mv, .ref mr, .ref mo, .int 0, .int 0, .int 0, .int 0, .int 0, .int 0, .int 0])), (ms, .inr (2, [.ref p, .ref g, .ref q, .ref ki, .ref pl, .ref en, .int 0, .int 0])), (p, .inr (1, [.ref pb, .int 0])), (pb, .inr (0, [.ref pa, .int 0])), (pa, .inl (cB, 64, .inl (fun _ => 0))), (g, .inr (1, [.ref gb, .int 0])), (gb, .inr (0, [.ref ga, .int 0])), (ga, .inl (cB, 64, .inl (fun _ => 0))), (q, .inr (1, [.ref qb, .int 0])), (qb, .inr (0, [.ref qa, .int 0])), (qa, .inl (cB, 64, .inl (fun _ => 0))), (ki, .inl (cI, 10, .inl (fun _ => 0))), (pl, .inl (cI, 10, .inl (fun _ => 0))), (en, .inl (cI, 10, .inl (fun _ => 0))), (mv, .inr (3, [.ref va, .ref vb, .int 0])), (va, .inl (cI, 48, .inl (fun _ => 0))), (vb, .inl (cI, 48, .inl (fun _ => 0))), (mr, .inr (5, [.ref rp])), (rp, .inl (cI, 32, .inl (fun _ => 0))), (mo, .inr (4, [.ref ro, .int 0, .int 0, .int 0])), (ro, .inl (cI, 336, .inl (fun _ => 0)))] ∧ k = 20 ∧ n = 714)) := by
  refine Tr.intro (by decide +kernel) nx_ok (Nat.le_of_ble_eq_true rfl) ?_
  intro p_ e_ s_ m_ args_ below_ meth_ c_ A_ ls hx hb hml hown hts hr hlk hnm hZ hP hD hS hl
  have hl : lv_has ls 1 [(0, .ref h)] := hl
  refine lv_aload_n hx hb d_Ma_init_0 rfl (lv_at hl 0 rfl) ?_
  refine W.objInit hx hb hown (hts _ ml_Ma_3) (hts _ im_objectInit) (hts _ co_objectInit) rfl (by rw [hml]; exact hl.1) rfl d_Ma_init_1 (Nat.le_of_ble_eq_true rfl) (Nat.le_of_ble_eq_true rfl) ?_
  refine W.eq (g2 := F0 m_ 4 ls []) rfl ?_
  refine lv_aload_n hx hb d_Ma_init_4 rfl (lv_at hl 0 rfl) ?_
  refine va_new (ci := 2) (fs := [.null, .null, .null, .null, .null, .null, .int 0, .int 0]) (C := R_St) (T := F_St) (N := 8) hx hb hts i_St t_St t_St_ok hown (hts _ cl_Ma_9) (hts _ in_St) (hts _ ini_St) hZ.1 hP hD hS hZ.2.2.2 rfl (fun j hj => by rcases (show j = 0 ∨ j = 1 ∨ j = 2 ∨ j = 3 ∨ j = 4 ∨ j = 5 ∨ j = 6 ∨ j = 7 by omega) with rfl | rfl | rfl | rfl | rfl | rfl | rfl | rfl <;> rfl) (Nat.le_of_ble_eq_true rfl) (Nat.le_of_ble_eq_true rfl) d_Ma_init_5 (fun q5 H hP hD hS => ?_)
  have hP : va_P D classes [(h, .inr (6, [.null, .null, .null, .null, .int 0, .int 0, .int 0, .int 0, .int 0, .int 0, .int 0])), (q5, .inr (2, [.null, .null, .null, .null, .null, .null, .int 0, .int 0]))] H := hP
  have hD : va_D A_ [(h, .inr (6, [.null, .null, .null, .null, .int 0, .int 0, .int 0, .int 0, .int 0, .int 0, .int 0])), (q5, .inr (2, [.null, .null, .null, .null, .null, .null, .int 0, .int 0]))] := hD
  refine W.widen (k := 1) (n := 8) (by omega) (by omega) ?_
  refine lv_dup hx hb d_Ma_init_8 rfl ?_
  have hC : Cut [(h, .inr (6, [.null, .null, .null, .null, .int 0, .int 0, .int 0, .int 0, .int 0, .int 0, .int 0])), (q5, .inr (2, [.null, .null, .null, .null, .null, .null, .int 0, .int 0]))] [(q5, .inr (2, [.null, .null, .null, .null, .null, .null, .int 0, .int 0]))] [(h, .inr (6, [.null, .null, .null, .null, .int 0, .int 0, .int 0, .int 0, .int 0, .int 0, .int 0]))] [1] [0] := ⟨rfl, rfl, rfl, rfl, by decide⟩
  refine goV (trIN (As := []) (rest := [.ref q5, .ref h]) ⟨hx, hb, hml, hown, hts⟩ gd_good (c_St_init l D cB cI cJ q5) cal_St_init mn_Ma_11 ⟨Nat.le_of_ble_eq_true rfl, Nat.le_of_ble_eq_true rfl⟩ hZ hP hD hC rfl hl.1 rfl (Nat.le_of_ble_eq_true rfl) d_Ma_init_9 ⟨Nat.le_of_ble_eq_true rfl, Nat.le_of_ble_eq_true rfl⟩) hZ hP hD hS hC (fun w1 k_9 n_9 H locs hq hP hD hS => ?_)
  obtain ⟨p_9, pb_9, pa_9, g_9, gb_9, ga_9, q_9, qb_9, qa_9, ki_9, pl_9, en_9, rfl, rfl, rfl⟩ := hq
  have hP : va_P D classes [(h, .inr (6, [.null, .null, .null, .null, .int 0, .int 0, .int 0, .int 0, .int 0, .int 0, .int 0])), (q5, .inr (2, [.ref p_9, .ref g_9, .ref q_9, .ref ki_9, .ref pl_9, .ref en_9, .int 0, .int 0])), (p_9, .inr (1, [.ref pb_9, .int 0])), (pb_9, .inr (0, [.ref pa_9, .int 0])), (pa_9, .inl (cB, 64, .inl (fun _ => 0))), (g_9, .inr (1, [.ref gb_9, .int 0])), (gb_9, .inr (0, [.ref ga_9, .int 0])), (ga_9, .inl (cB, 64, .inl (fun _ => 0))), (q_9, .inr (1, [.ref qb_9, .int 0])), (qb_9, .inr (0, [.ref qa_9, .int 0])), (qa_9, .inl (cB, 64, .inl (fun _ => 0))), (ki_9, .inl (cI, 10, .inl (fun _ => 0))), (pl_9, .inl (cI, 10, .inl (fun _ => 0))), (en_9, .inl (cI, 10, .inl (fun _ => 0)))] H := hP
  have hD : va_D A_ [(h, .inr (6, [.null, .null, .null, .null, .int 0, .int 0, .int 0, .int 0, .int 0, .int 0, .int 0])), (q5, .inr (2, [.ref p_9, .ref g_9, .ref q_9, .ref ki_9, .ref pl_9, .ref en_9, .int 0, .int 0])), (p_9, .inr (1, [.ref pb_9, .int 0])), (pb_9, .inr (0, [.ref pa_9, .int 0])), (pa_9, .inl (cB, 64, .inl (fun _ => 0))), (g_9, .inr (1, [.ref gb_9, .int 0])), (gb_9, .inr (0, [.ref ga_9, .int 0])), (ga_9, .inl (cB, 64, .inl (fun _ => 0))), (q_9, .inr (1, [.ref qb_9, .int 0])), (qb_9, .inr (0, [.ref qa_9, .int 0])), (qa_9, .inl (cB, 64, .inl (fun _ => 0))), (ki_9, .inl (cI, 10, .inl (fun _ => 0))), (pl_9, .inl (cI, 10, .inl (fun _ => 0))), (en_9, .inl (cI, 10, .inl (fun _ => 0)))] := hD
  refine va_putF (D := D) (ci := 6) (v := .ref q5) (ty := .object "CharOutlines$Strings") (C := R_Ma) (T := F_Ma) (N := 11) hx hb hts i_Ma t_Ma t_Ma_ok n_Ma hown hZ.1 hP hD hS 0 rfl rfl 0 (by decide) (hts _ fl_Ma_12) (fun _ h9 => h9) rfl hnm rfl (by decide +kernel) rfl rfl (Nat.le_of_ble_eq_true rfl) d_Ma_init_12 (fun H locs hP hD hS => ?_)
  have hP : va_P D classes [(h, .inr (6, [.ref q5, .null, .null, .null, .int 0, .int 0, .int 0, .int 0, .int 0, .int 0, .int 0])), (q5, .inr (2, [.ref p_9, .ref g_9, .ref q_9, .ref ki_9, .ref pl_9, .ref en_9, .int 0, .int 0])), (p_9, .inr (1, [.ref pb_9, .int 0])), (pb_9, .inr (0, [.ref pa_9, .int 0])), (pa_9, .inl (cB, 64, .inl (fun _ => 0))), (g_9, .inr (1, [.ref gb_9, .int 0])), (gb_9, .inr (0, [.ref ga_9, .int 0])), (ga_9, .inl (cB, 64, .inl (fun _ => 0))), (q_9, .inr (1, [.ref qb_9, .int 0])), (qb_9, .inr (0, [.ref qa_9, .int 0])), (qa_9, .inl (cB, 64, .inl (fun _ => 0))), (ki_9, .inl (cI, 10, .inl (fun _ => 0))), (pl_9, .inl (cI, 10, .inl (fun _ => 0))), (en_9, .inl (cI, 10, .inl (fun _ => 0)))] H := hP
  have hD : va_D A_ [(h, .inr (6, [.ref q5, .null, .null, .null, .int 0, .int 0, .int 0, .int 0, .int 0, .int 0, .int 0])), (q5, .inr (2, [.ref p_9, .ref g_9, .ref q_9, .ref ki_9, .ref pl_9, .ref en_9, .int 0, .int 0])), (p_9, .inr (1, [.ref pb_9, .int 0])), (pb_9, .inr (0, [.ref pa_9, .int 0])), (pa_9, .inl (cB, 64, .inl (fun _ => 0))), (g_9, .inr (1, [.ref gb_9, .int 0])), (gb_9, .inr (0, [.ref ga_9, .int 0])), (ga_9, .inl (cB, 64, .inl (fun _ => 0))), (q_9, .inr (1, [.ref qb_9, .int 0])), (qb_9, .inr (0, [.ref qa_9, .int 0])), (qa_9, .inl (cB, 64, .inl (fun _ => 0))), (ki_9, .inl (cI, 10, .inl (fun _ => 0))), (pl_9, .inl (cI, 10, .inl (fun _ => 0))), (en_9, .inl (cI, 10, .inl (fun _ => 0)))] := hD
  refine lv_aload_n hx hb d_Ma_init_15 rfl (lv_at hl 0 rfl) ?_
  refine va_new (ci := 3) (fs := [.null, .null, .int 0]) (C := R_Va) (T := F_Va) (N := 3) hx hb hts i_Va t_Va t_Va_ok hown (hts _ cl_Ma_18) (hts _ in_Va) (hts _ ini_Va) hZ.1 hP hD hS hZ.2.2.2 rfl (fun j hj => by rcases (show j = 0 ∨ j = 1 ∨ j = 2 by omega) with rfl | rfl | rfl <;> rfl) (Nat.le_of_ble_eq_true rfl) (Nat.le_of_ble_eq_true rfl) d_Ma_init_16 (fun q16 H hP hD hS => ?_)
  have hP : va_P D classes [(h, .inr (6, [.ref q5, .null, .null, .null, .int 0, .int 0, .int 0, .int 0, .int 0, .int 0, .int 0])), (q5, .inr (2, [.ref p_9, .ref g_9, .ref q_9, .ref ki_9, .ref pl_9, .ref en_9, .int 0, .int 0])), (p_9, .inr (1, [.ref pb_9, .int 0])), (pb_9, .inr (0, [.ref pa_9, .int 0])), (pa_9, .inl (cB, 64, .inl (fun _ => 0))), (g_9, .inr (1, [.ref gb_9, .int 0])), (gb_9, .inr (0, [.ref ga_9, .int 0])), (ga_9, .inl (cB, 64, .inl (fun _ => 0))), (q_9, .inr (1, [.ref qb_9, .int 0])), (qb_9, .inr (0, [.ref qa_9, .int 0])), (qa_9, .inl (cB, 64, .inl (fun _ => 0))), (ki_9, .inl (cI, 10, .inl (fun _ => 0))), (pl_9, .inl (cI, 10, .inl (fun _ => 0))), (en_9, .inl (cI, 10, .inl (fun _ => 0))), (q16, .inr (3, [.null, .null, .int 0]))] H := hP
  have hD : va_D A_ [(h, .inr (6, [.ref q5, .null, .null, .null, .int 0, .int 0, .int 0, .int 0, .int 0, .int 0, .int 0])), (q5, .inr (2, [.ref p_9, .ref g_9, .ref q_9, .ref ki_9, .ref pl_9, .ref en_9, .int 0, .int 0])), (p_9, .inr (1, [.ref pb_9, .int 0])), (pb_9, .inr (0, [.ref pa_9, .int 0])), (pa_9, .inl (cB, 64, .inl (fun _ => 0))), (g_9, .inr (1, [.ref gb_9, .int 0])), (gb_9, .inr (0, [.ref ga_9, .int 0])), (ga_9, .inl (cB, 64, .inl (fun _ => 0))), (q_9, .inr (1, [.ref qb_9, .int 0])), (qb_9, .inr (0, [.ref qa_9, .int 0])), (qa_9, .inl (cB, 64, .inl (fun _ => 0))), (ki_9, .inl (cI, 10, .inl (fun _ => 0))), (pl_9, .inl (cI, 10, .inl (fun _ => 0))), (en_9, .inl (cI, 10, .inl (fun _ => 0))), (q16, .inr (3, [.null, .null, .int 0]))] := hD
  refine W.widen (k := 14) (n := 245) (by omega) (by omega) ?_
  refine lv_dup hx hb d_Ma_init_19 rfl ?_
  have hC : Cut [(h, .inr (6, [.ref q5, .null, .null, .null, .int 0, .int 0, .int 0, .int 0, .int 0, .int 0, .int 0])), (q5, .inr (2, [.ref p_9, .ref g_9, .ref q_9, .ref ki_9, .ref pl_9, .ref en_9, .int 0, .int 0])), (p_9, .inr (1, [.ref pb_9, .int 0])), (pb_9, .inr (0, [.ref pa_9, .int 0])), (pa_9, .inl (cB, 64, .inl (fun _ => 0))), (g_9, .inr (1, [.ref gb_9, .int 0])), (gb_9, .inr (0, [.ref ga_9, .int 0])), (ga_9, .inl (cB, 64, .inl (fun _ => 0))), (q_9, .inr (1, [.ref qb_9, .int 0])), (qb_9, .inr (0, [.ref qa_9, .int 0])), (qa_9, .inl (cB, 64, .inl (fun _ => 0))), (ki_9, .inl (cI, 10, .inl (fun _ => 0))), (pl_9, .inl (cI, 10, .inl (fun _ => 0))), (en_9, .inl (cI, 10, .inl (fun _ => 0))), (q16, .inr (3, [.null, .null, .int 0]))] [(q16, .inr (3, [.null, .null, .int 0]))] [(h, .inr (6, [.ref q5, .null, .null, .null, .int 0, .int 0, .int 0, .int 0, .int 0, .int 0, .int 0])), (q5, .inr (2, [.ref p_9, .ref g_9, .ref q_9, .ref ki_9, .ref pl_9, .ref en_9, .int 0, .int 0])), (p_9, .inr (1, [.ref pb_9, .int 0])), (pb_9, .inr (0, [.ref pa_9, .int 0])), (pa_9, .inl (cB, 64, .inl (fun _ => 0))), (g_9, .inr (1, [.ref gb_9, .int 0])), (gb_9, .inr (0, [.ref ga_9, .int 0])), (ga_9, .inl (cB, 64, .inl (fun _ => 0))), (q_9, .inr (1, [.ref qb_9, .int 0])), (qb_9, .inr (0, [.ref qa_9, .int 0])), (qa_9, .inl (cB, 64, .inl (fun _ => 0))), (ki_9, .inl (cI, 10, .inl (fun _ => 0))), (pl_9, .inl (cI, 10, .inl (fun _ => 0))), (en_9, .inl (cI, 10, .inl (fun _ => 0)))] [14] [0, 1, 2, 3, 4, 5, 6, 7, 8, 9, 10, 11, 12, 13] := ⟨rfl, rfl, rfl, rfl, by decide⟩
  refine goV (trIN (As := []) (rest := [.ref q16, .ref h]) ⟨hx, hb, hml, hown, hts⟩ gd_good (c_Va_init l D cB cI cJ q16) cal_Va_init mn_Ma_20 ⟨Nat.le_of_ble_eq_true rfl, Nat.le_of_ble_eq_true rfl⟩ hZ hP hD hC rfl hl.1 rfl (Nat.le_of_ble_eq_true rfl) d_Ma_init_20 ⟨Nat.le_of_ble_eq_true rfl, Nat.le_of_ble_eq_true rfl⟩) hZ hP hD hS hC (fun w1 k_20 n_20 H locs hq hP hD hS => ?_)
  obtain ⟨va_20, vb_20, rfl, rfl, rfl⟩ := hq
  have hP : va_P D classes [(h, .inr (6, [.ref q5, .null, .null, .null, .int 0, .int 0, .int 0, .int 0, .int 0, .int 0, .int 0])), (q5, .inr (2, [.ref p_9, .ref g_9, .ref q_9, .ref ki_9, .ref pl_9, .ref en_9, .int 0, .int 0])), (p_9, .inr (1, [.ref pb_9, .int 0])), (pb_9, .inr (0, [.ref pa_9, .int 0])), (pa_9, .inl (cB, 64, .inl (fun _ => 0))), (g_9, .inr (1, [.ref gb_9, .int 0])), (gb_9, .inr (0, [.ref ga_9, .int 0])), (ga_9, .inl (cB, 64, .inl (fun _ => 0))), (q_9, .inr (1, [.ref qb_9, .int 0])), (qb_9, .inr (0, [.ref qa_9, .int 0])), (qa_9, .inl (cB, 64, .inl (fun _ => 0))), (ki_9, .inl (cI, 10, .inl (fun _ => 0))), (pl_9, .inl (cI, 10, .inl (fun _ => 0))), (en_9, .inl (cI, 10, .inl (fun _ => 0))), (q16, .inr (3, [.ref va_20, .ref vb_20, .int 0])), (va_20, .inl (cI, 48, .inl (fun _ => 0))), (vb_20, .inl (cI, 48, .inl (fun _ => 0)))] H := hP
  have hD : va_D A_ [(h, .inr (6, [.ref q5, .null, .null, .null, .int 0, .int 0, .int 0, .int 0, .int 0, .int 0, .int 0])), (q5, .inr (2, [.ref p_9, .ref g_9, .ref q_9, .ref ki_9, .ref pl_9, .ref en_9, .int 0, .int 0])), (p_9, .inr (1, [.ref pb_9, .int 0])), (pb_9, .inr (0, [.ref pa_9, .int 0])), (pa_9, .inl (cB, 64, .inl (fun _ => 0))), (g_9, .inr (1, [.ref gb_9, .int 0])), (gb_9, .inr (0, [.ref ga_9, .int 0])), (ga_9, .inl (cB, 64, .inl (fun _ => 0))), (q_9, .inr (1, [.ref qb_9, .int 0])), (qb_9, .inr (0, [.ref qa_9, .int 0])), (qa_9, .inl (cB, 64, .inl (fun _ => 0))), (ki_9, .inl (cI, 10, .inl (fun _ => 0))), (pl_9, .inl (cI, 10, .inl (fun _ => 0))), (en_9, .inl (cI, 10, .inl (fun _ => 0))), (q16, .inr (3, [.ref va_20, .ref vb_20, .int 0])), (va_20, .inl (cI, 48, .inl (fun _ => 0))), (vb_20, .inl (cI, 48, .inl (fun _ => 0)))] := hD
  refine va_putF (D := D) (ci := 6) (v := .ref q16) (ty := .object "CharOutlines$Values") (C := R_Ma) (T := F_Ma) (N := 11) hx hb hts i_Ma t_Ma t_Ma_ok n_Ma hown hZ.1 hP hD hS 0 rfl rfl 1 (by decide) (hts _ fl_Ma_21) (fun _ h9 => h9) rfl hnm rfl (by decide +kernel) rfl rfl (Nat.le_of_ble_eq_true rfl) d_Ma_init_23 (fun H locs hP hD hS => ?_)
  have hP : va_P D classes [(h, .inr (6, [.ref q5, .ref q16, .null, .null, .int 0, .int 0, .int 0, .int 0, .int 0, .int 0, .int 0])), (q5, .inr (2, [.ref p_9, .ref g_9, .ref q_9, .ref ki_9, .ref pl_9, .ref en_9, .int 0, .int 0])), (p_9, .inr (1, [.ref pb_9, .int 0])), (pb_9, .inr (0, [.ref pa_9, .int 0])), (pa_9, .inl (cB, 64, .inl (fun _ => 0))), (g_9, .inr (1, [.ref gb_9, .int 0])), (gb_9, .inr (0, [.ref ga_9, .int 0])), (ga_9, .inl (cB, 64, .inl (fun _ => 0))), (q_9, .inr (1, [.ref qb_9, .int 0])), (qb_9, .inr (0, [.ref qa_9, .int 0])), (qa_9, .inl (cB, 64, .inl (fun _ => 0))), (ki_9, .inl (cI, 10, .inl (fun _ => 0))), (pl_9, .inl (cI, 10, .inl (fun _ => 0))), (en_9, .inl (cI, 10, .inl (fun _ => 0))), (q16, .inr (3, [.ref va_20, .ref vb_20, .int 0])), (va_20, .inl (cI, 48, .inl (fun _ => 0))), (vb_20, .inl (cI, 48, .inl (fun _ => 0)))] H := hP
  have hD : va_D A_ [(h, .inr (6, [.ref q5, .ref q16, .null, .null, .int 0, .int 0, .int 0, .int 0, .int 0, .int 0, .int 0])), (q5, .inr (2, [.ref p_9, .ref g_9, .ref q_9, .ref ki_9, .ref pl_9, .ref en_9, .int 0, .int 0])), (p_9, .inr (1, [.ref pb_9, .int 0])), (pb_9, .inr (0, [.ref pa_9, .int 0])), (pa_9, .inl (cB, 64, .inl (fun _ => 0))), (g_9, .inr (1, [.ref gb_9, .int 0])), (gb_9, .inr (0, [.ref ga_9, .int 0])), (ga_9, .inl (cB, 64, .inl (fun _ => 0))), (q_9, .inr (1, [.ref qb_9, .int 0])), (qb_9, .inr (0, [.ref qa_9, .int 0])), (qa_9, .inl (cB, 64, .inl (fun _ => 0))), (ki_9, .inl (cI, 10, .inl (fun _ => 0))), (pl_9, .inl (cI, 10, .inl (fun _ => 0))), (en_9, .inl (cI, 10, .inl (fun _ => 0))), (q16, .inr (3, [.ref va_20, .ref vb_20, .int 0])), (va_20, .inl (cI, 48, .inl (fun _ => 0))), (vb_20, .inl (cI, 48, .inl (fun _ => 0)))] := hD
  refine lv_aload_n hx hb d_Ma_init_26 rfl (lv_at hl 0 rfl) ?_
  refine va_new (ci := 5) (fs := [.null]) (C := R_Re) (T := F_Re) (N := 1) hx hb hts i_Re t_Re t_Re_ok hown (hts _ cl_Ma_25) (hts _ in_Re) (hts _ ini_Re) hZ.1 hP hD hS hZ.2.2.2 rfl (fun j hj => by rcases (show j = 0 by omega) with rfl <;> rfl) (Nat.le_of_ble_eq_true rfl) (Nat.le_of_ble_eq_true rfl) d_Ma_init_27 (fun q27 H hP hD hS => ?_)
  have hP : va_P D classes [(h, .inr (6, [.ref q5, .ref q16, .null, .null, .int 0, .int 0, .int 0, .int 0, .int 0, .int 0, .int 0])), (q5, .inr (2, [.ref p_9, .ref g_9, .ref q_9, .ref ki_9, .ref pl_9, .ref en_9, .int 0, .int 0])), (p_9, .inr (1, [.ref pb_9, .int 0])), (pb_9, .inr (0, [.ref pa_9, .int 0])), (pa_9, .inl (cB, 64, .inl (fun _ => 0))), (g_9, .inr (1, [.ref gb_9, .int 0])), (gb_9, .inr (0, [.ref ga_9, .int 0])), (ga_9, .inl (cB, 64, .inl (fun _ => 0))), (q_9, .inr (1, [.ref qb_9, .int 0])), (qb_9, .inr (0, [.ref qa_9, .int 0])), (qa_9, .inl (cB, 64, .inl (fun _ => 0))), (ki_9, .inl (cI, 10, .inl (fun _ => 0))), (pl_9, .inl (cI, 10, .inl (fun _ => 0))), (en_9, .inl (cI, 10, .inl (fun _ => 0))), (q16, .inr (3, [.ref va_20, .ref vb_20, .int 0])), (va_20, .inl (cI, 48, .inl (fun _ => 0))), (vb_20, .inl (cI, 48, .inl (fun _ => 0))), (q27, .inr (5, [.null]))] H := hP
  have hD : va_D A_ [(h, .inr (6, [.ref q5, .ref q16, .null, .null, .int 0, .int 0, .int 0, .int 0, .int 0, .int 0, .int 0])), (q5, .inr (2, [.ref p_9, .ref g_9, .ref q_9, .ref ki_9, .ref pl_9, .ref en_9, .int 0, .int 0])), (p_9, .inr (1, [.ref pb_9, .int 0])), (pb_9, .inr (0, [.ref pa_9, .int 0])), (pa_9, .inl (cB, 64, .inl (fun _ => 0))), (g_9, .inr (1, [.ref gb_9, .int 0])), (gb_9, .inr (0, [.ref ga_9, .int 0])), (ga_9, .inl (cB, 64, .inl (fun _ => 0))), (q_9, .inr (1, [.ref qb_9, .int 0])), (qb_9, .inr (0, [.ref qa_9, .int 0])), (qa_9, .inl (cB, 64, .inl (fun _ => 0))), (ki_9, .inl (cI, 10, .inl (fun _ => 0))), (pl_9, .inl (cI, 10, .inl (fun _ => 0))), (en_9, .inl (cI, 10, .inl (fun _ => 0))), (q16, .inr (3, [.ref va_20, .ref vb_20, .int 0])), (va_20, .inl (cI, 48, .inl (fun _ => 0))), (vb_20, .inl (cI, 48, .inl (fun _ => 0))), (q27, .inr (5, [.null]))] := hD
  refine W.widen (k := 17) (n := 342) (by omega) (by omega) ?_
  refine lv_dup hx hb d_Ma_init_30 rfl ?_
  have hC : Cut [(h, .inr (6, [.ref q5, .ref q16, .null, .null, .int 0, .int 0, .int 0, .int 0, .int 0, .int 0, .int 0])), (q5, .inr (2, [.ref p_9, .ref g_9, .ref q_9, .ref ki_9, .ref pl_9, .ref en_9, .int 0, .int 0])), (p_9, .inr (1, [.ref pb_9, .int 0])), (pb_9, .inr (0, [.ref pa_9, .int 0])), (pa_9, .inl (cB, 64, .inl (fun _ => 0))), (g_9, .inr (1, [.ref gb_9, .int 0])), (gb_9, .inr (0, [.ref ga_9, .int 0])), (ga_9, .inl (cB, 64, .inl (fun _ => 0))), (q_9, .inr (1, [.ref qb_9, .int 0])), (qb_9, .inr (0, [.ref qa_9, .int 0])), (qa_9, .inl (cB, 64, .inl (fun _ => 0))), (ki_9, .inl (cI, 10, .inl (fun _ => 0))), (pl_9, .inl (cI, 10, .inl (fun _ => 0))), (en_9, .inl (cI, 10, .inl (fun _ => 0))), (q16, .inr (3, [.ref va_20, .ref vb_20, .int 0])), (va_20, .inl (cI, 48, .inl (fun _ => 0))), (vb_20, .inl (cI, 48, .inl (fun _ => 0))), (q27, .inr (5, [.null]))] [(q27, .inr (5, [.null]))] [(h, .inr (6, [.ref q5, .ref q16, .null, .null, .int 0, .int 0, .int 0, .int 0, .int 0, .int 0, .int 0])), (q5, .inr (2, [.ref p_9, .ref g_9, .ref q_9, .ref ki_9, .ref pl_9, .ref en_9, .int 0, .int 0])), (p_9, .inr (1, [.ref pb_9, .int 0])), (pb_9, .inr (0, [.ref pa_9, .int 0])), (pa_9, .inl (cB, 64, .inl (fun _ => 0))), (g_9, .inr (1, [.ref gb_9, .int 0])), (gb_9, .inr (0, [.ref ga_9, .int 0])), (ga_9, .inl (cB, 64, .inl (fun _ => 0))), (q_9, .inr (1, [.ref qb_9, .int 0])), (qb_9, .inr (0, [.ref qa_9, .int 0])), (qa_9, .inl (cB, 64, .inl (fun _ => 0))), (ki_9, .inl (cI, 10, .inl (fun _ => 0))), (pl_9, .inl (cI, 10, .inl (fun _ => 0))), (en_9, .inl (cI, 10, .inl (fun _ => 0))), (q16, .inr (3, [.ref va_20, .ref vb_20, .int 0])), (va_20, .inl (cI, 48, .inl (fun _ => 0))), (vb_20, .inl (cI, 48, .inl (fun _ => 0)))] [17] [0, 1, 2, 3, 4, 5, 6, 7, 8, 9, 10, 11, 12, 13, 14, 15, 16] := ⟨rfl, rfl, rfl, rfl, by decide⟩
  refine goV (trIN (As := []) (rest := [.ref q27, .ref h]) ⟨hx, hb, hml, hown, hts⟩ gd_good (c_Re_init l D cB cI cJ q27) cal_Re_init mn_Ma_27 ⟨Nat.le_of_ble_eq_true rfl, Nat.le_of_ble_eq_true rfl⟩ hZ hP hD hC rfl hl.1 rfl (Nat.le_of_ble_eq_true rfl) d_Ma_init_31 ⟨Nat.le_of_ble_eq_true rfl, Nat.le_of_ble_eq_true rfl⟩) hZ hP hD hS hC (fun w1 k_31 n_31 H locs hq hP hD hS => ?_)
  obtain ⟨rp_31, rfl, rfl, rfl⟩ := hq
  have hP : va_P D classes [(h, .inr (6, [.ref q5, .ref q16, .null, .null, .int 0, .int 0, .int 0, .int 0, .int 0, .int 0, .int 0])), (q5, .inr (2, [.ref p_9, .ref g_9, .ref q_9, .ref ki_9, .ref pl_9, .ref en_9, .int 0, .int 0])), (p_9, .inr (1, [.ref pb_9, .int 0])), (pb_9, .inr (0, [.ref pa_9, .int 0])), (pa_9, .inl (cB, 64, .inl (fun _ => 0))), (g_9, .inr (1, [.ref gb_9, .int 0])), (gb_9, .inr (0, [.ref ga_9, .int 0])), (ga_9, .inl (cB, 64, .inl (fun _ => 0))), (q_9, .inr (1, [.ref qb_9, .int 0])), (qb_9, .inr (0, [.ref qa_9, .int 0])), (qa_9, .inl (cB, 64, .inl (fun _ => 0))), (ki_9, .inl (cI, 10, .inl (fun _ => 0))), (pl_9, .inl (cI, 10, .inl (fun _ => 0))), (en_9, .inl (cI, 10, .inl (fun _ => 0))), (q16, .inr (3, [.ref va_20, .ref vb_20, .int 0])), (va_20, .inl (cI, 48, .inl (fun _ => 0))), (vb_20, .inl (cI, 48, .inl (fun _ => 0))), (q27, .inr (5, [.ref rp_31])), (rp_31, .inl (cI, 32, .inl (fun _ => 0)))] H := hP
  have hD : va_D A_ [(h, .inr (6, [.ref q5, .ref q16, .null, .null, .int 0, .int 0, .int 0, .int 0, .int 0, .int 0, .int 0])), (q5, .inr (2, [.ref p_9, .ref g_9, .ref q_9, .ref ki_9, .ref pl_9, .ref en_9, .int 0, .int 0])), (p_9, .inr (1, [.ref pb_9, .int 0])), (pb_9, .inr (0, [.ref pa_9, .int 0])), (pa_9, .inl (cB, 64, .inl (fun _ => 0))), (g_9, .inr (1, [.ref gb_9, .int 0])), (gb_9, .inr (0, [.ref ga_9, .int 0])), (ga_9, .inl (cB, 64, .inl (fun _ => 0))), (q_9, .inr (1, [.ref qb_9, .int 0])), (qb_9, .inr (0, [.ref qa_9, .int 0])), (qa_9, .inl (cB, 64, .inl (fun _ => 0))), (ki_9, .inl (cI, 10, .inl (fun _ => 0))), (pl_9, .inl (cI, 10, .inl (fun _ => 0))), (en_9, .inl (cI, 10, .inl (fun _ => 0))), (q16, .inr (3, [.ref va_20, .ref vb_20, .int 0])), (va_20, .inl (cI, 48, .inl (fun _ => 0))), (vb_20, .inl (cI, 48, .inl (fun _ => 0))), (q27, .inr (5, [.ref rp_31])), (rp_31, .inl (cI, 32, .inl (fun _ => 0)))] := hD
  refine va_putF (D := D) (ci := 6) (v := .ref q27) (ty := .object "CharOutlines$Reckoning") (C := R_Ma) (T := F_Ma) (N := 11) hx hb hts i_Ma t_Ma t_Ma_ok n_Ma hown hZ.1 hP hD hS 0 rfl rfl 2 (by decide) (hts _ fl_Ma_28) (fun _ h9 => h9) rfl hnm rfl (by decide +kernel) rfl rfl (Nat.le_of_ble_eq_true rfl) d_Ma_init_34 (fun H locs hP hD hS => ?_)
  have hP : va_P D classes [(h, .inr (6, [.ref q5, .ref q16, .ref q27, .null, .int 0, .int 0, .int 0, .int 0, .int 0, .int 0, .int 0])), (q5, .inr (2, [.ref p_9, .ref g_9, .ref q_9, .ref ki_9, .ref pl_9, .ref en_9, .int 0, .int 0])), (p_9, .inr (1, [.ref pb_9, .int 0])), (pb_9, .inr (0, [.ref pa_9, .int 0])), (pa_9, .inl (cB, 64, .inl (fun _ => 0))), (g_9, .inr (1, [.ref gb_9, .int 0])), (gb_9, .inr (0, [.ref ga_9, .int 0])), (ga_9, .inl (cB, 64, .inl (fun _ => 0))), (q_9, .inr (1, [.ref qb_9, .int 0])), (qb_9, .inr (0, [.ref qa_9, .int 0])), (qa_9, .inl (cB, 64, .inl (fun _ => 0))), (ki_9, .inl (cI, 10, .inl (fun _ => 0))), (pl_9, .inl (cI, 10, .inl (fun _ => 0))), (en_9, .inl (cI, 10, .inl (fun _ => 0))), (q16, .inr (3, [.ref va_20, .ref vb_20, .int 0])), (va_20, .inl (cI, 48, .inl (fun _ => 0))), (vb_20, .inl (cI, 48, .inl (fun _ => 0))), (q27, .inr (5, [.ref rp_31])), (rp_31, .inl (cI, 32, .inl (fun _ => 0)))] H := hP
  have hD : va_D A_ [(h, .inr (6, [.ref q5, .ref q16, .ref q27, .null, .int 0, .int 0, .int 0, .int 0, .int 0, .int 0, .int 0])), (q5, .inr (2, [.ref p_9, .ref g_9, .ref q_9, .ref ki_9, .ref pl_9, .ref en_9, .int 0, .int 0])), (p_9, .inr (1, [.ref pb_9, .int 0])), (pb_9, .inr (0, [.ref pa_9, .int 0])), (pa_9, .inl (cB, 64, .inl (fun _ => 0))), (g_9, .inr (1, [.ref gb_9, .int 0])), (gb_9, .inr (0, [.ref ga_9, .int 0])), (ga_9, .inl (cB, 64, .inl (fun _ => 0))), (q_9, .inr (1, [.ref qb_9, .int 0])), (qb_9, .inr (0, [.ref qa_9, .int 0])), (qa_9, .inl (cB, 64, .inl (fun _ => 0))), (ki_9, .inl (cI, 10, .inl (fun _ => 0))), (pl_9, .inl (cI, 10, .inl (fun _ => 0))), (en_9, .inl (cI, 10, .inl (fun _ => 0))), (q16, .inr (3, [.ref va_20, .ref vb_20, .int 0])), (va_20, .inl (cI, 48, .inl (fun _ => 0))), (vb_20, .inl (cI, 48, .inl (fun _ => 0))), (q27, .inr (5, [.ref rp_31])), (rp_31, .inl (cI, 32, .inl (fun _ => 0)))] := hD
  refine lv_aload_n hx hb d_Ma_init_37 rfl (lv_at hl 0 rfl) ?_
  refine va_new (ci := 4) (fs := [.null, .int 0, .int 0, .int 0]) (C := R_Ou) (T := F_Ou) (N := 4) hx hb hts i_Ou t_Ou t_Ou_ok hown (hts _ cl_Ma_32) (hts _ in_Ou) (hts _ ini_Ou) hZ.1 hP hD hS hZ.2.2.2 rfl (fun j hj => by rcases (show j = 0 ∨ j = 1 ∨ j = 2 ∨ j = 3 by omega) with rfl | rfl | rfl | rfl <;> rfl) (Nat.le_of_ble_eq_true rfl) (Nat.le_of_ble_eq_true rfl) d_Ma_init_38 (fun q38 H hP hD hS => ?_)
  have hP : va_P D classes [(h, .inr (6, [.ref q5, .ref q16, .ref q27, .null, .int 0, .int 0, .int 0, .int 0, .int 0, .int 0, .int 0])), (q5, .inr (2, [.ref p_9, .ref g_9, .ref q_9, .ref ki_9, .ref pl_9, .ref en_9, .int 0, .int 0])), (p_9, .inr (1, [.ref pb_9, .int 0])), (pb_9, .inr (0, [.ref pa_9, .int 0])), (pa_9, .inl (cB, 64, .inl (fun _ => 0))), (g_9, .inr (1, [.ref gb_9, .int 0])), (gb_9, .inr (0, [.ref ga_9, .int 0])), (ga_9, .inl (cB, 64, .inl (fun _ => 0))), (q_9, .inr (1, [.ref qb_9, .int 0])), (qb_9, .inr (0, [.ref qa_9, .int 0])), (qa_9, .inl (cB, 64, .inl (fun _ => 0))), (ki_9, .inl (cI, 10, .inl (fun _ => 0))), (pl_9, .inl (cI, 10, .inl (fun _ => 0))), (en_9, .inl (cI, 10, .inl (fun _ => 0))), (q16, .inr (3, [.ref va_20, .ref vb_20, .int 0])), (va_20, .inl (cI, 48, .inl (fun _ => 0))), (vb_20, .inl (cI, 48, .inl (fun _ => 0))), (q27, .inr (5, [.ref rp_31])), (rp_31, .inl (cI, 32, .inl (fun _ => 0))), (q38, .inr (4, [.null, .int 0, .int 0, .int 0]))] H := hP
  have hD : va_D A_ [(h, .inr (6, [.ref q5, .ref q16, .ref q27, .null, .int 0, .int 0, .int 0, .int 0, .int 0, .int 0, .int 0])), (q5, .inr (2, [.ref p_9, .ref g_9, .ref q_9, .ref ki_9, .ref pl_9, .ref en_9, .int 0, .int 0])), (p_9, .inr (1, [.ref pb_9, .int 0])), (pb_9, .inr (0, [.ref pa_9, .int 0])), (pa_9, .inl (cB, 64, .inl (fun _ => 0))), (g_9, .inr (1, [.ref gb_9, .int 0])), (gb_9, .inr (0, [.ref ga_9, .int 0])), (ga_9, .inl (cB, 64, .inl (fun _ => 0))), (q_9, .inr (1, [.ref qb_9, .int 0])), (qb_9, .inr (0, [.ref qa_9, .int 0])), (qa_9, .inl (cB, 64, .inl (fun _ => 0))), (ki_9, .inl (cI, 10, .inl (fun _ => 0))), (pl_9, .inl (cI, 10, .inl (fun _ => 0))), (en_9, .inl (cI, 10, .inl (fun _ => 0))), (q16, .inr (3, [.ref va_20, .ref vb_20, .int 0])), (va_20, .inl (cI, 48, .inl (fun _ => 0))), (vb_20, .inl (cI, 48, .inl (fun _ => 0))), (q27, .inr (5, [.ref rp_31])), (rp_31, .inl (cI, 32, .inl (fun _ => 0))), (q38, .inr (4, [.null, .int 0, .int 0, .int 0]))] := hD
  refine W.widen (k := 19) (n := 378) (by omega) (by omega) ?_
  refine lv_dup hx hb d_Ma_init_41 rfl ?_
  have hC : Cut [(h, .inr (6, [.ref q5, .ref q16, .ref q27, .null, .int 0, .int 0, .int 0, .int 0, .int 0, .int 0, .int 0])), (q5, .inr (2, [.ref p_9, .ref g_9, .ref q_9, .ref ki_9, .ref pl_9, .ref en_9, .int 0, .int 0])), (p_9, .inr (1, [.ref pb_9, .int 0])), (pb_9, .inr (0, [.ref pa_9, .int 0])), (pa_9, .inl (cB, 64, .inl (fun _ => 0))), (g_9, .inr (1, [.ref gb_9, .int 0])), (gb_9, .inr (0, [.ref ga_9, .int 0])), (ga_9, .inl (cB, 64, .inl (fun _ => 0))), (q_9, .inr (1, [.ref qb_9, .int 0])), (qb_9, .inr (0, [.ref qa_9, .int 0])), (qa_9, .inl (cB, 64, .inl (fun _ => 0))), (ki_9, .inl (cI, 10, .inl (fun _ => 0))), (pl_9, .inl (cI, 10, .inl (fun _ => 0))), (en_9, .inl (cI, 10, .inl (fun _ => 0))), (q16, .inr (3, [.ref va_20, .ref vb_20, .int 0])), (va_20, .inl (cI, 48, .inl (fun _ => 0))), (vb_20, .inl (cI, 48, .inl (fun _ => 0))), (q27, .inr (5, [.ref rp_31])), (rp_31, .inl (cI, 32, .inl (fun _ => 0))), (q38, .inr (4, [.null, .int 0, .int 0, .int 0]))] [(q38, .inr (4, [.null, .int 0, .int 0, .int 0]))] [(h, .inr (6, [.ref q5, .ref q16, .ref q27, .null, .int 0, .int 0, .int 0, .int 0, .int 0, .int 0, .int 0])), (q5, .inr (2, [.ref p_9, .ref g_9, .ref q_9, .ref ki_9, .ref pl_9, .ref en_9, .int 0, .int 0])), (p_9, .inr (1, [.ref pb_9, .int 0])), (pb_9, .inr (0, [.ref pa_9, .int 0])), (pa_9, .inl (cB, 64, .inl (fun _ => 0))), (g_9, .inr (1, [.ref gb_9, .int 0])), (gb_9, .inr (0, [.ref ga_9, .int 0])), (ga_9, .inl (cB, 64, .inl (fun _ => 0))), (q_9, .inr (1, [.ref qb_9, .int 0])), (qb_9, .inr (0, [.ref qa_9, .int 0])), (qa_9, .inl (cB, 64, .inl (fun _ => 0))), (ki_9, .inl (cI, 10, .inl (fun _ => 0))), (pl_9, .inl (cI, 10, .inl (fun _ => 0))), (en_9, .inl (cI, 10, .inl (fun _ => 0))), (q16, .inr (3, [.ref va_20, .ref vb_20, .int 0])), (va_20, .inl (cI, 48, .inl (fun _ => 0))), (vb_20, .inl (cI, 48, .inl (fun _ => 0))), (q27, .inr (5, [.ref rp_31])), (rp_31, .inl (cI, 32, .inl (fun _ => 0)))] [19] [0, 1, 2, 3, 4, 5, 6, 7, 8, 9, 10, 11, 12, 13, 14, 15, 16, 17, 18] := ⟨rfl, rfl, rfl, rfl, by decide⟩
  refine goV (trIN (As := []) (rest := [.ref q38, .ref h]) ⟨hx, hb, hml, hown, hts⟩ gd_good (c_Ou_init l D cB cI cJ q38) cal_Ou_init mn_Ma_34 ⟨Nat.le_of_ble_eq_true rfl, Nat.le_of_ble_eq_true rfl⟩ hZ hP hD hC rfl hl.1 rfl (Nat.le_of_ble_eq_true rfl) d_Ma_init_42 ⟨Nat.le_of_ble_eq_true rfl, Nat.le_of_ble_eq_true rfl⟩) hZ hP hD hS hC (fun w1 k_42 n_42 H locs hq hP hD hS => ?_)
  obtain ⟨ro_42, rfl, rfl, rfl⟩ := hq
  have hP : va_P D classes [(h, .inr (6, [.ref q5, .ref q16, .ref q27, .null, .int 0, .int 0, .int 0, .int 0, .int 0, .int 0, .int 0])), (q5, .inr (2, [.ref p_9, .ref g_9, .ref q_9, .ref ki_9, .ref pl_9, .ref en_9, .int 0, .int 0])), (p_9, .inr (1, [.ref pb_9, .int 0])), (pb_9, .inr (0, [.ref pa_9, .int 0])), (pa_9, .inl (cB, 64, .inl (fun _ => 0))), (g_9, .inr (1, [.ref gb_9, .int 0])), (gb_9, .inr (0, [.ref ga_9, .int 0])), (ga_9, .inl (cB, 64, .inl (fun _ => 0))), (q_9, .inr (1, [.ref qb_9, .int 0])), (qb_9, .inr (0, [.ref qa_9, .int 0])), (qa_9, .inl (cB, 64, .inl (fun _ => 0))), (ki_9, .inl (cI, 10, .inl (fun _ => 0))), (pl_9, .inl (cI, 10, .inl (fun _ => 0))), (en_9, .inl (cI, 10, .inl (fun _ => 0))), (q16, .inr (3, [.ref va_20, .ref vb_20, .int 0])), (va_20, .inl (cI, 48, .inl (fun _ => 0))), (vb_20, .inl (cI, 48, .inl (fun _ => 0))), (q27, .inr (5, [.ref rp_31])), (rp_31, .inl (cI, 32, .inl (fun _ => 0))), (q38, .inr (4, [.ref ro_42, .int 0, .int 0, .int 0])), (ro_42, .inl (cI, 336, .inl (fun _ => 0)))] H := hP
  have hD : va_D A_ [(h, .inr (6, [.ref q5, .ref q16, .ref q27, .null, .int 0, .int 0, .int 0, .int 0, .int 0, .int 0, .int 0])), (q5, .inr (2, [.ref p_9, .ref g_9, .ref q_9, .ref ki_9, .ref pl_9, .ref en_9, .int 0, .int 0])), (p_9, .inr (1, [.ref pb_9, .int 0])), (pb_9, .inr (0, [.ref pa_9, .int 0])), (pa_9, .inl (cB, 64, .inl (fun _ => 0))), (g_9, .inr (1, [.ref gb_9, .int 0])), (gb_9, .inr (0, [.ref ga_9, .int 0])), (ga_9, .inl (cB, 64, .inl (fun _ => 0))), (q_9, .inr (1, [.ref qb_9, .int 0])), (qb_9, .inr (0, [.ref qa_9, .int 0])), (qa_9, .inl (cB, 64, .inl (fun _ => 0))), (ki_9, .inl (cI, 10, .inl (fun _ => 0))), (pl_9, .inl (cI, 10, .inl (fun _ => 0))), (en_9, .inl (cI, 10, .inl (fun _ => 0))), (q16, .inr (3, [.ref va_20, .ref vb_20, .int 0])), (va_20, .inl (cI, 48, .inl (fun _ => 0))), (vb_20, .inl (cI, 48, .inl (fun _ => 0))), (q27, .inr (5, [.ref rp_31])), (rp_31, .inl (cI, 32, .inl (fun _ => 0))), (q38, .inr (4, [.ref ro_42, .int 0, .int 0, .int 0])), (ro_42, .inl (cI, 336, .inl (fun _ => 0)))] := hD
  refine va_putF (D := D) (ci := 6) (v := .ref q38) (ty := .object "CharOutlines$Outline") (C := R_Ma) (T := F_Ma) (N := 11) hx hb hts i_Ma t_Ma t_Ma_ok n_Ma hown hZ.1 hP hD hS 0 rfl rfl 3 (by decide) (hts _ fl_Ma_35) (fun _ h9 => h9) rfl hnm rfl (by decide +kernel) rfl rfl (Nat.le_of_ble_eq_true rfl) d_Ma_init_45 (fun H locs hP hD hS => ?_)
  have hP : va_P D classes [(h, .inr (6, [.ref q5, .ref q16, .ref q27, .ref q38, .int 0, .int 0, .int 0, .int 0, .int 0, .int 0, .int 0])), (q5, .inr (2, [.ref p_9, .ref g_9, .ref q_9, .ref ki_9, .ref pl_9, .ref en_9, .int 0, .int 0])), (p_9, .inr (1, [.ref pb_9, .int 0])), (pb_9, .inr (0, [.ref pa_9, .int 0])), (pa_9, .inl (cB, 64, .inl (fun _ => 0))), (g_9, .inr (1, [.ref gb_9, .int 0])), (gb_9, .inr (0, [.ref ga_9, .int 0])), (ga_9, .inl (cB, 64, .inl (fun _ => 0))), (q_9, .inr (1, [.ref qb_9, .int 0])), (qb_9, .inr (0, [.ref qa_9, .int 0])), (qa_9, .inl (cB, 64, .inl (fun _ => 0))), (ki_9, .inl (cI, 10, .inl (fun _ => 0))), (pl_9, .inl (cI, 10, .inl (fun _ => 0))), (en_9, .inl (cI, 10, .inl (fun _ => 0))), (q16, .inr (3, [.ref va_20, .ref vb_20, .int 0])), (va_20, .inl (cI, 48, .inl (fun _ => 0))), (vb_20, .inl (cI, 48, .inl (fun _ => 0))), (q27, .inr (5, [.ref rp_31])), (rp_31, .inl (cI, 32, .inl (fun _ => 0))), (q38, .inr (4, [.ref ro_42, .int 0, .int 0, .int 0])), (ro_42, .inl (cI, 336, .inl (fun _ => 0)))] H := hP
  have hD : va_D A_ [(h, .inr (6, [.ref q5, .ref q16, .ref q27, .ref q38, .int 0, .int 0, .int 0, .int 0, .int 0, .int 0, .int 0])), (q5, .inr (2, [.ref p_9, .ref g_9, .ref q_9, .ref ki_9, .ref pl_9, .ref en_9, .int 0, .int 0])), (p_9, .inr (1, [.ref pb_9, .int 0])), (pb_9, .inr (0, [.ref pa_9, .int 0])), (pa_9, .inl (cB, 64, .inl (fun _ => 0))), (g_9, .inr (1, [.ref gb_9, .int 0])), (gb_9, .inr (0, [.ref ga_9, .int 0])), (ga_9, .inl (cB, 64, .inl (fun _ => 0))), (q_9, .inr (1, [.ref qb_9, .int 0])), (qb_9, .inr (0, [.ref qa_9, .int 0])), (qa_9, .inl (cB, 64, .inl (fun _ => 0))), (ki_9, .inl (cI, 10, .inl (fun _ => 0))), (pl_9, .inl (cI, 10, .inl (fun _ => 0))), (en_9, .inl (cI, 10, .inl (fun _ => 0))), (q16, .inr (3, [.ref va_20, .ref vb_20, .int 0])), (va_20, .inl (cI, 48, .inl (fun _ => 0))), (vb_20, .inl (cI, 48, .inl (fun _ => 0))), (q27, .inr (5, [.ref rp_31])), (rp_31, .inl (cI, 32, .inl (fun _ => 0))), (q38, .inr (4, [.ref ro_42, .int 0, .int 0, .int 0])), (ro_42, .inl (cI, 336, .inl (fun _ => 0)))] := hD
  exact t_vret hx hb hr hlk d_Ma_init_48 (hP.subm (ws' := [(h, .inr (6, [.ref q5, .ref q16, .ref q27, .ref q38, .int 0, .int 0, .int 0, .int 0, .int 0, .int 0, .int 0])), (q5, .inr (2, [.ref p_9, .ref g_9, .ref q_9, .ref ki_9, .ref pl_9, .ref en_9, .int 0, .int 0])), (p_9, .inr (1, [.ref pb_9, .int 0])), (pb_9, .inr (0, [.ref pa_9, .int 0])), (pa_9, .inl (cB, 64, .inl (fun _ => 0))), (g_9, .inr (1, [.ref gb_9, .int 0])), (gb_9, .inr (0, [.ref ga_9, .int 0])), (ga_9, .inl (cB, 64, .inl (fun _ => 0))), (q_9, .inr (1, [.ref qb_9, .int 0])), (qb_9, .inr (0, [.ref qa_9, .int 0])), (qa_9, .inl (cB, 64, .inl (fun _ => 0))), (ki_9, .inl (cI, 10, .inl (fun _ => 0))), (pl_9, .inl (cI, 10, .inl (fun _ => 0))), (en_9, .inl (cI, 10, .inl (fun _ => 0))), (q16, .inr (3, [.ref va_20, .ref vb_20, .int 0])), (va_20, .inl (cI, 48, .inl (fun _ => 0))), (vb_20, .inl (cI, 48, .inl (fun _ => 0))), (q27, .inr (5, [.ref rp_31])), (rp_31, .inl (cI, 32, .inl (fun _ => 0))), (q38, .inr (4, [.ref ro_42, .int 0, .int 0, .int 0])), (ro_42, .inl (cI, 336, .inl (fun _ => 0)))]) [0, 1, 2, 3, 4, 5, 6, 7, 8, 9, 10, 11, 12, 13, 14, 15, 16, 17, 18, 19, 20] rfl) (hD.sub (ws' := [(h, .inr (6, [.ref q5, .ref q16, .ref q27, .ref q38, .int 0, .int 0, .int 0, .int 0, .int 0, .int 0, .int 0])), (q5, .inr (2, [.ref p_9, .ref g_9, .ref q_9, .ref ki_9, .ref pl_9, .ref en_9, .int 0, .int 0])), (p_9, .inr (1, [.ref pb_9, .int 0])), (pb_9, .inr (0, [.ref pa_9, .int 0])), (pa_9, .inl (cB, 64, .inl (fun _ => 0))), (g_9, .inr (1, [.ref gb_9, .int 0])), (gb_9, .inr (0, [.ref ga_9, .int 0])), (ga_9, .inl (cB, 64, .inl (fun _ => 0))), (q_9, .inr (1, [.ref qb_9, .int 0])), (qb_9, .inr (0, [.ref qa_9, .int 0])), (qa_9, .inl (cB, 64, .inl (fun _ => 0))), (ki_9, .inl (cI, 10, .inl (fun _ => 0))), (pl_9, .inl (cI, 10, .inl (fun _ => 0))), (en_9, .inl (cI, 10, .inl (fun _ => 0))), (q16, .inr (3, [.ref va_20, .ref vb_20, .int 0])), (va_20, .inl (cI, 48, .inl (fun _ => 0))), (vb_20, .inl (cI, 48, .inl (fun _ => 0))), (q27, .inr (5, [.ref rp_31])), (rp_31, .inl (cI, 32, .inl (fun _ => 0))), (q38, .inr (4, [.ref ro_42, .int 0, .int 0, .int 0])), (ro_42, .inl (cI, 336, .inl (fun _ => 0)))]) [0, 1, 2, 3, 4, 5, 6, 7, 8, 9, 10, 11, 12, 13, 14, 15, 16, 17, 18, 19, 20] rfl rfl) hS ⟨rfl, q5, p_9, pb_9, pa_9, g_9, gb_9, ga_9, q_9, qb_9, qa_9, ki_9, pl_9, en_9, q16, va_20, vb_20, q27, rp_31, q38, ro_42, rfl, rfl, rfl⟩
set_option maxHeartbeats 1000000 in
set_option maxRecDepth 100000 in
theorem c_CO_init (l : Launch) (D : va_G) (cB cI cJ : ClassId) (h : Nat) : Tr l D classes (TY cB cI cJ) gd_tbl nx_tbl y_CO_init b_CO_init 1 none ({ frames := 5, cells := 23, slots := 791, locals := 92 }) [.ref h] [(h, .inr (7, [.null, .null]))] (pV (fun w k n => ∃ rw ra ma ms p pb pa g gb ga q qb qa ki pl en mv va vb mr rp mo ro : Nat, w = [(h, .inr (7, [.ref rw, .ref ma])), (rw, .inr (0, [.ref ra, .int 0])), (ra, .inl (cB, 64, .inl (fun _ => 0))), (ma, .inr (6, [.ref ms, .ref mv, .ref mr, .ref mo, .int 0, .int 0, .int 0, .int 0, .int 0, .int 0, .int 0])), (ms, .inr (2, [.ref p, .ref g, .ref q, .ref ki, .ref pl, .ref en, .int 0, .int 0])), (p, .inr (1, [.ref pb, .int 0])), (pb, .inr (0, [.ref pa, .int 0])), (pa, .inl (cB, 64, .inl (fun _ => 0))), (g, .inr (1, [.ref gb, .int 0])), (gb, .inr (0, [.ref ga, .int 0])), (ga, .inl (cB, 64, .inl (fun _ => 0))), (q, .inr (1, [.ref qb, .int 0])), (qb, .inr (0, [.ref qa, .int 0])), (qa, .inl (cB, 64, .inl (fun _ => 0))), (ki, .inl (cI, 10, .inl (fun _ => 0))), (pl, .inl (cI, 10, .inl (fun _ => 0))), (en, .inl (cI, 10, .inl (fun _ => 0))), (mv, .inr (3, [.ref va, .ref vb, .int 0])), (va, .inl (cI, 48, .inl (fun _ => 0))), (vb, .inl (cI, 48, .inl (fun _ => 0))), (mr, .inr (5, [.ref rp])), (rp, .inl (cI, 32, .inl (fun _ => 0))), (mo, .inr (4, [.ref ro, .int 0, .int 0, .int 0])), (ro, .inl (cI, 336, .inl (fun _ => 0)))] ∧ k = 23 ∧ n = 791)) := by
  refine Tr.intro (by decide +kernel) nx_ok (Nat.le_of_ble_eq_true rfl) ?_
  intro p_ e_ s_ m_ args_ below_ meth_ c_ A_ ls hx hb hml hown hts hr hlk hnm hZ hP hD hS hl
  have hl : lv_has ls 1 [(0, .ref h)] := hl
  refine lv_aload_n hx hb d_CO_init_0 rfl (lv_at hl 0 rfl) ?_
  refine W.objInit hx hb hown (hts _ ml_CO_1) (hts _ im_objectInit) (hts _ co_objectInit) rfl (by rw [hml]; exact hl.1) rfl d_CO_init_1 (Nat.le_of_ble_eq_true rfl) (Nat.le_of_ble_eq_true rfl) ?_
  refine W.eq (g2 := F0 m_ 4 ls []) rfl ?_
  refine lv_aload_n hx hb d_CO_init_4 rfl (lv_at hl 0 rfl) ?_
  refine va_new (ci := 0) (fs := [.null, .int 0]) (C := R_By) (T := F_By) (N := 2) hx hb hts i_By t_By t_By_ok hown (hts _ cl_CO_7) (hts _ in_By) (hts _ ini_By) hZ.1 hP hD hS hZ.2.2.2 rfl (fun j hj => by rcases (show j = 0 ∨ j = 1 by omega) with rfl | rfl <;> rfl) (Nat.le_of_ble_eq_true rfl) (Nat.le_of_ble_eq_true rfl) d_CO_init_5 (fun q5 H hP hD hS => ?_)
  have hP : va_P D classes [(h, .inr (7, [.null, .null])), (q5, .inr (0, [.null, .int 0]))] H := hP
  have hD : va_D A_ [(h, .inr (7, [.null, .null])), (q5, .inr (0, [.null, .int 0]))] := hD
  refine W.widen (k := 1) (n := 2) (by omega) (by omega) ?_
  refine lv_dup hx hb d_CO_init_8 rfl ?_
  have hC : Cut [(h, .inr (7, [.null, .null])), (q5, .inr (0, [.null, .int 0]))] [(q5, .inr (0, [.null, .int 0]))] [(h, .inr (7, [.null, .null]))] [1] [0] := ⟨rfl, rfl, rfl, rfl, by decide⟩
  refine goV (trIN (As := []) (rest := [.ref q5, .ref h]) ⟨hx, hb, hml, hown, hts⟩ gd_good (c_By_init l D cB cI cJ q5) cal_By_init mn_CO_9 ⟨Nat.le_of_ble_eq_true rfl, Nat.le_of_ble_eq_true rfl⟩ hZ hP hD hC rfl hl.1 rfl (Nat.le_of_ble_eq_true rfl) d_CO_init_9 ⟨Nat.le_of_ble_eq_true rfl, Nat.le_of_ble_eq_true rfl⟩) hZ hP hD hS hC (fun w1 k_9 n_9 H locs hq hP hD hS => ?_)
  obtain ⟨a_9, rfl, rfl, rfl⟩ := hq
  have hP : va_P D classes [(h, .inr (7, [.null, .null])), (q5, .inr (0, [.ref a_9, .int 0])), (a_9, .inl (cB, 64, .inl (fun _ => 0)))] H := hP
  have hD : va_D A_ [(h, .inr (7, [.null, .null])), (q5, .inr (0, [.ref a_9, .int 0])), (a_9, .inl (cB, 64, .inl (fun _ => 0)))] := hD
  refine va_putF (D := D) (ci := 7) (v := .ref q5) (ty := .object "CharOutlines$Bytes") (C := R_CO) (T := F_CO) (N := 2) hx hb hts i_CO t_CO t_CO_ok n_CO hown hZ.1 hP hD hS 0 rfl rfl 0 (by decide) (hts _ fl_CO_10) (fun _ h9 => h9) rfl hnm rfl (by decide +kernel) rfl rfl (Nat.le_of_ble_eq_true rfl) d_CO_init_12 (fun H locs hP hD hS => ?_)
  have hP : va_P D classes [(h, .inr (7, [.ref q5, .null])), (q5, .inr (0, [.ref a_9, .int 0])), (a_9, .inl (cB, 64, .inl (fun _ => 0)))] H := hP
  have hD : va_D A_ [(h, .inr (7, [.ref q5, .null])), (q5, .inr (0, [.ref a_9, .int 0])), (a_9, .inl (cB, 64, .inl (fun _ => 0)))] := hD
  refine lv_aload_n hx hb d_CO_init_15 rfl (lv_at hl 0 rfl) ?_
  refine va_new (ci := 6) (fs := [.null, .null, .null, .null, .int 0, .int 0, .int 0, .int 0, .int 0, .int 0, .int 0]) (C := R_Ma) (T := F_Ma) (N := 11) hx hb hts i_Ma t_Ma t_Ma_ok hown (hts _ cl_CO_16) (hts _ in_Ma) (hts _ ini_Ma) hZ.1 hP hD hS hZ.2.2.2 rfl (fun j hj => by rcases (show j = 0 ∨ j = 1 ∨ j = 2 ∨ j = 3 ∨ j = 4 ∨ j = 5 ∨ j = 6 ∨ j = 7 ∨ j = 8 ∨ j = 9 ∨ j = 10 by omega) with rfl | rfl | rfl | rfl | rfl | rfl | rfl | rfl | rfl | rfl | rfl <;> rfl) (Nat.le_of_ble_eq_true rfl) (Nat.le_of_ble_eq_true rfl) d_CO_init_16 (fun q16 H hP hD hS => ?_)
  have hP : va_P D classes [(h, .inr (7, [.ref q5, .null])), (q5, .inr (0, [.ref a_9, .int 0])), (a_9, .inl (cB, 64, .inl (fun _ => 0))), (q16, .inr (6, [.null, .null, .null, .null, .int 0, .int 0, .int 0, .int 0, .int 0, .int 0, .int 0]))] H := hP
  have hD : va_D A_ [(h, .inr (7, [.ref q5, .null])), (q5, .inr (0, [.ref a_9, .int 0])), (a_9, .inl (cB, 64, .inl (fun _ => 0))), (q16, .inr (6, [.null, .null, .null, .null, .int 0, .int 0, .int 0, .int 0, .int 0, .int 0, .int 0]))] := hD
  refine W.widen (k := 3) (n := 77) (by omega) (by omega) ?_
  refine lv_dup hx hb d_CO_init_19 rfl ?_
  have hC : Cut [(h, .inr (7, [.ref q5, .null])), (q5, .inr (0, [.ref a_9, .int 0])), (a_9, .inl (cB, 64, .inl (fun _ => 0))), (q16, .inr (6, [.null, .null, .null, .null, .int 0, .int 0, .int 0, .int 0, .int 0, .int 0, .int 0]))] [(q16, .inr (6, [.null, .null, .null, .null, .int 0, .int 0, .int 0, .int 0, .int 0, .int 0, .int 0]))] [(h, .inr (7, [.ref q5, .null])), (q5, .inr (0, [.ref a_9, .int 0])), (a_9, .inl (cB, 64, .inl (fun _ => 0)))] [3] [0, 1, 2] := ⟨rfl, rfl, rfl, rfl, by decide⟩
  refine goV (trIN (As := []) (rest := [.ref q16, .ref h]) ⟨hx, hb, hml, hown, hts⟩ gd_good (c_Ma_init l D cB cI cJ q16) cal_Ma_init mn_CO_18 ⟨Nat.le_of_ble_eq_true rfl, Nat.le_of_ble_eq_true rfl⟩ hZ hP hD hC rfl hl.1 rfl (Nat.le_of_ble_eq_true rfl) d_CO_init_20 ⟨Nat.le_of_ble_eq_true rfl, Nat.le_of_ble_eq_true rfl⟩) hZ hP hD hS hC (fun w1 k_20 n_20 H locs hq hP hD hS => ?_)
  obtain ⟨ms_20, p_20, pb_20, pa_20, g_20, gb_20, ga_20, q_20, qb_20, qa_20, ki_20, pl_20, en_20, mv_20, va_20, vb_20, mr_20, rp_20, mo_20, ro_20, rfl, rfl, rfl⟩ := hq
  have hP : va_P D classes [(h, .inr (7, [.ref q5, .null])), (q5, .inr (0, [.ref a_9, .int 0])), (a_9, .inl (cB, 64, .inl (fun _ => 0))), (q16, .inr (6, [.ref ms_20, .ref mv_20, .ref mr_20, .ref mo_20, .int 0, .int 0, .int 0, .int 0, .int 0, .int 0, .int 0])), (ms_20, .inr (2, [.ref p_20, .ref g_20, .ref q_20, .ref ki_20, .ref pl_20, .ref en_20, .int 0, .int 0])), (p_20, .inr (1, [.ref pb_20, .int 0])), (pb_20, .inr (0, [.ref pa_20, .int 0])), (pa_20, .inl (cB, 64, .inl (fun _ => 0))), (g_20, .inr (1, [.ref gb_20, .int 0])), (gb_20, .inr (0, [.ref ga_20, .int 0])), (ga_20, .inl (cB, 64, .inl (fun _ => 0))), (q_20, .inr (1, [.ref qb_20, .int 0])), (qb_20, .inr (0, [.ref qa_20, .int 0])), (qa_20, .inl (cB, 64, .inl (fun _ => 0))), (ki_20, .inl (cI, 10, .inl (fun _ => 0))), (pl_20, .inl (cI, 10, .inl (fun _ => 0))), (en_20, .inl (cI, 10, .inl (fun _ => 0))), (mv_20, .inr (3, [.ref va_20, .ref vb_20, .int 0])), (va_20, .inl (cI, 48, .inl (fun _ => 0))), (vb_20, .inl (cI, 48, .inl (fun _ => 0))), (mr_20, .inr (5, [.ref rp_20])), (rp_20, .inl (cI, 32, .inl (fun _ => 0))), (mo_20, .inr (4, [.ref ro_20, .int 0, .int 0, .int 0])), (ro_20, .inl (cI, 336, .inl (fun _ => 0)))] H := hP
  have hD : va_D A_ [(h, .inr (7, [.ref q5, .null])), (q5, .inr (0, [.ref a_9, .int 0])), (a_9, .inl (cB, 64, .inl (fun _ => 0))), (q16, .inr (6, [.ref ms_20, .ref mv_20, .ref mr_20, .ref mo_20, .int 0, .int 0, .int 0, .int 0, .int 0, .int 0, .int 0])), (ms_20, .inr (2, [.ref p_20, .ref g_20, .ref q_20, .ref ki_20, .ref pl_20, .ref en_20, .int 0, .int 0])), (p_20, .inr (1, [.ref pb_20, .int 0])), (pb_20, .inr (0, [.ref pa_20, .int 0])), (pa_20, .inl (cB, 64, .inl (fun _ => 0))), (g_20, .inr (1, [.ref gb_20, .int 0])), (gb_20, .inr (0, [.ref ga_20, .int 0])), (ga_20, .inl (cB, 64, .inl (fun _ => 0))), (q_20, .inr (1, [.ref qb_20, .int 0])), (qb_20, .inr (0, [.ref qa_20, .int 0])), (qa_20, .inl (cB, 64, .inl (fun _ => 0))), (ki_20, .inl (cI, 10, .inl (fun _ => 0))), (pl_20, .inl (cI, 10, .inl (fun _ => 0))), (en_20, .inl (cI, 10, .inl (fun _ => 0))), (mv_20, .inr (3, [.ref va_20, .ref vb_20, .int 0])), (va_20, .inl (cI, 48, .inl (fun _ => 0))), (vb_20, .inl (cI, 48, .inl (fun _ => 0))), (mr_20, .inr (5, [.ref rp_20])), (rp_20, .inl (cI, 32, .inl (fun _ => 0))), (mo_20, .inr (4, [.ref ro_20, .int 0, .int 0, .int 0])), (ro_20, .inl (cI, 336, .inl (fun _ => 0)))] := hD
  refine va_putF (D := D) (ci := 7) (v := .ref q16) (ty := .object "CharOutlines$Machine") (C := R_CO) (T := F_CO) (N := 2) hx hb hts i_CO t_CO t_CO_ok n_CO hown hZ.1 hP hD hS 0 rfl rfl 1 (by decide) (hts _ fl_CO_19) (fun _ h9 => h9) rfl hnm rfl (by decide +kernel) rfl rfl (Nat.le_of_ble_eq_true rfl) d_CO_init_23 (fun H locs hP hD hS => ?_)
  have hP : va_P D classes [(h, .inr (7, [.ref q5, .ref q16])), (q5, .inr (0, [.ref a_9, .int 0])), (a_9, .inl (cB, 64, .inl (fun _ => 0))), (q16, .inr (6, [.ref ms_20, .ref mv_20, .ref mr_20, .ref mo_20, .int 0, .int 0, .int 0, .int 0, .int 0, .int 0, .int 0])), (ms_20, .inr (2, [.ref p_20, .ref g_20, .ref q_20, .ref ki_20, .ref pl_20, .ref en_20, .int 0, .int 0])), (p_20, .inr (1, [.ref pb_20, .int 0])), (pb_20, .inr (0, [.ref pa_20, .int 0])), (pa_20, .inl (cB, 64, .inl (fun _ => 0))), (g_20, .inr (1, [.ref gb_20, .int 0])), (gb_20, .inr (0, [.ref ga_20, .int 0])), (ga_20, .inl (cB, 64, .inl (fun _ => 0))), (q_20, .inr (1, [.ref qb_20, .int 0])), (qb_20, .inr (0, [.ref qa_20, .int 0])), (qa_20, .inl (cB, 64, .inl (fun _ => 0))), (ki_20, .inl (cI, 10, .inl (fun _ => 0))), (pl_20, .inl (cI, 10, .inl (fun _ => 0))), (en_20, .inl (cI, 10, .inl (fun _ => 0))), (mv_20, .inr (3, [.ref va_20, .ref vb_20, .int 0])), (va_20, .inl (cI, 48, .inl (fun _ => 0))), (vb_20, .inl (cI, 48, .inl (fun _ => 0))), (mr_20, .inr (5, [.ref rp_20])), (rp_20, .inl (cI, 32, .inl (fun _ => 0))), (mo_20, .inr (4, [.ref ro_20, .int 0, .int 0, .int 0])), (ro_20, .inl (cI, 336, .inl (fun _ => 0)))] H := hP
  have hD : va_D A_ [(h, .inr (7, [.ref q5, .ref q16])), (q5, .inr (0, [.ref a_9, .int 0])), (a_9, .inl (cB, 64, .inl (fun _ => 0))), (q16, .inr (6, [.ref ms_20, .ref mv_20, .ref mr_20, .ref mo_20, .int 0, .int 0, .int 0, .int 0, .int 0, .int 0, .int 0])), (ms_20, .inr (2, [.ref p_20, .ref g_20, .ref q_20, .ref ki_20, .ref pl_20, .ref en_20, .int 0, .int 0])), (p_20, .inr (1, [.ref pb_20, .int 0])), (pb_20, .inr (0, [.ref pa_20, .int 0])), (pa_20, .inl (cB, 64, .inl (fun _ => 0))), (g_20, .inr (1, [.ref gb_20, .int 0])), (gb_20, .inr (0, [.ref ga_20, .int 0])), (ga_20, .inl (cB, 64, .inl (fun _ => 0))), (q_20, .inr (1, [.ref qb_20, .int 0])), (qb_20, .inr (0, [.ref qa_20, .int 0])), (qa_20, .inl (cB, 64, .inl (fun _ => 0))), (ki_20, .inl (cI, 10, .inl (fun _ => 0))), (pl_20, .inl (cI, 10, .inl (fun _ => 0))), (en_20, .inl (cI, 10, .inl (fun _ => 0))), (mv_20, .inr (3, [.ref va_20, .ref vb_20, .int 0])), (va_20, .inl (cI, 48, .inl (fun _ => 0))), (vb_20, .inl (cI, 48, .inl (fun _ => 0))), (mr_20, .inr (5, [.ref rp_20])), (rp_20, .inl (cI, 32, .inl (fun _ => 0))), (mo_20, .inr (4, [.ref ro_20, .int 0, .int 0, .int 0])), (ro_20, .inl (cI, 336, .inl (fun _ => 0)))] := hD
  exact t_vret hx hb hr hlk d_CO_init_26 (hP.subm (ws' := [(h, .inr (7, [.ref q5, .ref q16])), (q5, .inr (0, [.ref a_9, .int 0])), (a_9, .inl (cB, 64, .inl (fun _ => 0))), (q16, .inr (6, [.ref ms_20, .ref mv_20, .ref mr_20, .ref mo_20, .int 0, .int 0, .int 0, .int 0, .int 0, .int 0, .int 0])), (ms_20, .inr (2, [.ref p_20, .ref g_20, .ref q_20, .ref ki_20, .ref pl_20, .ref en_20, .int 0, .int 0])), (p_20, .inr (1, [.ref pb_20, .int 0])), (pb_20, .inr (0, [.ref pa_20, .int 0])), (pa_20, .inl (cB, 64, .inl (fun _ => 0))), (g_20, .inr (1, [.ref gb_20, .int 0])), (gb_20, .inr (0, [.ref ga_20, .int 0])), (ga_20, .inl (cB, 64, .inl (fun _ => 0))), (q_20, .inr (1, [.ref qb_20, .int 0])), (qb_20, .inr (0, [.ref qa_20, .int 0])), (qa_20, .inl (cB, 64, .inl (fun _ => 0))), (ki_20, .inl (cI, 10, .inl (fun _ => 0))), (pl_20, .inl (cI, 10, .inl (fun _ => 0))), (en_20, .inl (cI, 10, .inl (fun _ => 0))), (mv_20, .inr (3, [.ref va_20, .ref vb_20, .int 0])), (va_20, .inl (cI, 48, .inl (fun _ => 0))), (vb_20, .inl (cI, 48, .inl (fun _ => 0))), (mr_20, .inr (5, [.ref rp_20])), (rp_20, .inl (cI, 32, .inl (fun _ => 0))), (mo_20, .inr (4, [.ref ro_20, .int 0, .int 0, .int 0])), (ro_20, .inl (cI, 336, .inl (fun _ => 0)))]) [0, 1, 2, 3, 4, 5, 6, 7, 8, 9, 10, 11, 12, 13, 14, 15, 16, 17, 18, 19, 20, 21, 22, 23] rfl) (hD.sub (ws' := [(h, .inr (7, [.ref q5, .ref q16])), (q5, .inr (0, [.ref a_9, .int 0])), (a_9, .inl (cB, 64, .inl (fun _ => 0))), (q16, .inr (6, [.ref ms_20, .ref mv_20, .ref mr_20, .ref mo_20, .int 0, .int 0, .int 0, .int 0, .int 0, .int 0, .int 0])), (ms_20, .inr (2, [.ref p_20, .ref g_20, .ref q_20, .ref ki_20, .ref pl_20, .ref en_20, .int 0, .int 0])), (p_20, .inr (1, [.ref pb_20, .int 0])), (pb_20, .inr (0, [.ref pa_20, .int 0])), (pa_20, .inl (cB, 64, .inl (fun _ => 0))), (g_20, .inr (1, [.ref gb_20, .int 0])), (gb_20, .inr (0, [.ref ga_20, .int 0])), (ga_20, .inl (cB, 64, .inl (fun _ => 0))), (q_20, .inr (1, [.ref qb_20, .int 0])), (qb_20, .inr (0, [.ref qa_20, .int 0])), (qa_20, .inl (cB, 64, .inl (fun _ => 0))), (ki_20, .inl (cI, 10, .inl (fun _ => 0))), (pl_20, .inl (cI, 10, .inl (fun _ => 0))), (en_20, .inl (cI, 10, .inl (fun _ => 0))), (mv_20, .inr (3, [.ref va_20, .ref vb_20, .int 0])), (va_20, .inl (cI, 48, .inl (fun _ => 0))), (vb_20, .inl (cI, 48, .inl (fun _ => 0))), (mr_20, .inr (5, [.ref rp_20])), (rp_20, .inl (cI, 32, .inl (fun _ => 0))), (mo_20, .inr (4, [.ref ro_20, .int 0, .int 0, .int 0])), (ro_20, .inl (cI, 336, .inl (fun _ => 0)))]) [0, 1, 2, 3, 4, 5, 6, 7, 8, 9, 10, 11, 12, 13, 14, 15, 16, 17, 18, 19, 20, 21, 22, 23] rfl rfl) hS ⟨rfl, q5, a_9, q16, ms_20, p_20, pb_20, pa_20, g_20, gb_20, ga_20, q_20, qb_20, qa_20, ki_20, pl_20, en_20, mv_20, va_20, vb_20, mr_20, rp_20, mo_20, ro_20, rfl, rfl, rfl⟩
set_option maxHeartbeats 1000000 in
set_option maxRecDepth 100000 in
theorem c_Mo_init (l : Launch) (D : va_G) (cB cI cJ : ClassId) (h : Nat) : Tr l D classes (TY cB cI cJ) gd_tbl nx_tbl y_Mo_init b_Mo_init 1 none ({ frames := 1, cells := 11, slots := 121655, locals := 12 }) [.ref h] [(h, .inr (8, [.int 0, .int 0, .null, .null, .null, .null, .int 0, .null, .int 0, .null, .int 0, .int 0, .int 0, .int 0, .int 0, .int 0, .int 0, .int 0, .int 0, .int 0, .int 0, .int 0, .int 0, .null, .null, .int 0, .null, .null, .null]))] (pV (fun w k n => ∃ m_row m_shelves m_many m_widths m_mark m_shownMark m_stack m_places m_kinds m_ats m_ends : Nat, w = [(h, .inr (8, [.int 0, .int 0, .ref m_row, .ref m_shelves, .ref m_many, .ref m_widths, .int 0, .ref m_mark, .int 0, .ref m_shownMark, .int 0, .int 0, .int 0, .int 0, .int 0, .int 0, .int 0, .int 0, .int 0, .int 0, .int 0, .int 0, .int 0, .ref m_stack, .ref m_places, .int 0, .ref m_kinds, .ref m_ats, .ref m_ends])), (m_row, .inl (cI, 16384, .inl (fun _ => 0))), (m_shelves, .inl (cI, 49152, .inl (fun _ => 0))), (m_many, .inl (cI, 3, .inl (fun _ => 0))), (m_widths, .inl (cI, 3, .inl (fun _ => 0))), (m_mark, .inl (cI, 28000, .inl (fun _ => 0))), (m_shownMark, .inl (cI, 28000, .inl (fun _ => 0))), (m_stack, .inl (cI, 48, .inl (fun _ => 0))), (m_places, .inl (cI, 32, .inl (fun _ => 0))), (m_kinds, .inl (cI, 11, .inl (fun _ => 0))), (m_ats, .inl (cI, 11, .inl (fun _ => 0))), (m_ends, .inl (cI, 11, .inl (fun _ => 0)))] ∧ k = 11 ∧ n = 121655)) := by
  refine Tr.intro (by decide +kernel) nx_ok (Nat.le_of_ble_eq_true rfl) ?_
  intro p_ e_ s_ m_ args_ below_ meth_ c_ A_ ls hx hb hml hown hts hr hlk hnm hZ hP hD hS hl
  have hl : lv_has ls 1 [(0, .ref h)] := hl
  refine lv_aload_n hx hb d_Mo_init_0 rfl (lv_at hl 0 rfl) ?_
  refine W.objInit hx hb hown (hts _ ml_Mo_1) (hts _ im_objectInit) (hts _ co_objectInit) rfl (by rw [hml]; exact hl.1) rfl d_Mo_init_1 (Nat.le_of_ble_eq_true rfl) (Nat.le_of_ble_eq_true rfl) ?_
  refine W.eq (g2 := F0 m_ 4 ls []) rfl ?_
  refine lv_aload_n hx hb d_Mo_init_4 rfl (lv_at hl 0 rfl) ?_
  refine lv_sipush (v := 16384) hx hb d_Mo_init_5 (by decide) ?_
  refine t_newa (atype := .int) (a0 := (16384, .inl (fun _ => 0))) (N' := 16384) hx hb (hts _ ar_I) rfl hZ.1 hP hD hS hZ.2.2.2 1 rfl (fun _ => rfl) (by decide) (by decide) (by decide) (Nat.le_of_ble_eq_true rfl) (Nat.le_of_ble_eq_true rfl) d_Mo_init_8 (fun q8 H hP hD hS => ?_)
  have hP : va_P D classes [(h, .inr (8, [.int 0, .int 0, .null, .null, .null, .null, .int 0, .null, .int 0, .null, .int 0, .int 0, .int 0, .int 0, .int 0, .int 0, .int 0, .int 0, .int 0, .int 0, .int 0, .int 0, .int 0, .null, .null, .int 0, .null, .null, .null])), (q8, .inl (cI, 16384, .inl (fun _ => 0)))] H := hP
  have hD : va_D A_ [(h, .inr (8, [.int 0, .int 0, .null, .null, .null, .null, .int 0, .null, .int 0, .null, .int 0, .int 0, .int 0, .int 0, .int 0, .int 0, .int 0, .int 0, .int 0, .int 0, .int 0, .int 0, .int 0, .null, .null, .int 0, .null, .null, .null])), (q8, .inl (cI, 16384, .inl (fun _ => 0)))] := hD
  refine va_putF (D := D) (ci := 8) (v := .ref q8) (ty := .array .int) (C := R_Mo) (T := F_Mo) (N := 29) hx hb hts i_Mo t_Mo t_Mo_ok n_Mo hown hZ.1 hP hD hS 0 rfl rfl 2 (by decide) (hts _ fl_Mo_7) (fun _ h9 => h9) rfl hnm rfl (by decide +kernel) rfl rfl (Nat.le_of_ble_eq_true rfl) d_Mo_init_10 (fun H locs hP hD hS => ?_)
  have hP : va_P D classes [(h, .inr (8, [.int 0, .int 0, .ref q8, .null, .null, .null, .int 0, .null, .int 0, .null, .int 0, .int 0, .int 0, .int 0, .int 0, .int 0, .int 0, .int 0, .int 0, .int 0, .int 0, .int 0, .int 0, .null, .null, .int 0, .null, .null, .null])), (q8, .inl (cI, 16384, .inl (fun _ => 0)))] H := hP
  have hD : va_D A_ [(h, .inr (8, [.int 0, .int 0, .ref q8, .null, .null, .null, .int 0, .null, .int 0, .null, .int 0, .int 0, .int 0, .int 0, .int 0, .int 0, .int 0, .int 0, .int 0, .int 0, .int 0, .int 0, .int 0, .null, .null, .int 0, .null, .null, .null])), (q8, .inl (cI, 16384, .inl (fun _ => 0)))] := hD
  refine lv_aload_n hx hb d_Mo_init_13 rfl (lv_at hl 0 rfl) ?_
  refine lv_ldc (v := 49152) hx hb hown (hts _ kc_Mo_13) d_Mo_init_14 ?_
  refine t_newa (atype := .int) (a0 := (49152, .inl (fun _ => 0))) (N' := 49152) hx hb (hts _ ar_I) rfl hZ.1 hP hD hS hZ.2.2.2 1 rfl (fun _ => rfl) (by decide) (by decide) (by decide) (Nat.le_of_ble_eq_true rfl) (Nat.le_of_ble_eq_true rfl) d_Mo_init_16 (fun q16 H hP hD hS => ?_)
  have hP : va_P D classes [(h, .inr (8, [.int 0, .int 0, .ref q8, .null, .null, .null, .int 0, .null, .int 0, .null, .int 0, .int 0, .int 0, .int 0, .int 0, .int 0, .int 0, .int 0, .int 0, .int 0, .int 0, .int 0, .int 0, .null, .null, .int 0, .null, .null, .null])), (q8, .inl (cI, 16384, .inl (fun _ => 0))), (q16, .inl (cI, 49152, .inl (fun _ => 0)))] H := hP
  have hD : va_D A_ [(h, .inr (8, [.int 0, .int 0, .ref q8, .null, .null, .null, .int 0, .null, .int 0, .null, .int 0, .int 0, .int 0, .int 0, .int 0, .int 0, .int 0, .int 0, .int 0, .int 0, .int 0, .int 0, .int 0, .null, .null, .int 0, .null, .null, .null])), (q8, .inl (cI, 16384, .inl (fun _ => 0))), (q16, .inl (cI, 49152, .inl (fun _ => 0)))] := hD
  refine va_putF (D := D) (ci := 8) (v := .ref q16) (ty := .array .int) (C := R_Mo) (T := F_Mo) (N := 29) hx hb hts i_Mo t_Mo t_Mo_ok n_Mo hown hZ.1 hP hD hS 0 rfl rfl 3 (by decide) (hts _ fl_Mo_14) (fun _ h9 => h9) rfl hnm rfl (by decide +kernel) rfl rfl (Nat.le_of_ble_eq_true rfl) d_Mo_init_18 (fun H locs hP hD hS => ?_)
  have hP : va_P D classes [(h, .inr (8, [.int 0, .int 0, .ref q8, .ref q16, .null, .null, .int 0, .null, .int 0, .null, .int 0, .int 0, .int 0, .int 0, .int 0, .int 0, .int 0, .int 0, .int 0, .int 0, .int 0, .int 0, .int 0, .null, .null, .int 0, .null, .null, .null])), (q8, .inl (cI, 16384, .inl (fun _ => 0))), (q16, .inl (cI, 49152, .inl (fun _ => 0)))] H := hP
  have hD : va_D A_ [(h, .inr (8, [.int 0, .int 0, .ref q8, .ref q16, .null, .null, .int 0, .null, .int 0, .null, .int 0, .int 0, .int 0, .int 0, .int 0, .int 0, .int 0, .int 0, .int 0, .int 0, .int 0, .int 0, .int 0, .null, .null, .int 0, .null, .null, .null])), (q8, .inl (cI, 16384, .inl (fun _ => 0))), (q16, .inl (cI, 49152, .inl (fun _ => 0)))] := hD
  refine lv_aload_n hx hb d_Mo_init_21 rfl (lv_at hl 0 rfl) ?_
  refine lv_iconst (v := 3) hx hb d_Mo_init_22 (by decide) ?_
  refine t_newa (atype := .int) (a0 := (3, .inl (fun _ => 0))) (N' := 3) hx hb (hts _ ar_I) rfl hZ.1 hP hD hS hZ.2.2.2 1 rfl (fun _ => rfl) (by decide) (by decide) (by decide) (Nat.le_of_ble_eq_true rfl) (Nat.le_of_ble_eq_true rfl) d_Mo_init_23 (fun q23 H hP hD hS => ?_)
  have hP : va_P D classes [(h, .inr (8, [.int 0, .int 0, .ref q8, .ref q16, .null, .null, .int 0, .null, .int 0, .null, .int 0, .int 0, .int 0, .int 0, .int 0, .int 0, .int 0, .int 0, .int 0, .int 0, .int 0, .int 0, .int 0, .null, .null, .int 0, .null, .null, .null])), (q8, .inl (cI, 16384, .inl (fun _ => 0))), (q16, .inl (cI, 49152, .inl (fun _ => 0))), (q23, .inl (cI, 3, .inl (fun _ => 0)))] H := hP
  have hD : va_D A_ [(h, .inr (8, [.int 0, .int 0, .ref q8, .ref q16, .null, .null, .int 0, .null, .int 0, .null, .int 0, .int 0, .int 0, .int 0, .int 0, .int 0, .int 0, .int 0, .int 0, .int 0, .int 0, .int 0, .int 0, .null, .null, .int 0, .null, .null, .null])), (q8, .inl (cI, 16384, .inl (fun _ => 0))), (q16, .inl (cI, 49152, .inl (fun _ => 0))), (q23, .inl (cI, 3, .inl (fun _ => 0)))] := hD
  refine va_putF (D := D) (ci := 8) (v := .ref q23) (ty := .array .int) (C := R_Mo) (T := F_Mo) (N := 29) hx hb hts i_Mo t_Mo t_Mo_ok n_Mo hown hZ.1 hP hD hS 0 rfl rfl 4 (by decide) (hts _ fl_Mo_17) (fun _ h9 => h9) rfl hnm rfl (by decide +kernel) rfl rfl (Nat.le_of_ble_eq_true rfl) d_Mo_init_25 (fun H locs hP hD hS => ?_)
  have hP : va_P D classes [(h, .inr (8, [.int 0, .int 0, .ref q8, .ref q16, .ref q23, .null, .int 0, .null, .int 0, .null, .int 0, .int 0, .int 0, .int 0, .int 0, .int 0, .int 0, .int 0, .int 0, .int 0, .int 0, .int 0, .int 0, .null, .null, .int 0, .null, .null, .null])), (q8, .inl (cI, 16384, .inl (fun _ => 0))), (q16, .inl (cI, 49152, .inl (fun _ => 0))), (q23, .inl (cI, 3, .inl (fun _ => 0)))] H := hP
  have hD : va_D A_ [(h, .inr (8, [.int 0, .int 0, .ref q8, .ref q16, .ref q23, .null, .int 0, .null, .int 0, .null, .int 0, .int 0, .int 0, .int 0, .int 0, .int 0, .int 0, .int 0, .int 0, .int 0, .int 0, .int 0, .int 0, .null, .null, .int 0, .null, .null, .null])), (q8, .inl (cI, 16384, .inl (fun _ => 0))), (q16, .inl (cI, 49152, .inl (fun _ => 0))), (q23, .inl (cI, 3, .inl (fun _ => 0)))] := hD
  refine lv_aload_n hx hb d_Mo_init_28 rfl (lv_at hl 0 rfl) ?_
  refine lv_iconst (v := 3) hx hb d_Mo_init_29 (by decide) ?_
  refine t_newa (atype := .int) (a0 := (3, .inl (fun _ => 0))) (N' := 3) hx hb (hts _ ar_I) rfl hZ.1 hP hD hS hZ.2.2.2 1 rfl (fun _ => rfl) (by decide) (by decide) (by decide) (Nat.le_of_ble_eq_true rfl) (Nat.le_of_ble_eq_true rfl) d_Mo_init_30 (fun q30 H hP hD hS => ?_)
  have hP : va_P D classes [(h, .inr (8, [.int 0, .int 0, .ref q8, .ref q16, .ref q23, .null, .int 0, .null, .int 0, .null, .int 0, .int 0, .int 0, .int 0, .int 0, .int 0, .int 0, .int 0, .int 0, .int 0, .int 0, .int 0, .int 0, .null, .null, .int 0, .null, .null, .null])), (q8, .inl (cI, 16384, .inl (fun _ => 0))), (q16, .inl (cI, 49152, .inl (fun _ => 0))), (q23, .inl (cI, 3, .inl (fun _ => 0))), (q30, .inl (cI, 3, .inl (fun _ => 0)))] H := hP
  have hD : va_D A_ [(h, .inr (8, [.int 0, .int 0, .ref q8, .ref q16, .ref q23, .null, .int 0, .null, .int 0, .null, .int 0, .int 0, .int 0, .int 0, .int 0, .int 0, .int 0, .int 0, .int 0, .int 0, .int 0, .int 0, .int 0, .null, .null, .int 0, .null, .null, .null])), (q8, .inl (cI, 16384, .inl (fun _ => 0))), (q16, .inl (cI, 49152, .inl (fun _ => 0))), (q23, .inl (cI, 3, .inl (fun _ => 0))), (q30, .inl (cI, 3, .inl (fun _ => 0)))] := hD
  refine va_putF (D := D) (ci := 8) (v := .ref q30) (ty := .array .int) (C := R_Mo) (T := F_Mo) (N := 29) hx hb hts i_Mo t_Mo t_Mo_ok n_Mo hown hZ.1 hP hD hS 0 rfl rfl 5 (by decide) (hts _ fl_Mo_20) (fun _ h9 => h9) rfl hnm rfl (by decide +kernel) rfl rfl (Nat.le_of_ble_eq_true rfl) d_Mo_init_32 (fun H locs hP hD hS => ?_)
  have hP : va_P D classes [(h, .inr (8, [.int 0, .int 0, .ref q8, .ref q16, .ref q23, .ref q30, .int 0, .null, .int 0, .null, .int 0, .int 0, .int 0, .int 0, .int 0, .int 0, .int 0, .int 0, .int 0, .int 0, .int 0, .int 0, .int 0, .null, .null, .int 0, .null, .null, .null])), (q8, .inl (cI, 16384, .inl (fun _ => 0))), (q16, .inl (cI, 49152, .inl (fun _ => 0))), (q23, .inl (cI, 3, .inl (fun _ => 0))), (q30, .inl (cI, 3, .inl (fun _ => 0)))] H := hP
  have hD : va_D A_ [(h, .inr (8, [.int 0, .int 0, .ref q8, .ref q16, .ref q23, .ref q30, .int 0, .null, .int 0, .null, .int 0, .int 0, .int 0, .int 0, .int 0, .int 0, .int 0, .int 0, .int 0, .int 0, .int 0, .int 0, .int 0, .null, .null, .int 0, .null, .null, .null])), (q8, .inl (cI, 16384, .inl (fun _ => 0))), (q16, .inl (cI, 49152, .inl (fun _ => 0))), (q23, .inl (cI, 3, .inl (fun _ => 0))), (q30, .inl (cI, 3, .inl (fun _ => 0)))] := hD
  refine lv_aload_n hx hb d_Mo_init_35 rfl (lv_at hl 0 rfl) ?_
  refine lv_sipush (v := 28000) hx hb d_Mo_init_36 (by decide) ?_
  refine t_newa (atype := .int) (a0 := (28000, .inl (fun _ => 0))) (N' := 28000) hx hb (hts _ ar_I) rfl hZ.1 hP hD hS hZ.2.2.2 1 rfl (fun _ => rfl) (by decide) (by decide) (by decide) (Nat.le_of_ble_eq_true rfl) (Nat.le_of_ble_eq_true rfl) d_Mo_init_39 (fun q39 H hP hD hS => ?_)
  have hP : va_P D classes [(h, .inr (8, [.int 0, .int 0, .ref q8, .ref q16, .ref q23, .ref q30, .int 0, .null, .int 0, .null, .int 0, .int 0, .int 0, .int 0, .int 0, .int 0, .int 0, .int 0, .int 0, .int 0, .int 0, .int 0, .int 0, .null, .null, .int 0, .null, .null, .null])), (q8, .inl (cI, 16384, .inl (fun _ => 0))), (q16, .inl (cI, 49152, .inl (fun _ => 0))), (q23, .inl (cI, 3, .inl (fun _ => 0))), (q30, .inl (cI, 3, .inl (fun _ => 0))), (q39, .inl (cI, 28000, .inl (fun _ => 0)))] H := hP
  have hD : va_D A_ [(h, .inr (8, [.int 0, .int 0, .ref q8, .ref q16, .ref q23, .ref q30, .int 0, .null, .int 0, .null, .int 0, .int 0, .int 0, .int 0, .int 0, .int 0, .int 0, .int 0, .int 0, .int 0, .int 0, .int 0, .int 0, .null, .null, .int 0, .null, .null, .null])), (q8, .inl (cI, 16384, .inl (fun _ => 0))), (q16, .inl (cI, 49152, .inl (fun _ => 0))), (q23, .inl (cI, 3, .inl (fun _ => 0))), (q30, .inl (cI, 3, .inl (fun _ => 0))), (q39, .inl (cI, 28000, .inl (fun _ => 0)))] := hD
  refine va_putF (D := D) (ci := 8) (v := .ref q39) (ty := .array .int) (C := R_Mo) (T := F_Mo) (N := 29) hx hb hts i_Mo t_Mo t_Mo_ok n_Mo hown hZ.1 hP hD hS 0 rfl rfl 7 (by decide) (hts _ fl_Mo_23) (fun _ h9 => h9) rfl hnm rfl (by decide +kernel) rfl rfl (Nat.le_of_ble_eq_true rfl) d_Mo_init_41 (fun H locs hP hD hS => ?_)
  have hP : va_P D classes [(h, .inr (8, [.int 0, .int 0, .ref q8, .ref q16, .ref q23, .ref q30, .int 0, .ref q39, .int 0, .null, .int 0, .int 0, .int 0, .int 0, .int 0, .int 0, .int 0, .int 0, .int 0, .int 0, .int 0, .int 0, .int 0, .null, .null, .int 0, .null, .null, .null])), (q8, .inl (cI, 16384, .inl (fun _ => 0))), (q16, .inl (cI, 49152, .inl (fun _ => 0))), (q23, .inl (cI, 3, .inl (fun _ => 0))), (q30, .inl (cI, 3, .inl (fun _ => 0))), (q39, .inl (cI, 28000, .inl (fun _ => 0)))] H := hP
  have hD : va_D A_ [(h, .inr (8, [.int 0, .int 0, .ref q8, .ref q16, .ref q23, .ref q30, .int 0, .ref q39, .int 0, .null, .int 0, .int 0, .int 0, .int 0, .int 0, .int 0, .int 0, .int 0, .int 0, .int 0, .int 0, .int 0, .int 0, .null, .null, .int 0, .null, .null, .null])), (q8, .inl (cI, 16384, .inl (fun _ => 0))), (q16, .inl (cI, 49152, .inl (fun _ => 0))), (q23, .inl (cI, 3, .inl (fun _ => 0))), (q30, .inl (cI, 3, .inl (fun _ => 0))), (q39, .inl (cI, 28000, .inl (fun _ => 0)))] := hD
  refine lv_aload_n hx hb d_Mo_init_44 rfl (lv_at hl 0 rfl) ?_
  refine lv_sipush (v := 28000) hx hb d_Mo_init_45 (by decide) ?_
  refine t_newa (atype := .int) (a0 := (28000, .inl (fun _ => 0))) (N' := 28000) hx hb (hts _ ar_I) rfl hZ.1 hP hD hS hZ.2.2.2 1 rfl (fun _ => rfl) (by decide) (by decide) (by decide) (Nat.le_of_ble_eq_true rfl) (Nat.le_of_ble_eq_true rfl) d_Mo_init_48 (fun q48 H hP hD hS => ?_)
  have hP : va_P D classes [(h, .inr (8, [.int 0, .int 0, .ref q8, .ref q16, .ref q23, .ref q30, .int 0, .ref q39, .int 0, .null, .int 0, .int 0, .int 0, .int 0, .int 0, .int 0, .int 0, .int 0, .int 0, .int 0, .int 0, .int 0, .int 0, .null, .null, .int 0, .null, .null, .null])), (q8, .inl (cI, 16384, .inl (fun _ => 0))), (q16, .inl (cI, 49152, .inl (fun _ => 0))), (q23, .inl (cI, 3, .inl (fun _ => 0))), (q30, .inl (cI, 3, .inl (fun _ => 0))), (q39, .inl (cI, 28000, .inl (fun _ => 0))), (q48, .inl (cI, 28000, .inl (fun _ => 0)))] H := hP
  have hD : va_D A_ [(h, .inr (8, [.int 0, .int 0, .ref q8, .ref q16, .ref q23, .ref q30, .int 0, .ref q39, .int 0, .null, .int 0, .int 0, .int 0, .int 0, .int 0, .int 0, .int 0, .int 0, .int 0, .int 0, .int 0, .int 0, .int 0, .null, .null, .int 0, .null, .null, .null])), (q8, .inl (cI, 16384, .inl (fun _ => 0))), (q16, .inl (cI, 49152, .inl (fun _ => 0))), (q23, .inl (cI, 3, .inl (fun _ => 0))), (q30, .inl (cI, 3, .inl (fun _ => 0))), (q39, .inl (cI, 28000, .inl (fun _ => 0))), (q48, .inl (cI, 28000, .inl (fun _ => 0)))] := hD
  refine va_putF (D := D) (ci := 8) (v := .ref q48) (ty := .array .int) (C := R_Mo) (T := F_Mo) (N := 29) hx hb hts i_Mo t_Mo t_Mo_ok n_Mo hown hZ.1 hP hD hS 0 rfl rfl 9 (by decide) (hts _ fl_Mo_26) (fun _ h9 => h9) rfl hnm rfl (by decide +kernel) rfl rfl (Nat.le_of_ble_eq_true rfl) d_Mo_init_50 (fun H locs hP hD hS => ?_)
  have hP : va_P D classes [(h, .inr (8, [.int 0, .int 0, .ref q8, .ref q16, .ref q23, .ref q30, .int 0, .ref q39, .int 0, .ref q48, .int 0, .int 0, .int 0, .int 0, .int 0, .int 0, .int 0, .int 0, .int 0, .int 0, .int 0, .int 0, .int 0, .null, .null, .int 0, .null, .null, .null])), (q8, .inl (cI, 16384, .inl (fun _ => 0))), (q16, .inl (cI, 49152, .inl (fun _ => 0))), (q23, .inl (cI, 3, .inl (fun _ => 0))), (q30, .inl (cI, 3, .inl (fun _ => 0))), (q39, .inl (cI, 28000, .inl (fun _ => 0))), (q48, .inl (cI, 28000, .inl (fun _ => 0)))] H := hP
  have hD : va_D A_ [(h, .inr (8, [.int 0, .int 0, .ref q8, .ref q16, .ref q23, .ref q30, .int 0, .ref q39, .int 0, .ref q48, .int 0, .int 0, .int 0, .int 0, .int 0, .int 0, .int 0, .int 0, .int 0, .int 0, .int 0, .int 0, .int 0, .null, .null, .int 0, .null, .null, .null])), (q8, .inl (cI, 16384, .inl (fun _ => 0))), (q16, .inl (cI, 49152, .inl (fun _ => 0))), (q23, .inl (cI, 3, .inl (fun _ => 0))), (q30, .inl (cI, 3, .inl (fun _ => 0))), (q39, .inl (cI, 28000, .inl (fun _ => 0))), (q48, .inl (cI, 28000, .inl (fun _ => 0)))] := hD
  refine lv_aload_n hx hb d_Mo_init_53 rfl (lv_at hl 0 rfl) ?_
  refine lv_bipush (v := 48) hx hb d_Mo_init_54 (by decide) ?_
  refine t_newa (atype := .int) (a0 := (48, .inl (fun _ => 0))) (N' := 48) hx hb (hts _ ar_I) rfl hZ.1 hP hD hS hZ.2.2.2 1 rfl (fun _ => rfl) (by decide) (by decide) (by decide) (Nat.le_of_ble_eq_true rfl) (Nat.le_of_ble_eq_true rfl) d_Mo_init_56 (fun q56 H hP hD hS => ?_)
  have hP : va_P D classes [(h, .inr (8, [.int 0, .int 0, .ref q8, .ref q16, .ref q23, .ref q30, .int 0, .ref q39, .int 0, .ref q48, .int 0, .int 0, .int 0, .int 0, .int 0, .int 0, .int 0, .int 0, .int 0, .int 0, .int 0, .int 0, .int 0, .null, .null, .int 0, .null, .null, .null])), (q8, .inl (cI, 16384, .inl (fun _ => 0))), (q16, .inl (cI, 49152, .inl (fun _ => 0))), (q23, .inl (cI, 3, .inl (fun _ => 0))), (q30, .inl (cI, 3, .inl (fun _ => 0))), (q39, .inl (cI, 28000, .inl (fun _ => 0))), (q48, .inl (cI, 28000, .inl (fun _ => 0))), (q56, .inl (cI, 48, .inl (fun _ => 0)))] H := hP
  have hD : va_D A_ [(h, .inr (8, [.int 0, .int 0, .ref q8, .ref q16, .ref q23, .ref q30, .int 0, .ref q39, .int 0, .ref q48, .int 0, .int 0, .int 0, .int 0, .int 0, .int 0, .int 0, .int 0, .int 0, .int 0, .int 0, .int 0, .int 0, .null, .null, .int 0, .null, .null, .null])), (q8, .inl (cI, 16384, .inl (fun _ => 0))), (q16, .inl (cI, 49152, .inl (fun _ => 0))), (q23, .inl (cI, 3, .inl (fun _ => 0))), (q30, .inl (cI, 3, .inl (fun _ => 0))), (q39, .inl (cI, 28000, .inl (fun _ => 0))), (q48, .inl (cI, 28000, .inl (fun _ => 0))), (q56, .inl (cI, 48, .inl (fun _ => 0)))] := hD
  refine va_putF (D := D) (ci := 8) (v := .ref q56) (ty := .array .int) (C := R_Mo) (T := F_Mo) (N := 29) hx hb hts i_Mo t_Mo t_Mo_ok n_Mo hown hZ.1 hP hD hS 0 rfl rfl 23 (by decide) (hts _ fl_Mo_29) (fun _ h9 => h9) rfl hnm rfl (by decide +kernel) rfl rfl (Nat.le_of_ble_eq_true rfl) d_Mo_init_58 (fun H locs hP hD hS => ?_)
  have hP : va_P D classes [(h, .inr (8, [.int 0, .int 0, .ref q8, .ref q16, .ref q23, .ref q30, .int 0, .ref q39, .int 0, .ref q48, .int 0, .int 0, .int 0, .int 0, .int 0, .int 0, .int 0, .int 0, .int 0, .int 0, .int 0, .int 0, .int 0, .ref q56, .null, .int 0, .null, .null, .null])), (q8, .inl (cI, 16384, .inl (fun _ => 0))), (q16, .inl (cI, 49152, .inl (fun _ => 0))), (q23, .inl (cI, 3, .inl (fun _ => 0))), (q30, .inl (cI, 3, .inl (fun _ => 0))), (q39, .inl (cI, 28000, .inl (fun _ => 0))), (q48, .inl (cI, 28000, .inl (fun _ => 0))), (q56, .inl (cI, 48, .inl (fun _ => 0)))] H := hP
  have hD : va_D A_ [(h, .inr (8, [.int 0, .int 0, .ref q8, .ref q16, .ref q23, .ref q30, .int 0, .ref q39, .int 0, .ref q48, .int 0, .int 0, .int 0, .int 0, .int 0, .int 0, .int 0, .int 0, .int 0, .int 0, .int 0, .int 0, .int 0, .ref q56, .null, .int 0, .null, .null, .null])), (q8, .inl (cI, 16384, .inl (fun _ => 0))), (q16, .inl (cI, 49152, .inl (fun _ => 0))), (q23, .inl (cI, 3, .inl (fun _ => 0))), (q30, .inl (cI, 3, .inl (fun _ => 0))), (q39, .inl (cI, 28000, .inl (fun _ => 0))), (q48, .inl (cI, 28000, .inl (fun _ => 0))), (q56, .inl (cI, 48, .inl (fun _ => 0)))] := hD
  refine lv_aload_n hx hb d_Mo_init_61 rfl (lv_at hl 0 rfl) ?_
  refine lv_bipush (v := 32) hx hb d_Mo_init_62 (by decide) ?_
  refine t_newa (atype := .int) (a0 := (32, .inl (fun _ => 0))) (N' := 32) hx hb (hts _ ar_I) rfl hZ.1 hP hD hS hZ.2.2.2 1 rfl (fun _ => rfl) (by decide) (by decide) (by decide) (Nat.le_of_ble_eq_true rfl) (Nat.le_of_ble_eq_true rfl) d_Mo_init_64 (fun q64 H hP hD hS => ?_)
  have hP : va_P D classes [(h, .inr (8, [.int 0, .int 0, .ref q8, .ref q16, .ref q23, .ref q30, .int 0, .ref q39, .int 0, .ref q48, .int 0, .int 0, .int 0, .int 0, .int 0, .int 0, .int 0, .int 0, .int 0, .int 0, .int 0, .int 0, .int 0, .ref q56, .null, .int 0, .null, .null, .null])), (q8, .inl (cI, 16384, .inl (fun _ => 0))), (q16, .inl (cI, 49152, .inl (fun _ => 0))), (q23, .inl (cI, 3, .inl (fun _ => 0))), (q30, .inl (cI, 3, .inl (fun _ => 0))), (q39, .inl (cI, 28000, .inl (fun _ => 0))), (q48, .inl (cI, 28000, .inl (fun _ => 0))), (q56, .inl (cI, 48, .inl (fun _ => 0))), (q64, .inl (cI, 32, .inl (fun _ => 0)))] H := hP
  have hD : va_D A_ [(h, .inr (8, [.int 0, .int 0, .ref q8, .ref q16, .ref q23, .ref q30, .int 0, .ref q39, .int 0, .ref q48, .int 0, .int 0, .int 0, .int 0, .int 0, .int 0, .int 0, .int 0, .int 0, .int 0, .int 0, .int 0, .int 0, .ref q56, .null, .int 0, .null, .null, .null])), (q8, .inl (cI, 16384, .inl (fun _ => 0))), (q16, .inl (cI, 49152, .inl (fun _ => 0))), (q23, .inl (cI, 3, .inl (fun _ => 0))), (q30, .inl (cI, 3, .inl (fun _ => 0))), (q39, .inl (cI, 28000, .inl (fun _ => 0))), (q48, .inl (cI, 28000, .inl (fun _ => 0))), (q56, .inl (cI, 48, .inl (fun _ => 0))), (q64, .inl (cI, 32, .inl (fun _ => 0)))] := hD
  refine va_putF (D := D) (ci := 8) (v := .ref q64) (ty := .array .int) (C := R_Mo) (T := F_Mo) (N := 29) hx hb hts i_Mo t_Mo t_Mo_ok n_Mo hown hZ.1 hP hD hS 0 rfl rfl 24 (by decide) (hts _ fl_Mo_32) (fun _ h9 => h9) rfl hnm rfl (by decide +kernel) rfl rfl (Nat.le_of_ble_eq_true rfl) d_Mo_init_66 (fun H locs hP hD hS => ?_)
  have hP : va_P D classes [(h, .inr (8, [.int 0, .int 0, .ref q8, .ref q16, .ref q23, .ref q30, .int 0, .ref q39, .int 0, .ref q48, .int 0, .int 0, .int 0, .int 0, .int 0, .int 0, .int 0, .int 0, .int 0, .int 0, .int 0, .int 0, .int 0, .ref q56, .ref q64, .int 0, .null, .null, .null])), (q8, .inl (cI, 16384, .inl (fun _ => 0))), (q16, .inl (cI, 49152, .inl (fun _ => 0))), (q23, .inl (cI, 3, .inl (fun _ => 0))), (q30, .inl (cI, 3, .inl (fun _ => 0))), (q39, .inl (cI, 28000, .inl (fun _ => 0))), (q48, .inl (cI, 28000, .inl (fun _ => 0))), (q56, .inl (cI, 48, .inl (fun _ => 0))), (q64, .inl (cI, 32, .inl (fun _ => 0)))] H := hP
  have hD : va_D A_ [(h, .inr (8, [.int 0, .int 0, .ref q8, .ref q16, .ref q23, .ref q30, .int 0, .ref q39, .int 0, .ref q48, .int 0, .int 0, .int 0, .int 0, .int 0, .int 0, .int 0, .int 0, .int 0, .int 0, .int 0, .int 0, .int 0, .ref q56, .ref q64, .int 0, .null, .null, .null])), (q8, .inl (cI, 16384, .inl (fun _ => 0))), (q16, .inl (cI, 49152, .inl (fun _ => 0))), (q23, .inl (cI, 3, .inl (fun _ => 0))), (q30, .inl (cI, 3, .inl (fun _ => 0))), (q39, .inl (cI, 28000, .inl (fun _ => 0))), (q48, .inl (cI, 28000, .inl (fun _ => 0))), (q56, .inl (cI, 48, .inl (fun _ => 0))), (q64, .inl (cI, 32, .inl (fun _ => 0)))] := hD
  refine lv_aload_n hx hb d_Mo_init_69 rfl (lv_at hl 0 rfl) ?_
  refine lv_bipush (v := 11) hx hb d_Mo_init_70 (by decide) ?_
  refine t_newa (atype := .int) (a0 := (11, .inl (fun _ => 0))) (N' := 11) hx hb (hts _ ar_I) rfl hZ.1 hP hD hS hZ.2.2.2 1 rfl (fun _ => rfl) (by decide) (by decide) (by decide) (Nat.le_of_ble_eq_true rfl) (Nat.le_of_ble_eq_true rfl) d_Mo_init_72 (fun q72 H hP hD hS => ?_)
  have hP : va_P D classes [(h, .inr (8, [.int 0, .int 0, .ref q8, .ref q16, .ref q23, .ref q30, .int 0, .ref q39, .int 0, .ref q48, .int 0, .int 0, .int 0, .int 0, .int 0, .int 0, .int 0, .int 0, .int 0, .int 0, .int 0, .int 0, .int 0, .ref q56, .ref q64, .int 0, .null, .null, .null])), (q8, .inl (cI, 16384, .inl (fun _ => 0))), (q16, .inl (cI, 49152, .inl (fun _ => 0))), (q23, .inl (cI, 3, .inl (fun _ => 0))), (q30, .inl (cI, 3, .inl (fun _ => 0))), (q39, .inl (cI, 28000, .inl (fun _ => 0))), (q48, .inl (cI, 28000, .inl (fun _ => 0))), (q56, .inl (cI, 48, .inl (fun _ => 0))), (q64, .inl (cI, 32, .inl (fun _ => 0))), (q72, .inl (cI, 11, .inl (fun _ => 0)))] H := hP
  have hD : va_D A_ [(h, .inr (8, [.int 0, .int 0, .ref q8, .ref q16, .ref q23, .ref q30, .int 0, .ref q39, .int 0, .ref q48, .int 0, .int 0, .int 0, .int 0, .int 0, .int 0, .int 0, .int 0, .int 0, .int 0, .int 0, .int 0, .int 0, .ref q56, .ref q64, .int 0, .null, .null, .null])), (q8, .inl (cI, 16384, .inl (fun _ => 0))), (q16, .inl (cI, 49152, .inl (fun _ => 0))), (q23, .inl (cI, 3, .inl (fun _ => 0))), (q30, .inl (cI, 3, .inl (fun _ => 0))), (q39, .inl (cI, 28000, .inl (fun _ => 0))), (q48, .inl (cI, 28000, .inl (fun _ => 0))), (q56, .inl (cI, 48, .inl (fun _ => 0))), (q64, .inl (cI, 32, .inl (fun _ => 0))), (q72, .inl (cI, 11, .inl (fun _ => 0)))] := hD
  refine va_putF (D := D) (ci := 8) (v := .ref q72) (ty := .array .int) (C := R_Mo) (T := F_Mo) (N := 29) hx hb hts i_Mo t_Mo t_Mo_ok n_Mo hown hZ.1 hP hD hS 0 rfl rfl 26 (by decide) (hts _ fl_Mo_35) (fun _ h9 => h9) rfl hnm rfl (by decide +kernel) rfl rfl (Nat.le_of_ble_eq_true rfl) d_Mo_init_74 (fun H locs hP hD hS => ?_)
  have hP : va_P D classes [(h, .inr (8, [.int 0, .int 0, .ref q8, .ref q16, .ref q23, .ref q30, .int 0, .ref q39, .int 0, .ref q48, .int 0, .int 0, .int 0, .int 0, .int 0, .int 0, .int 0, .int 0, .int 0, .int 0, .int 0, .int 0, .int 0, .ref q56, .ref q64, .int 0, .ref q72, .null, .null])), (q8, .inl (cI, 16384, .inl (fun _ => 0))), (q16, .inl (cI, 49152, .inl (fun _ => 0))), (q23, .inl (cI, 3, .inl (fun _ => 0))), (q30, .inl (cI, 3, .inl (fun _ => 0))), (q39, .inl (cI, 28000, .inl (fun _ => 0))), (q48, .inl (cI, 28000, .inl (fun _ => 0))), (q56, .inl (cI, 48, .inl (fun _ => 0))), (q64, .inl (cI, 32, .inl (fun _ => 0))), (q72, .inl (cI, 11, .inl (fun _ => 0)))] H := hP
  have hD : va_D A_ [(h, .inr (8, [.int 0, .int 0, .ref q8, .ref q16, .ref q23, .ref q30, .int 0, .ref q39, .int 0, .ref q48, .int 0, .int 0, .int 0, .int 0, .int 0, .int 0, .int 0, .int 0, .int 0, .int 0, .int 0, .int 0, .int 0, .ref q56, .ref q64, .int 0, .ref q72, .null, .null])), (q8, .inl (cI, 16384, .inl (fun _ => 0))), (q16, .inl (cI, 49152, .inl (fun _ => 0))), (q23, .inl (cI, 3, .inl (fun _ => 0))), (q30, .inl (cI, 3, .inl (fun _ => 0))), (q39, .inl (cI, 28000, .inl (fun _ => 0))), (q48, .inl (cI, 28000, .inl (fun _ => 0))), (q56, .inl (cI, 48, .inl (fun _ => 0))), (q64, .inl (cI, 32, .inl (fun _ => 0))), (q72, .inl (cI, 11, .inl (fun _ => 0)))] := hD
  refine lv_aload_n hx hb d_Mo_init_77 rfl (lv_at hl 0 rfl) ?_
  refine lv_bipush (v := 11) hx hb d_Mo_init_78 (by decide) ?_
  refine t_newa (atype := .int) (a0 := (11, .inl (fun _ => 0))) (N' := 11) hx hb (hts _ ar_I) rfl hZ.1 hP hD hS hZ.2.2.2 1 rfl (fun _ => rfl) (by decide) (by decide) (by decide) (Nat.le_of_ble_eq_true rfl) (Nat.le_of_ble_eq_true rfl) d_Mo_init_80 (fun q80 H hP hD hS => ?_)
  have hP : va_P D classes [(h, .inr (8, [.int 0, .int 0, .ref q8, .ref q16, .ref q23, .ref q30, .int 0, .ref q39, .int 0, .ref q48, .int 0, .int 0, .int 0, .int 0, .int 0, .int 0, .int 0, .int 0, .int 0, .int 0, .int 0, .int 0, .int 0, .ref q56, .ref q64, .int 0, .ref q72, .null, .null])), (q8, .inl (cI, 16384, .inl (fun _ => 0))), (q16, .inl (cI, 49152, .inl (fun _ => 0))), (q23, .inl (cI, 3, .inl (fun _ => 0))), (q30, .inl (cI, 3, .inl (fun _ => 0))), (q39, .inl (cI, 28000, .inl (fun _ => 0))), (q48, .inl (cI, 28000, .inl (fun _ => 0))), (q56, .inl (cI, 48, .inl (fun _ => 0))), (q64, .inl (cI, 32, .inl (fun _ => 0))), (q72, .inl (cI, 11, .inl (fun _ => 0))), (q80, .inl (cI, 11, .inl (fun _ => 0)))] H := hP
  have hD : va_D A_ [(h, .inr (8, [.int 0, .int 0, .ref q8, .ref q16, .ref q23, .ref q30, .int 0, .ref q39, .int 0, .ref q48, .int 0, .int 0, .int 0, .int 0, .int 0, .int 0, .int 0, .int 0, .int 0, .int 0, .int 0, .int 0, .int 0, .ref q56, .ref q64, .int 0, .ref q72, .null, .null])), (q8, .inl (cI, 16384, .inl (fun _ => 0))), (q16, .inl (cI, 49152, .inl (fun _ => 0))), (q23, .inl (cI, 3, .inl (fun _ => 0))), (q30, .inl (cI, 3, .inl (fun _ => 0))), (q39, .inl (cI, 28000, .inl (fun _ => 0))), (q48, .inl (cI, 28000, .inl (fun _ => 0))), (q56, .inl (cI, 48, .inl (fun _ => 0))), (q64, .inl (cI, 32, .inl (fun _ => 0))), (q72, .inl (cI, 11, .inl (fun _ => 0))), (q80, .inl (cI, 11, .inl (fun _ => 0)))] := hD
  refine va_putF (D := D) (ci := 8) (v := .ref q80) (ty := .array .int) (C := R_Mo) (T := F_Mo) (N := 29) hx hb hts i_Mo t_Mo t_Mo_ok n_Mo hown hZ.1 hP hD hS 0 rfl rfl 27 (by decide) (hts _ fl_Mo_38) (fun _ h9 => h9) rfl hnm rfl (by decide +kernel) rfl rfl (Nat.le_of_ble_eq_true rfl) d_Mo_init_82 (fun H locs hP hD hS => ?_)
  have hP : va_P D classes [(h, .inr (8, [.int 0, .int 0, .ref q8, .ref q16, .ref q23, .ref q30, .int 0, .ref q39, .int 0, .ref q48, .int 0, .int 0, .int 0, .int 0, .int 0, .int 0, .int 0, .int 0, .int 0, .int 0, .int 0, .int 0, .int 0, .ref q56, .ref q64, .int 0, .ref q72, .ref q80, .null])), (q8, .inl (cI, 16384, .inl (fun _ => 0))), (q16, .inl (cI, 49152, .inl (fun _ => 0))), (q23, .inl (cI, 3, .inl (fun _ => 0))), (q30, .inl (cI, 3, .inl (fun _ => 0))), (q39, .inl (cI, 28000, .inl (fun _ => 0))), (q48, .inl (cI, 28000, .inl (fun _ => 0))), (q56, .inl (cI, 48, .inl (fun _ => 0))), (q64, .inl (cI, 32, .inl (fun _ => 0))), (q72, .inl (cI, 11, .inl (fun _ => 0))), (q80, .inl (cI, 11, .inl (fun _ => 0)))] H := hP
  have hD : va_D A_ [(h, .inr (8, [.int 0, .int 0, .ref q8, .ref q16, .ref q23, .ref q30, .int 0, .ref q39, .int 0, .ref q48, .int 0, .int 0, .int 0, .int 0, .int 0, .int 0, .int 0, .int 0, .int 0, .int 0, .int 0, .int 0, .int 0, .ref q56, .ref q64, .int 0, .ref q72, .ref q80, .null])), (q8, .inl (cI, 16384, .inl (fun _ => 0))), (q16, .inl (cI, 49152, .inl (fun _ => 0))), (q23, .inl (cI, 3, .inl (fun _ => 0))), (q30, .inl (cI, 3, .inl (fun _ => 0))), (q39, .inl (cI, 28000, .inl (fun _ => 0))), (q48, .inl (cI, 28000, .inl (fun _ => 0))), (q56, .inl (cI, 48, .inl (fun _ => 0))), (q64, .inl (cI, 32, .inl (fun _ => 0))), (q72, .inl (cI, 11, .inl (fun _ => 0))), (q80, .inl (cI, 11, .inl (fun _ => 0)))] := hD
  refine lv_aload_n hx hb d_Mo_init_85 rfl (lv_at hl 0 rfl) ?_
  refine lv_bipush (v := 11) hx hb d_Mo_init_86 (by decide) ?_
  refine t_newa (atype := .int) (a0 := (11, .inl (fun _ => 0))) (N' := 11) hx hb (hts _ ar_I) rfl hZ.1 hP hD hS hZ.2.2.2 1 rfl (fun _ => rfl) (by decide) (by decide) (by decide) (Nat.le_of_ble_eq_true rfl) (Nat.le_of_ble_eq_true rfl) d_Mo_init_88 (fun q88 H hP hD hS => ?_)
  have hP : va_P D classes [(h, .inr (8, [.int 0, .int 0, .ref q8, .ref q16, .ref q23, .ref q30, .int 0, .ref q39, .int 0, .ref q48, .int 0, .int 0, .int 0, .int 0, .int 0, .int 0, .int 0, .int 0, .int 0, .int 0, .int 0, .int 0, .int 0, .ref q56, .ref q64, .int 0, .ref q72, .ref q80, .null])), (q8, .inl (cI, 16384, .inl (fun _ => 0))), (q16, .inl (cI, 49152, .inl (fun _ => 0))), (q23, .inl (cI, 3, .inl (fun _ => 0))), (q30, .inl (cI, 3, .inl (fun _ => 0))), (q39, .inl (cI, 28000, .inl (fun _ => 0))), (q48, .inl (cI, 28000, .inl (fun _ => 0))), (q56, .inl (cI, 48, .inl (fun _ => 0))), (q64, .inl (cI, 32, .inl (fun _ => 0))), (q72, .inl (cI, 11, .inl (fun _ => 0))), (q80, .inl (cI, 11, .inl (fun _ => 0))), (q88, .inl (cI, 11, .inl (fun _ => 0)))] H := hP
  have hD : va_D A_ [(h, .inr (8, [.int 0, .int 0, .ref q8, .ref q16, .ref q23, .ref q30, .int 0, .ref q39, .int 0, .ref q48, .int 0, .int 0, .int 0, .int 0, .int 0, .int 0, .int 0, .int 0, .int 0, .int 0, .int 0, .int 0, .int 0, .ref q56, .ref q64, .int 0, .ref q72, .ref q80, .null])), (q8, .inl (cI, 16384, .inl (fun _ => 0))), (q16, .inl (cI, 49152, .inl (fun _ => 0))), (q23, .inl (cI, 3, .inl (fun _ => 0))), (q30, .inl (cI, 3, .inl (fun _ => 0))), (q39, .inl (cI, 28000, .inl (fun _ => 0))), (q48, .inl (cI, 28000, .inl (fun _ => 0))), (q56, .inl (cI, 48, .inl (fun _ => 0))), (q64, .inl (cI, 32, .inl (fun _ => 0))), (q72, .inl (cI, 11, .inl (fun _ => 0))), (q80, .inl (cI, 11, .inl (fun _ => 0))), (q88, .inl (cI, 11, .inl (fun _ => 0)))] := hD
  refine va_putF (D := D) (ci := 8) (v := .ref q88) (ty := .array .int) (C := R_Mo) (T := F_Mo) (N := 29) hx hb hts i_Mo t_Mo t_Mo_ok n_Mo hown hZ.1 hP hD hS 0 rfl rfl 28 (by decide) (hts _ fl_Mo_41) (fun _ h9 => h9) rfl hnm rfl (by decide +kernel) rfl rfl (Nat.le_of_ble_eq_true rfl) d_Mo_init_90 (fun H locs hP hD hS => ?_)
  have hP : va_P D classes [(h, .inr (8, [.int 0, .int 0, .ref q8, .ref q16, .ref q23, .ref q30, .int 0, .ref q39, .int 0, .ref q48, .int 0, .int 0, .int 0, .int 0, .int 0, .int 0, .int 0, .int 0, .int 0, .int 0, .int 0, .int 0, .int 0, .ref q56, .ref q64, .int 0, .ref q72, .ref q80, .ref q88])), (q8, .inl (cI, 16384, .inl (fun _ => 0))), (q16, .inl (cI, 49152, .inl (fun _ => 0))), (q23, .inl (cI, 3, .inl (fun _ => 0))), (q30, .inl (cI, 3, .inl (fun _ => 0))), (q39, .inl (cI, 28000, .inl (fun _ => 0))), (q48, .inl (cI, 28000, .inl (fun _ => 0))), (q56, .inl (cI, 48, .inl (fun _ => 0))), (q64, .inl (cI, 32, .inl (fun _ => 0))), (q72, .inl (cI, 11, .inl (fun _ => 0))), (q80, .inl (cI, 11, .inl (fun _ => 0))), (q88, .inl (cI, 11, .inl (fun _ => 0)))] H := hP
  have hD : va_D A_ [(h, .inr (8, [.int 0, .int 0, .ref q8, .ref q16, .ref q23, .ref q30, .int 0, .ref q39, .int 0, .ref q48, .int 0, .int 0, .int 0, .int 0, .int 0, .int 0, .int 0, .int 0, .int 0, .int 0, .int 0, .int 0, .int 0, .ref q56, .ref q64, .int 0, .ref q72, .ref q80, .ref q88])), (q8, .inl (cI, 16384, .inl (fun _ => 0))), (q16, .inl (cI, 49152, .inl (fun _ => 0))), (q23, .inl (cI, 3, .inl (fun _ => 0))), (q30, .inl (cI, 3, .inl (fun _ => 0))), (q39, .inl (cI, 28000, .inl (fun _ => 0))), (q48, .inl (cI, 28000, .inl (fun _ => 0))), (q56, .inl (cI, 48, .inl (fun _ => 0))), (q64, .inl (cI, 32, .inl (fun _ => 0))), (q72, .inl (cI, 11, .inl (fun _ => 0))), (q80, .inl (cI, 11, .inl (fun _ => 0))), (q88, .inl (cI, 11, .inl (fun _ => 0)))] := hD
  exact t_vret hx hb hr hlk d_Mo_init_93 (hP.subm (ws' := [(h, .inr (8, [.int 0, .int 0, .ref q8, .ref q16, .ref q23, .ref q30, .int 0, .ref q39, .int 0, .ref q48, .int 0, .int 0, .int 0, .int 0, .int 0, .int 0, .int 0, .int 0, .int 0, .int 0, .int 0, .int 0, .int 0, .ref q56, .ref q64, .int 0, .ref q72, .ref q80, .ref q88])), (q8, .inl (cI, 16384, .inl (fun _ => 0))), (q16, .inl (cI, 49152, .inl (fun _ => 0))), (q23, .inl (cI, 3, .inl (fun _ => 0))), (q30, .inl (cI, 3, .inl (fun _ => 0))), (q39, .inl (cI, 28000, .inl (fun _ => 0))), (q48, .inl (cI, 28000, .inl (fun _ => 0))), (q56, .inl (cI, 48, .inl (fun _ => 0))), (q64, .inl (cI, 32, .inl (fun _ => 0))), (q72, .inl (cI, 11, .inl (fun _ => 0))), (q80, .inl (cI, 11, .inl (fun _ => 0))), (q88, .inl (cI, 11, .inl (fun _ => 0)))]) [0, 1, 2, 3, 4, 5, 6, 7, 8, 9, 10, 11] rfl) (hD.sub (ws' := [(h, .inr (8, [.int 0, .int 0, .ref q8, .ref q16, .ref q23, .ref q30, .int 0, .ref q39, .int 0, .ref q48, .int 0, .int 0, .int 0, .int 0, .int 0, .int 0, .int 0, .int 0, .int 0, .int 0, .int 0, .int 0, .int 0, .ref q56, .ref q64, .int 0, .ref q72, .ref q80, .ref q88])), (q8, .inl (cI, 16384, .inl (fun _ => 0))), (q16, .inl (cI, 49152, .inl (fun _ => 0))), (q23, .inl (cI, 3, .inl (fun _ => 0))), (q30, .inl (cI, 3, .inl (fun _ => 0))), (q39, .inl (cI, 28000, .inl (fun _ => 0))), (q48, .inl (cI, 28000, .inl (fun _ => 0))), (q56, .inl (cI, 48, .inl (fun _ => 0))), (q64, .inl (cI, 32, .inl (fun _ => 0))), (q72, .inl (cI, 11, .inl (fun _ => 0))), (q80, .inl (cI, 11, .inl (fun _ => 0))), (q88, .inl (cI, 11, .inl (fun _ => 0)))]) [0, 1, 2, 3, 4, 5, 6, 7, 8, 9, 10, 11] rfl rfl) hS ⟨rfl, q8, q16, q23, q30, q39, q48, q56, q64, q72, q80, q88, rfl, rfl, rfl⟩
end
section
/-! THROWING: contracts of methods that return or throw, the throw of a new exception, the call whose exception is caught. -/
def XZ (O f d : String) (A : Nat → Prop) (U : State) (H : Heap) : Prop := ∃ (c : ClassId) (k : Class) (i : Nat) (fd : Field) (a : Nat) (cell : Cell) (v : Value), U.vm.findClass O = some c ∧ U.fieldFound? O f d = some (c, k, i, fd) ∧ fd.isStatic = true ∧ k.statics = some a ∧ H[a]? = some cell ∧ cell.vm.isStatics = true ∧ cell.cls = c ∧ fd.slot < cell.slots.size ∧ k.staticTypes[fd.slot]? = some fd.type ∧ cell.slots[fd.slot]? = some v ∧ (v = .null ∨ ∃ q, v = .ref q) ∧ ¬ A a
section XZs
variable {O f d : String} {A B : Nat → Prop} {u U s : State} {H H1 : Heap} {args : Array Value}
theorem XZ.moved (hvm : u.vm.Alike U.vm) (h : XZ O f d A u H) : XZ O f d A U H := by
  obtain ⟨c, k, i, fd, a, cell, v, h1, h2, h3, h4, h5, h6, h7, h8, h9, h10, h11, h12⟩ := h
  obtain ⟨k', hi', he⟩ := State.fieldFound?_setVm hvm h2
  exact ⟨c, k', i, fd, a, cell, v, by rw [hvm.findClass]; exact h1, hi', h3, by rw [he]; exact h4, h5, h6, h7, h8, by rw [he]; exact h9, h10, h11, h12⟩
theorem XZ.kept (h : XZ O f d A U H) (hq : ∀ a : Nat, a < H.size → ¬ A a → H1[a]? = H[a]?) : XZ O f d A U H1 := by
  obtain ⟨c, k, i, fd, a, cell, v, h1, h2, h3, h4, h5, h6, h7, h8, h9, h10, h11, h12⟩ := h
  exact ⟨c, k, i, fd, a, cell, v, h1, h2, h3, h4, by rw [hq a (Array.getElem?_eq_some_iff.mp h5).1 h12]; exact h5, h6, h7, h8, h9, h10, h11, h12⟩
theorem XZ.narrow (h : XZ O f d A U H) (hAB : ∀ q, B q → A q) : XZ O f d B U H := by
  obtain ⟨c, k, i, fd, a, cell, v, h1, h2, h3, h4, h5, h6, h7, h8, h9, h10, h11, h12⟩ := h
  exact ⟨c, k, i, fd, a, cell, v, h1, h2, h3, h4, h5, h6, h7, h8, h9, h10, h11, fun z => h12 (hAB a z)⟩
theorem XZ.lays (h : XZ O f d A U U.heap) : (Cond.laysStatic O f d).before args U = true := by
  obtain ⟨c, k, i, fd, a, cell, v, h1, h2, h3, h4, h5, h6, h7, h8, h9, h10, h11, h12⟩ := h
  simp [Cond.before, Cond.holds, Cond.value, h1, h2, h3, h4, h5, h6, h7, h8, h9]
theorem XZ.isRef (h : XZ O f d A U U.heap) : (Cond.isRef (.static O f d)).before args U = true := by
  obtain ⟨c, k, i, fd, a, cell, v, h1, h2, h3, h4, h5, h6, h7, h8, h9, h10, h11, h12⟩ := h
  have he : (Term.static O f d).eval args U none [] U = some v := by simp [Term.eval, State.fieldNamed?, h2, h3, h4, h5, h6, h10]
  simp only [Cond.before, Cond.holds, Cond.value, he]
  rcases h11 with e | ⟨x, e⟩ <;> simp [e]
theorem XZ.of (hl : (Cond.laysStatic O f d).before args s = true) (hr : (Cond.isRef (.static O f d)).before args s = true) (hA : ∀ a : Nat, a < s.heap.size → ¬ A a) : XZ O f d A s s.heap := by
  obtain ⟨c, k, i, fd, a, cell, hc, hf, hst, hsta, hcell, hiss, hcls, hlt, hty⟩ := Cond.laysStatic_spec hl
  have hv : cell.slots[fd.slot]? = some cell.slots[fd.slot] := Array.getElem?_eq_getElem hlt
  refine ⟨c, k, i, fd, a, cell, cell.slots[fd.slot], hc, hf, hst, hsta, hcell, hiss, hcls, hlt, hty, hv, ?_, hA a (Array.getElem?_eq_some_iff.mp hcell).1⟩
  have he : (Term.static O f d).eval args s none [] s = some cell.slots[fd.slot] := by simp [Term.eval, State.fieldNamed?, hf, hst, hsta, hcell, hiss, hv]
  simp only [Cond.before, Cond.holds, Cond.value, he] at hr
  cases hz : cell.slots[fd.slot] <;> simp [hz] at hr ⊢
end XZs
def XU (st : List (Nat × String)) (ad : Nat → Nat) (A : Nat → Prop) (U : State) (H : Heap) : Prop := XZ Bundle.tN "UNASSIGNED_STACK" Bundle.steD A U H ∧ XZ Bundle.tN "SUPPRESSED_SENTINEL" Bundle.listD A U H ∧ (∀ q ∈ st, vk_R "CharOutlines" q.1 q.2 (ad q.1) U) ∧ va_Nc "java/lang/IllegalArgumentException" "java/lang/IndexOutOfBoundsException" U
theorem XU.warm {st : List (Nat × String)} {ad : Nat → Nat} {A : Nat → Prop} {s U : State} {H : Heap} (hW : s.WarmedH U.vm) (h : XU st ad A s H) : XU st ad A U H := ⟨h.1.moved hW.alike, h.2.1.moved hW.alike, fun q hq => (h.2.2.1 q hq).warm hW, h.2.2.2.moved hW.alike⟩
theorem XU.kept {st : List (Nat × String)} {ad : Nat → Nat} {A : Nat → Prop} {U : State} {H H1 : Heap} (h : XU st ad A U H) (hq : ∀ a : Nat, a < H.size → ¬ A a → H1[a]? = H[a]?) : XU st ad A U H1 := ⟨h.1.kept hq, h.2.1.kept hq, h.2.2⟩
theorem XU.narrow {st : List (Nat × String)} {ad : Nat → Nat} {A B : Nat → Prop} {U : State} {H : Heap} (h : XU st ad A U H) (hAB : ∀ q, B q → A q) : XU st ad B U H := ⟨h.1.narrow hAB, h.2.1.narrow hAB, h.2.2⟩
theorem XU.same {st : List (Nat × String)} {ad : Nat → Nat} {A : Nat → Prop} {s U : State} {H : Heap} (hv : U.vm = s.vm) (h : XU st ad A s H) : XU st ad A U H := ⟨h.1.moved (by rw [hv]; exact Vm.Alike.refl _), h.2.1.moved (by rw [hv]; exact Vm.Alike.refl _), fun q hq => (h.2.2.1 q hq).same hv, h.2.2.2.moved (by rw [hv]; exact Vm.Alike.refl _)⟩
def TrPX (D : va_G) (cl : List vw_C) (tys : List (ClassId × FieldType)) (NX : List Cond) (st : List (Nat × String)) (ad : Nat → Nat) (av : List Value) (wc : va_W) : Array Value → State → Prop := fun v U => TrP D cl tys NX av wc v U ∧ XU st ad (va_A wc U.heap.size) U U.heap
def TxQ (D : va_G) (cl : List vw_C) (wc : va_W) (post : Option Value → va_W → Nat → Nat → Prop) (px : String → Prop) : Array Value → State → Outcome → State → Prop := fun a st o t =>
  (∃ (L : List Loc) (k n : Nat), FrameEnd st o t L k n ∧ TrQ D cl wc post a st o t L k n) ∨
  ∃ (x : Addr) (X : String) (ce : Cell), o = .threw x ∧ st.WarmedH t.vm ∧ st.sameButNew ({ t with vm := st.vm } : State) [] 1 6 ∧ px X ∧ t.heap[x]? = some ce ∧ st.vm.findClass X = some ce.cls ∧ ce.vm = .none
def TrX (l : Launch) (D : va_G) (cl : List vw_C) (tys : List (ClassId × FieldType)) (Ts NX : List Cond) (st : List (Nat × String)) (ad : Nat → Nat) (y : MethodName) (bytes : ByteArray) (maxL : Nat) (ret : Option FieldType) (rm : Room) (av : List Value) (wc : va_W) (post : Option Value → va_W → Nat → Nat → Prop) (px : String → Prop) : Prop :=
  MetFree l y (headSpec (Cond.code y bytes maxL ret :: Ts) rm) (TrPX D cl tys NX st ad av wc) (fun _ _ _ _ _ => True) (TxQ D cl wc post px)
def MQX (below : List Frame) (D : va_G) (cl : List vw_C) (A : Nat → Prop) (post : Option Value → va_W → Nat → Nat → Prop) (px : String → Prop) (s : State) : State → Prop := fun t =>
  MQT below D cl A post s t ∨ ∃ (x : Addr) (X : String) (ce : Cell), t.status = .running ∧ Ended t below (.threw x) ∧ s.WarmedH t.vm ∧ s.sameButNew ({ t with vm := s.vm } : State) [] 1 6 ∧ px X ∧ t.heap[x]? = some ce ∧ s.vm.findClass X = some ce.cls ∧ ce.vm = .none
theorem TrX.intro {l : Launch} {D : va_G} {cl : List vw_C} {tys : List (ClassId × FieldType)} {Ts NX : List Cond} {st : List (Nat × String)} {ad : Nat → Nat} {y : MethodName} {bytes : ByteArray} {maxL : Nat} {ret : Option FieldType} {rm : Room} {av : List Value} {wc : va_W} {post : Option Value → va_W → Nat → Nat → Prop} {px : String → Prop}
    (hy : plainFor y = true) (hN : NXok NX) (hsz : (lg_sl av).length ≤ maxL)
    (body : ∀ (p : Program) (e : Env) (s : State) (m : MethodId) (args : Array Value) (below : List Frame) (meth : Method) (c : Code) (A : Nat → Prop) (ls : Array Slot),
      p.tables.exec = Jvm.exec → c.code = bytes → c.maxLocals = maxL → s.vm.findClass y.cls = some m.cls → (∀ w ∈ Ts, w.before args s = true) → meth.sig.returnType = ret → meth.locks = false → meth.name = y.name →
      Sit D cl tys NX s A → va_P D cl wc s.heap → va_D A wc → va_S A s.heap s.heap [] → lv_has ls maxL (lv_args 0 av) → XU st ad A s s.heap → c.exceptionTable.isEmpty = true →
      W p l e rm s m args below meth c s.heap [] 0 0 (MQX below D cl A post px s) (F0 m 0 ls [])) : TrX l D cl tys Ts NX st ad y bytes maxL ret rm av wc post px := by
  unfold TrX
  refine MetFree.of_bodySF (code := bytes) (maxLocals := maxL) (ret := ret) hy ?_ ?_
  · intro args s m h hn
    obtain ⟨meth, c, h1, h2, h3, h4, h5, h6, -, -⟩ := Cond.code_spec hn (atoms_spec (ws := Cond.code y bytes maxL ret :: Ts) h _ List.mem_cons_self)
    exact ⟨meth, c, h1, h2, h3, h4, h5, h6⟩
  · intro p e s m args below meth c s₁ B hml hP _
    obtain ⟨⟨rfl, hP, hK, hD0, hNs⟩, hX⟩ := hP
    have hh0 : s₁.heap = s.heap := by rw [B.state]; rfl
    have hts := atoms_spec (ws := Cond.code y bytes maxL ret :: Ts) B.pre
    have hb := body p e s m av.toArray below meth c (va_A wc s.heap.size) _ B.exec B.bytes hml (findClass_of_methodNamed B.named) (fun w hw => hts w (List.mem_cons_of_mem _ hw)) B.returns B.notSynchronized (name_of_methodNamed B.named B.method).1
      ⟨hK, hNs, hN, fun q h => Or.inr h⟩ hP (hD0.self (sz := s.heap.size)) va_S.rf (lv_entry av (n := maxL) hsz) hX (B.noHandlers (hts _ List.mem_cons_self))
    rw [← lg_entry_eq] at hb
    obtain ⟨t, a1, hq⟩ := hb s₁ hh0 (Stand.of_body B)
    rcases hq with ⟨v, w1, L, k, n, b1, b2, b3, b4, b5, b6, b7, b8⟩ | ⟨x, X, ce, b1, b2, b3, b4, b5, b6, b7, b8⟩
    · exact ⟨t, .returned v, a1, b1, b2, Or.inl ⟨L, k, n, b3, v, w1, rfl, b4, b5, b6, b7, b8⟩⟩
    · exact ⟨t, .threw x, a1, b1, b2, Or.inr ⟨x, X, ce, rfl, b3, b4, b5, b6, b7, b8⟩⟩
section XT
variable {p : Program} {l : Launch} {e : Env} {R : Room} {s : State} {m : MethodId} {args : Array Value} {below : List Frame} {meth : Method} {c : Code} {H : Heap} {locs : List Loc} {cells slots : Nat} {Q : State → Prop}
variable {cc : ByteArray} {pc : Nat} {ls : Array Slot} {D : va_G} {cl : List vw_C} {A : Nat → Prop} {post : Option Value → va_W → Nat → Nat → Prop} {px : String → Prop}
theorem x_ret {g : JFrame} (h : W p l e R s m args below meth c H locs cells slots (MQT below D cl A post s) g) : W p l e R s m args below meth c H locs cells slots (MQX below D cl A post px s) g := by
  intro T hT X
  obtain ⟨t, a, b⟩ := h T hT X
  exact ⟨t, a, Or.inl b⟩
/-- throw new cls(text) -/
theorem x_throw (hfl : l.flags = pinnedFlags ++ [noTraceFlag]) (hx : p.tables.exec = Jvm.exec) (hb : c.code = cc) (hml : c.maxLocals = ls.size) (hlk : meth.locks = false) {own cls tx : String} {names : List String} {ia ib ic q : Nat} (hown : s.vm.findClass own = some m.cls)
    (hcls : Bundle.fit cls = true) (hnames : ∀ n ∈ names, Bundle.fit n = true) (hat : ∀ a ∈ Bundle.ownAtoms own ic cls names, a.before args s = true) (hcl : (Cond.classLink own ia cls).before args s = true) (hini : (Cond.initialized cls).before args s = true) (hst : vk_R own ib tx q s)
    (hno : c.exceptionTable.isEmpty = true) (hRf : names.length + 3 < R.frames) (hRl : 1 + (13 * (names.length + 1) + 42) ≤ R.locals) (hRc : 1 ≤ R.cells) (hRs : 6 ≤ R.slots) (hpx : px cls)
    (d0 : decode cc pc = .ok (.new ia, 3)) (d3 : decode cc (pc + 3) = .ok (.dup, 1)) (d4 : decode cc (pc + 3 + 1) = .ok (.ldc ib, 2)) (d6 : decode cc (pc + 3 + 1 + 2) = .ok (.invokespecial ic, 3)) (d9 : decode cc (pc + 3 + 1 + 2 + 3) = .ok (.athrow, 1)) :
    W p l e R s m args below meth c s.heap [] 0 0 (MQX below D cl A post px s) (F0 m pc ls []) := by
  have hins : (Cond.instantiable cls 6).before args s = true := hat _ (by simp [Bundle.ownAtoms])
  refine W.newc (n := 6) hx hb hown hcl hins hini rfl d0 (by omega) (by omega) (fun cC kC h1 h2 h3 h4 => ?_)
  refine W.eq (g2 := F0 m (pc + 3) ls [.ref s.heap.size]) rfl ?_
  refine lv_dup hx hb d3 rfl ?_
  refine va_ldcS hx hb hown hst d4 ?_
  intro T hT X
  have hcell : T.heap[s.heap.size]? = some (freshCell cC kC) := by
    rw [hT]
    simp [freshCell]
  have htr : e.platform.stackTraces = false := Launch.traces_off hfl X.admits
  have hout : ∀ x ∈ c.exceptionTable.toList, covers x (pc + 3 + 1 + 2 + 3) = false := by
    intro x hx
    have : c.exceptionTable = #[] := Array.isEmpty_iff.mp hno
    rw [this] at hx
    cases hx
  obtain ⟨U, u1, u2, u3, u4, u5, ce, u6, u7⟩ := X.ctorThrowS hx htr (own := own) (cls := cls) (names := names) (ic := ic) hown hcls hnames hat (fun x hx => by cases hx) h1 h2 hcell (Nat.le_refl _) (msg := .ref q) rfl
    (g := F0 m (pc + 3 + 1 + 2) ls [.ref q, .ref s.heap.size, .ref s.heap.size]) rfl hml.symm rfl rfl (rest := []) rfl (by rw [hb]; exact d6) (by rw [hb]; exact d9) hout hRf (by show 2 * 0 + _ + _ ≤ _; simp [Value.category]; omega) (hlocks := hlk)
  exact ⟨U, u1, Or.inr ⟨s.heap.size, cls, ce, u2, u3, u4, by simpa using u5, hpx, u6, u7.cls, u7.vm⟩⟩
end XT
end
section
/-! CATCHING: the search of a handler whose classes may have to be linked; the call whose exception is caught; methods with a table of handlers. -/
theorem cx_row {e : Env} {S : State} {f : JFrame} {a : Addr} {x : ExceptionTableEntry} {t : List ExceptionTableEntry} {c : ClassId} {cell : Cell} (hx : covers x f.pc = true) (h0 : x.catchType ≠ 0)
    (hl : S.vm.ClassLinks e.platform f.method.cls x.catchType c) (hcell : S.heap[a]? = some cell) (hobj : ∀ k, cell.vm ≠ .statics k) (hk : ∃ k, S.vm.classes[cell.cls]? = some k) (hc : ∃ k, S.vm.classes[c]? = some k)
    {Q : Handler → Pre} {E : CtlPost} {d : Bool} {acts : List Action} :
    wp (findHandler.go f a (x :: t)) Q E e d acts S ↔ if S.vm.assignable cell.cls c = true then Q (.found x.handlerPc) d acts (S.setVm (S.vm.noted f.method.cls x.catchType (.cls c))) else wp (findHandler.go f a t) Q E e d acts (S.setVm (S.vm.noted f.method.cls x.catchType (.cls c))) := by
  simp only [covers] at hx
  obtain ⟨ha, ht⟩ := (resolveClass_links e.toSetting hl).op (op := VmOp.resolveClass f.method.cls x.catchType) rfl
  have hal : S.vm.Alike (S.vm.noted f.method.cls x.catchType (.cls c)) := (Vm.Alike.refl S.vm).noted _ _ _
  obtain ⟨k1, hk1⟩ := hk
  obtain ⟨k2, hk2⟩ := hc
  obtain ⟨k1', hk1', -⟩ := hal.2.2 _ _ hk1
  obtain ⟨k2', hk2', -⟩ := hal.2.2 _ _ hk2
  cases hfit : S.vm.assignable cell.cls c
  · have hfit' : (S.vm.noted f.method.cls x.catchType (.cls c)).assignable cell.cls c = false := by rw [hal.assignable]; exact hfit
    simp [findHandler.go, hx, h0, ha, ht, hcell, hobj, hk1', hk2', hfit', VmOp.dirties, VmOp.acts]
  · have hfit' : (S.vm.noted f.method.cls x.catchType (.cls c)).assignable cell.cls c = true := by rw [hal.assignable]; exact hfit
    simp [findHandler.go, hx, h0, ha, ht, hcell, hobj, hk1', hk2', hfit', VmOp.dirties, VmOp.acts]
/-- a row of the table that links, at the method's start, to the name tn -/
def CxL (pl : Platform) (s : State) (d : ClassId) (y : ExceptionTableEntry) (c : ClassId) : Prop := y.catchType ≠ 0 ∧ s.vm.ClassLinks pl d y.catchType c
theorem cx_through {e : Env} {s : State} {f : JFrame} {a : Addr} {cell : Cell} (hobj : ∀ k, cell.vm ≠ .statics k) (hk0 : ∃ k, s.vm.classes[cell.cls]? = some k)
    (x : ExceptionTableEntry) (rest : List ExceptionTableEntry) (hx : covers x f.pc = true) {cx : ClassId} (hend : CxL e.platform s f.method.cls x cx) (hfit : s.vm.assignable cell.cls cx = true) :
    ∀ (pre : List ExceptionTableEntry) (S : State), s.WarmedH S.vm → S.heap[a]? = some cell → (∀ y ∈ pre, covers y f.pc = true ∧ ∃ c, CxL e.platform s f.method.cls y c ∧ s.vm.assignable cell.cls c = false) →
      ∃ vm', s.WarmedH vm' ∧ ∀ (Q : Handler → Pre) (E : CtlPost) (d : Bool) (acts : List Action), wp (findHandler.go f a (pre ++ x :: rest)) Q E e d acts S ↔ Q (.found x.handlerPc) d acts (S.setVm vm') := by
  obtain ⟨k0, hk0⟩ := hk0
  intro pre
  induction pre with
  | nil =>
    intro S hW hcell _
    obtain ⟨k0', hk0', -⟩ := hW.alike.2.2 _ _ hk0
    obtain ⟨h0, hl⟩ := hend
    obtain ⟨dk, _, _, kt, hd, _, _, _, _, hkt, _, hopen⟩ := hl.here
    obtain ⟨kt', hkt', -⟩ := hW.alike.2.2 _ _ hkt
    exact ⟨_, hW.noted hd hopen (State.rightAt_cls hl), fun Q E d acts => by
      rw [List.nil_append, cx_row hx h0 (hW.classLinks hl) hcell hobj ⟨k0', hk0'⟩ ⟨kt', hkt'⟩, if_pos (by rw [hW.alike.assignable]; exact hfit)]⟩
  | cons y ys ih =>
    intro S hW hcell hpass
    obtain ⟨k0', hk0', -⟩ := hW.alike.2.2 _ _ hk0
    obtain ⟨hcov, c, ⟨h0, hl⟩, hno⟩ := hpass y List.mem_cons_self
    obtain ⟨dk, _, _, kt, hd, _, _, _, _, hkt, _, hopen⟩ := hl.here
    obtain ⟨kt', hkt', -⟩ := hW.alike.2.2 _ _ hkt
    have hW2 := hW.noted hd hopen (State.rightAt_cls hl)
    obtain ⟨vm', hW3, hgo⟩ := ih (S.setVm (S.vm.noted f.method.cls y.catchType (.cls c))) hW2 hcell (fun z hz => hpass z (List.mem_cons_of_mem _ hz))
    refine ⟨vm', hW3, fun Q E d acts => ?_⟩
    rw [List.cons_append, cx_row hcov h0 (hW.classLinks hl) hcell hobj ⟨k0', hk0'⟩ ⟨kt', hkt'⟩, if_neg (by rw [hW.alike.assignable, hno]; decide), hgo]
    rfl
theorem cx_caught {tb : Tables} {e : Env} {S target : State} {g : JFrame} {c : Code} {below : List Frame} {a : Addr} (h : At S g.method c below) {pc : Nat} {vm' : Vm}
    (hfind : ∀ (Q : Handler → Pre) (E : CtlPost) (d : Bool) (acts : List Action), wp (findHandler g a) Q E e d acts ((S.setTop g).pushFrame (.throwing a)) ↔ Q (.found pc) d acts (((S.setTop g).pushFrame (.throwing a)).setVm vm'))
    (hrest : Steps tb e below ((S.setVm vm').setTop { g with pc := pc, stack := [.ref a] }) target) :
    Steps tb e below ((S.setTop g).pushFrame (.throwing a)) target := by
  obtain ⟨hgo, hw⟩ := h.throwing a
  refine Steps.head hgo hw ?_
  have hstep : (stepThrowing e ((S.setTop g).pushFrame (.throwing a)) a (.java g :: S.frames.tail)).1 = ((((S.setTop g).pushFrame (.throwing a)).setVm vm').setFrames (.java { g with pc := pc, stack := [.ref a] } :: S.frames.tail)) := by
    simp only [stepThrowing, searchFrame, vmDo]
    generalize hr : Sem.go _ e false [] ((S.setTop g).pushFrame (.throwing a)) = res
    obtain ⟨as, rfl, ha⟩ := Sem.eq_ok_of hr (a := Handler.found pc) (s' := ((S.setTop g).pushFrame (.throwing a)).setVm vm') (acts' := []) (by simp [hfind _ _ _ _])
    rfl
  rw [stepThread_throwing (frames_entered h.top _), hstep]
  obtain ⟨g₀, hg⟩ := Option.isSome_iff_exists.mp h.top
  obtain ⟨r, hr⟩ := State.topJava?_eq_some.mp hg
  have hr' : (S.setVm vm').frames = .java g₀ :: r := hr
  have key : ∀ (u : State) (vm' : Vm) (F G : List Frame), ((u.setFrames F).setVm vm').setFrames G = (u.setVm vm').setFrames G := fun u vm' F G => by
    have h1 : (u.setFrames F).setVm vm' = (u.setVm vm').setFrames F := rfl
    rw [h1, State.setFrames_setFrames]
  rw [State.setTop_of_frames _ hr'] at hrest
  rw [hr, List.tail_cons, State.pushFrame, key, State.setTop_of_frames _ hr, key]
  exact hrest
/-- the rows of a table of handlers, for the pc of a call: an exception of the kind X is caught at hp -/
def Hnd (pl : Platform) (s : State) (d : ClassId) (c : Code) (pc : Nat) (X : String) (hp : Nat) : Prop :=
  ∃ (pre : List ExceptionTableEntry) (x : ExceptionTableEntry) (rest : List ExceptionTableEntry) (cX cx : ClassId), c.exceptionTable.toList = pre ++ x :: rest ∧ covers x pc = true ∧ x.handlerPc = hp ∧ s.vm.findClass X = some cX ∧ CxL pl s d x cx ∧ s.vm.assignable cX cx = true ∧
    ∀ y ∈ pre, covers y pc = true ∧ ∃ c, CxL pl s d y c ∧ s.vm.assignable cX c = false
/-- the way back of a call that returned -/
theorem x_back {p : Program} {l : Launch} {e : Env} {R : Room} {s : State} {m : MethodId} {args : Array Value} {below : List Frame} {meth : Method} {c : Code} {U : State} {locs : List Loc} {cells slots : Nat} (X : Stand p l e R s m args below meth c U locs cells slots) {g : JFrame} (hg : g.method = m) {ig : Instr} {len : Nat} (hdg : decode c.code g.pc = .ok (ig, len))
    {mk : MethodId} {a : Array Value} {s₂ : State} {v : Option Value} {L : List Loc} {k n : Nat} (hend : Ended s₂ (.java g :: U.frames.tail) (.returned v)) (hW₂ : (U.calling g mk a).WarmedH s₂.vm) (hsame : (U.calling g mk a).sameButNew ({ s₂ with vm := (U.calling g mk a).vm } : State) L k n) :
    ∃ T' : State, Stand p l e R s m args below meth c T' (locs ++ L) (cells + k) (slots + n) ∧ s₂ = T'.setTop { g with pc := g.pc + len, stack := v.toList ++ g.stack } ∧ T'.heap = s₂.heap ∧ T'.vm = s₂.vm := by
  have h : At U g.method c below := by rw [hg]; exact X.here
  obtain ⟨e2, q2, q3, q4, q5, q6⟩ := hsame
  have e3 : s₂ = ({ (U.calling g mk a).setFrames s₂.frames with heap := s₂.heap, slotsUsed := s₂.slotsUsed } : State).setVm s₂.vm := by
    have : s₂ = ({ s₂ with vm := (U.calling g mk a).vm } : State).setVm s₂.vm := rfl
    rw [e2] at this
    exact this
  obtain ⟨c₂, i₂, len₂, hc₂, hd₂, hf₂⟩ := hend
  have hW' : U.WarmedH s₂.vm := hW₂
  have hcc : c₂ = c := by
    have h1 : s₂.code? g.method = U.code? g.method := by
      rw [State.code?_eq, State.code?_eq, hW'.alike.method?]
    exact Option.some.inj (hc₂.symm.trans (h1.trans h.code))
  subst hcc
  have hlen : len₂ = len := by rw [hdg] at hd₂; cases hd₂; rfl
  subst hlen
  obtain ⟨g₀, hg0⟩ := Option.isSome_iff_exists.mp h.top
  obtain ⟨r, hr⟩ := State.topJava?_eq_some.mp hg0
  have hs₂ : s₂ = (({ U with heap := s₂.heap, slotsUsed := s₂.slotsUsed } : State).setVm s₂.vm).setTop { g with pc := g.pc + len₂, stack := v.toList ++ g.stack } := by
    have hr' : (({ U with heap := s₂.heap, slotsUsed := s₂.slotsUsed } : State).setVm s₂.vm).frames = .java g₀ :: r := hr
    refine e3.trans ?_
    rw [hf₂, State.calling_eq h.top, State.setFrames_setFrames, State.setTop_of_frames _ hr', hr]
    rfl
  have hsame : U.sameButNew ({ U with heap := s₂.heap, slotsUsed := s₂.slotsUsed } : State) L k n := by
    refine ⟨?_, q2, q3, q4, q5, q6⟩
    obtain ⟨t, ht, -⟩ := State.frames_cons hr
    show ({ U with heap := s₂.heap, slotsUsed := s₂.slotsUsed } : State) = { U.setFrames U.frames with heap := s₂.heap, slotsUsed := s₂.slotsUsed }
    rw [State.setFrames_self ht]
  subst hg
  exact ⟨({ U with heap := s₂.heap, slotsUsed := s₂.slotsUsed } : State).setVm s₂.vm,
    ⟨X.admits, X.cas, X.clock, X.frames, X.room, X.hears, X.method, X.code, (X.here.setHeapUsed s₂.heap s₂.slotsUsed).setVm hW'.alike, X.tail, State.WarmedH.trans X.warmed hW', X.limits, X.bytes, X.same.trans (hsame.setVm s.vm)⟩, hs₂, rfl, rfl⟩
section XC
variable {p : Program} {l : Launch} {e : Env} {R : Room} {s : State} {m : MethodId} {args : Array Value} {below : List Frame} {meth : Method} {c : Code} {H : Heap} {locs : List Loc} {cells slots : Nat} {Q : State → Prop}
variable {y : MethodName} {bytes cc : ByteArray} {maxL nL n index : Nat} {ret : Option FieldType} {rm : Room} {Ts NX : List Cond} {own C : String} {b : Addr} {As rest st0 : List Value} {pc : Nat} {ls : Array Slot}
variable {D : va_G} {cl : List vw_C} {tys : List (ClassId × FieldType)} {ws wc wr : va_W} {A0 : Nat → Prop} {post : Option Value → va_W → Nat → Nat → Prop} {px : String → Prop} {st : List (Nat × String)} {ad : Nat → Nat}
theorem same_cells {S t : State} {k n : Nat} (h : S.sameButNew t [] k n) : ∀ q : Nat, q < S.heap.size → t.heap[q]? = S.heap[q]? := by
  intro q hq
  obtain ⟨-, -, -, -, -, h6⟩ := h
  have hc : S.heap[q]? = some S.heap[q] := Array.getElem?_eq_getElem hq
  obtain ⟨c', h1, h2, h3, h4⟩ := h6 q _ hc
  rw [h1, hc]
  have : c'.slots = S.heap[q].slots := by
    apply Array.ext_getElem?
    intro i
    exact h4 i (by simp)
  rw [h2, this]
theorem x_callV (S : CallFix p m c cc nL s args Ts own) (hG : GoodIn Ts Ts) (hM : TrX l D cl tys Ts NX st ad y bytes maxL ret rm (.ref b :: As) wc post px) (hc : CalV Ts C y bytes maxL ret n) (hl : Cond.methodLink own index y ∈ Ts) (hR : rm.frames + 1 ≤ R.frames ∧ 8 + (maxL + 11) + rm.locals ≤ R.locals) (hZ : Sit D cl tys NX s A0) (hXU : XU st ad A0 s s.heap) (hP : va_P D cl ws H) (hD : va_D A0 ws) (hS : va_S A0 s.heap H locs)
    {isC isR : List Nat} (hC : Cut ws wc wr isC isR) (q0 : Nat) {ci : Nat} {fs : List Value} {qc : vw_C} (hci : cl[ci]? = some qc) (hcn : qc.1 = C) (hq0 : ws[q0]? = some (b, .inr (ci, fs)))
    (hn : As.length = n) (hsize : ls.size = nL) (hst : st0 = As.reverse ++ .ref b :: rest) (hW : (rest.map fun v => v.category).sum ≤ 8) (hdg : decode cc pc = .ok (.invokevirtual index, 3)) (hf : cells + rm.cells ≤ R.cells ∧ slots + rm.slots ≤ R.slots)
    (hp : String → Nat) (hh : ∀ X, px X → Hnd e.platform s m.cls c pc X (hp X))
    (kr : ∀ (v : Option Value) (w1 : va_W) (k n : Nat) (H1 : Heap) (locs1 : List Loc), post v w1 k n → va_P D cl (wr ++ w1) H1 → va_D A0 (wr ++ w1) → va_S A0 s.heap H1 locs1 → W p l e R s m args below meth c H1 locs1 (cells + k) (slots + n) Q (F0 m (pc + 3) ls (v.toList ++ rest)))
    (kx : ∀ (X : String) (x : Addr) (H1 : Heap), px X → va_P D cl ws H1 → va_S A0 s.heap H1 locs → W p l e R s m args below meth c H1 locs (cells + 1) (slots + 6) Q (F0 m (hp X) ls [.ref x])) :
    W p l e R s m args below meth c H locs cells slots Q (F0 m pc ls st0) := by
  subst hcn
  obtain ⟨hx, hb, hml, ho, ht⟩ := S
  intro T hT X
  obtain ⟨cellB, hcB, hoB, hclB⟩ := va_recv hZ.1 hP hci hq0
  obtain ⟨mk, methM, hnamed, hmethM, hstM, habM⟩ := Cond.instanceMethod_spec (ht _ hc.2.1)
  obtain ⟨methM', cM, hmethM', -, -, -, -, -, -, hsigM⟩ := Cond.code_spec hnamed (ht _ hc.1.1)
  cases hmethM.symm.trans hmethM'
  obtain ⟨c2, r2, m2, q1, q2, q3, q4, kP, hkP, hkPi⟩ := Cond.selects_spec (ht _ hc.2.2)
  cases hclB.symm.trans q1
  cases (State.methodFound?_of_named hnamed hc.1.2.2.1).symm.trans q2
  cases hnamed.symm.trans q3
  have hselP : selectMethod e.platform s.vm cellB.cls mk = .method mk := by rw [Launch.admits_selectMethod X.admits]; exact q4
  obtain ⟨vm₁, X₁, hstep₁⟩ := X.invokevirtual hx ho (ht _ hl) hnamed hmethM hstM hkP hkPi hc.1.2.2.1 (a := b) (cell := cellB) (by rw [hT]; exact hcB)
    (fun z h => by rw [h] at hoB; cases hoB) hselP hmethM habM hkP hkPi (g := F0 m pc ls st0) rfl (argsL := As) (rest := rest) (hn.trans (hc.1.len _ hsigM)) hst (by rw [hb]; exact hdg)
  -- the callee, from its contract
  have hdg' : decode c.code pc = .ok (.invokevirtual index, 3) := by rw [hb]; exact hdg
  have hn1 : (T.setVm vm₁).methodNamed? y = some mk := X₁.named hnamed
  have hws : ∀ w ∈ (Cond.code y bytes maxL ret :: Ts), w.before (Value.ref b :: As).toArray (T.setVm vm₁) = true := by
    intro w hw
    rcases List.mem_cons.mp hw with rfl | hw
    · exact pay_in ht hG _ hc.1.1 _ _ X₁.warmed
    · exact pay_in ht hG _ hw _ _ X₁.warmed
  obtain ⟨methY, cY, hmY, hcY, -, hlY, -, -, -, -⟩ := Cond.code_spec hn1 (hws _ List.mem_cons_self)
  obtain ⟨kY, hkY, -⟩ := className_of_methodNamed hn1
  have hinitY : kY.init = .initialized := Cond.initialized_spec (findClass_of_methodNamed hn1) hkY (hws _ (List.mem_cons_of_mem _ hc.1.2.1))
  have hAt : At (T.setVm vm₁) m c below := X₁.here
  have happ : (headSpec (Cond.code y bytes maxL ret :: Ts) rm).appliesLoose y e.platform ((T.setVm vm₁).calling (F0 m pc ls rest) mk (Value.ref b :: As).toArray) = true :=
    Spec.appliesLoose_calling (g := F0 m pc ls rest) hAt hdg' hn1 hkY hinitY (X₁.room_calling (g := F0 m pc ls rest) (R' := rm) (hsize.trans hml.symm) hmY hcY hR.1 (by rw [hlY]; have := lv_room (m := m) (pc := pc) (ls := ls) (rest := rest) hW; show 2 * (F0 m pc ls rest).monitorRoom + (rest.map fun v => v.category).sum + (maxL + 11) + rm.locals ≤ R.locals; omega) hf.1 hf.2) (atoms_intro hws)
  have hF : ∀ q, va_A wc H.size q → A0 q := va_free hD hS hZ.2.2.2 isC hC.1
  have hPc0 : TrPX D cl tys NX st ad (.ref b :: As) wc (Value.ref b :: As).toArray (T.setVm vm₁) := by
    refine ⟨TrP.at (av := .ref b :: As) hZ hP hD hC (T.setVm vm₁) hT X₁.warmed, ?_⟩
    have h1 : XU st ad A0 s (T.setVm vm₁).heap := hXU.kept (fun q h1 h2 => by show T.heap[q]? = _; rw [hT]; exact hS.2.1 q h1 h2)
    exact (h1.narrow (fun q hq => hF q (by have e : (T.setVm vm₁).heap = H := hT; rw [e] at hq; exact hq))).warm X₁.warmed
  have hPc : TrPX D cl tys NX st ad (.ref b :: As) wc (Value.ref b :: As).toArray ((T.setVm vm₁).calling (F0 m pc ls rest) mk (Value.ref b :: As).toArray) :=
    ⟨TrP.blind hZ.2.2.1 _ _ _ _ hPc0.1, hPc0.2.same (s := T.setVm vm₁) rfl⟩
  obtain ⟨mid, hmid⟩ := hAt.above
  have hfr : ((T.setVm vm₁).setTop (F0 m pc ls rest)).frames = (.java (F0 m pc ls rest) :: mid) ++ below := by rw [State.frames_setTop' (F0 m pc ls rest) hAt.top, hmid]; rfl
  obtain ⟨o, s₂, hsteps, -, hend, hq⟩ := Steps.callFree hM p X₁.admits X₁.cas X₁.clock (acts := []) hfr happ hPc trivial
  have hh0 : ((T.setVm vm₁).calling (F0 m pc ls rest) mk (Value.ref b :: As).toArray).heap = H := hT
  rw [State.frames_setTop' (F0 m pc ls rest) hAt.top] at hend
  have hq : TxQ D cl wc post px (Value.ref b :: As).toArray ((T.setVm vm₁).calling (F0 m pc ls rest) mk (Value.ref b :: As).toArray) o s₂ := hq
  rcases hq with ⟨L, k, n', hfe, v, w1, rfl, hpost, hP1, hD1, hF1, hL⟩ | ⟨x, XX, ce, rfl, hW₂, hsame, hpx, hce, hcX, hvmX⟩
  · -- it returned
    obtain ⟨-, hW₂, hsame⟩ := hfe
    obtain ⟨T', X', hT', hheap, hvm'⟩ := x_back X₁ (g := F0 m pc ls rest) rfl hdg' hend hW₂ hsame
    have hzz : ((T.setVm vm₁).calling (F0 m pc ls rest) mk (Value.ref b :: As).toArray).heap.size = H.size := by rw [hh0]
    rw [hzz] at hD1 hL
    have hk : ∀ q : Nat, q < H.size → ¬ va_A wc H.size q → T'.heap[q]? = H[q]? := fun q h1 h2 => by
      rw [hheap, ← hh0]
      exact hF1.2 q (by rw [hzz]; exact h1) (by rw [hzz]; exact h2)
    have hz : H.size ≤ T'.heap.size := by rw [hheap, ← hzz]; exact hF1.1
    obtain ⟨hPj, hDj⟩ := va_join (wr := wr) (w1 := w1) hP hD isC isR hC.1 hC.2.1 hC.2.2.2.1 hC.2.2.2.2 hk hF (by rw [hheap]; exact hP1) hD1
    obtain ⟨t2, a1, b1⟩ := kr v w1 k n' T'.heap (locs ++ L) hpost hPj hDj ⟨Nat.le_trans hS.1 hz, fun q h1 h2 => by
        rw [hk q (Nat.lt_of_lt_of_le h1 hS.1) (fun z => h2 (hF q z))]
        exact hS.2.1 q h1 h2, fun q hq => by
        rcases List.mem_append.mp hq with h | h
        · exact hS.2.2 q h
        · exact hF _ (hL q h)⟩ T' rfl X'
    refine ⟨t2, hstep₁ _ (fun acts => ?_), b1⟩
    rw [doInvoke_state]
    exact hsteps.trans (by rw [hT']; exact a1)
  · -- it threw
    rw [X₁.tail] at hend
    obtain ⟨T', X', hW', hB, ht2⟩ := X₁.outOfThrown (g := F0 m pc ls rest) rfl hend hW₂ hsame
    rw [List.append_nil] at X'
    have hold : ∀ q : Nat, q < H.size → T'.heap[q]? = H[q]? := fun q hq => by
      have := same_cells hB q (by show q < T.heap.size; rw [hT]; exact hq)
      rw [← hT]; exact this
    have hT'h : T'.heap = s₂.heap := by rw [ht2]; exact (Stand.throwing_heap T' (F0 m pc ls rest) x).symm
    have hsz : H.size ≤ T'.heap.size := by rw [← hT]; exact hB.2.1
    have hcX1 : s.vm.findClass XX = some ce.cls := by
      have : ((T.setVm vm₁).calling (F0 m pc ls rest) mk (Value.ref b :: As).toArray).vm.findClass XX = some ce.cls := hcX
      rw [← X₁.warmed.alike.findClass]; exact this
    obtain ⟨pre, xr, rest', cX, cx, htab, hcov, hhp, hfX, hlx, hasg, hpass⟩ := hh XX hpx
    cases hfX.symm.trans hcX1
    have hkX : ∃ k, s.vm.classes[ce.cls]? = some k := Vm.classAt_of_findClass hcX1
    have hTh : ((T'.setTop (F0 m pc ls rest)).pushFrame (.throwing x)).heap[x]? = some ce := by rw [← ht2]; exact hce
    have hTv : ((T'.setTop (F0 m pc ls rest)).pushFrame (.throwing x)).vm = T'.vm := Stand.throwing_vm T' (F0 m pc ls rest) x
    obtain ⟨vm', hW3, hgo⟩ := cx_through (e := e) (s := s) (f := F0 m pc ls rest) (a := x) (cell := ce) (fun k hk => by rw [hvmX] at hk; cases hk) hkX xr rest' hcov hlx hasg pre ((T'.setTop (F0 m pc ls rest)).pushFrame (.throwing x)) (by rw [hTv]; exact X'.warmed) hTh hpass
    have hmeth : ((T'.setTop (F0 m pc ls rest)).pushFrame (.throwing x)).vm.method? (F0 m pc ls rest).method = some meth := by rw [hTv]; exact X'.method'
    have hfind : ∀ (Q : Handler → Pre) (E : CtlPost) (d : Bool) (acts : List Action), wp (findHandler (F0 m pc ls rest) x) Q E e d acts ((T'.setTop (F0 m pc ls rest)).pushFrame (.throwing x)) ↔ Q (.found (hp XX)) d acts (((T'.setTop (F0 m pc ls rest)).pushFrame (.throwing x)).setVm vm') := by
      intro Q E d acts
      rw [W.findHandler_eq hmeth X'.code, htab, hgo, hhp]
    obtain ⟨t3, a3, b3⟩ := kx XX x T'.heap hpx (hP.kept (fun k q hk => hold q.1 ((hP k q hk).lt))) ⟨Nat.le_trans hS.1 hsz, fun q h1 h2 => (hold q (Nat.lt_of_lt_of_le h1 hS.1)).trans (hS.2.1 q h1 h2), hS.2.2⟩ (T'.setVm vm') rfl (X'.noted hW3)
    refine ⟨t3, hstep₁ _ (fun acts => ?_), b3⟩
    rw [doInvoke_state]
    refine hsteps.trans ?_
    rw [ht2]
    exact cx_caught X'.here hfind a3
end XC
/-! methods with a table of handlers, that return -/
def TrW (l : Launch) (D : va_G) (cl : List vw_C) (tys : List (ClassId × FieldType)) (Ts NX : List Cond) (st : List (Nat × String)) (ad : Nat → Nat) (y : MethodName) (bytes : ByteArray) (maxL : Nat) (ret : Option FieldType) (hh : List (Nat × Nat × Nat × Nat)) (rm : Room) (av : List Value) (wc : va_W) (post : Option Value → va_W → Nat → Nat → Prop) : Prop :=
  MetK l y (Cond.codeWith y bytes maxL ret hh :: Ts) rm (TrPX D cl tys NX st ad av wc) (TrQ D cl wc post)
theorem tab_of {l : List ExceptionTableEntry} {hh : List (Nat × Nat × Nat × Nat)} (h : l.map (fun h => (h.startPc, h.endPc, h.handlerPc, h.catchType)) = hh) : l = hh.map (fun q => ⟨q.1, q.2.1, q.2.2.1, q.2.2.2⟩) := by
  rw [← h, List.map_map]
  simp [Function.comp_def]
theorem TrW.intro {l : Launch} {D : va_G} {cl : List vw_C} {tys : List (ClassId × FieldType)} {Ts NX : List Cond} {st : List (Nat × String)} {ad : Nat → Nat} {y : MethodName} {bytes : ByteArray} {maxL : Nat} {ret : Option FieldType} {hh : List (Nat × Nat × Nat × Nat)} {rm : Room} {av : List Value} {wc : va_W} {post : Option Value → va_W → Nat → Nat → Prop}
    (hy : plainName y.cls = true) (hN : NXok NX) (hsz : (lg_sl av).length ≤ maxL)
    (body : ∀ (p : Program) (e : Env) (s : State) (m : MethodId) (args : Array Value) (below : List Frame) (meth : Method) (c : Code) (A : Nat → Prop) (ls : Array Slot), l.admits e →
      p.tables.exec = Jvm.exec → c.code = bytes → c.maxLocals = maxL → s.vm.findClass y.cls = some m.cls → (∀ w ∈ Ts, w.before args s = true) → meth.sig.returnType = ret → meth.locks = false → meth.name = y.name →
      Sit D cl tys NX s A → va_P D cl wc s.heap → va_D A wc → va_S A s.heap s.heap [] → lv_has ls maxL (lv_args 0 av) → XU st ad A s s.heap → c.exceptionTable.toList = hh.map (fun q => ⟨q.1, q.2.1, q.2.2.1, q.2.2.2⟩) →
      W p l e rm s m args below meth c s.heap [] 0 0 (MQT below D cl A post s) (F0 m 0 ls [])) : TrW l D cl tys Ts NX st ad y bytes maxL ret hh rm av wc post := by
  unfold TrW MetK
  refine MetFree.of_bodyS (code := bytes) (maxLocals := maxL) (ret := ret) hy ?_ ?_
  · intro args s m h hn
    obtain ⟨m9, meth, c, hn9, h1, h2, h3, h4, -, h5, h6, -⟩ := Cond.codeWith_spec (atoms_spec (ws := Cond.codeWith y bytes maxL ret hh :: Ts) h _ List.mem_cons_self)
    cases hn.symm.trans hn9
    exact ⟨meth, c, h1, h2, h3, h4, h5, h6⟩
  · intro p e s m args below meth c s₁ B hml hP _
    obtain ⟨⟨rfl, hP, hK, hD0, hNs⟩, hX⟩ := hP
    have hh0 : s₁.heap = s.heap := by rw [B.state]; rfl
    have hts := atoms_spec (ws := Cond.codeWith y bytes maxL ret hh :: Ts) B.pre
    obtain ⟨m9, meth9, c9, hn9, hm9, hc9, -, -, htab, -, -, -⟩ := Cond.codeWith_spec (hts _ List.mem_cons_self)
    cases B.named.symm.trans hn9
    cases B.method.symm.trans hm9
    cases (Stand.of_body B).code.symm.trans hc9
    have hb := body p e s m av.toArray below meth c (va_A wc s.heap.size) _ (Stand.of_body B).admits B.exec B.bytes hml (findClass_of_methodNamed B.named) (fun w hw => hts w (List.mem_cons_of_mem _ hw)) B.returns B.notSynchronized (name_of_methodNamed B.named B.method).1
      ⟨hK, hNs, hN, fun q h => Or.inr h⟩ hP (hD0.self (sz := s.heap.size)) va_S.rf (lv_entry av (n := maxL) hsz) hX (tab_of htab)
    rw [← lg_entry_eq] at hb
    obtain ⟨t, a1, v, w1, L, k, n, b1, b2, b3, b4, b5, b6, b7, b8⟩ := hb s₁ hh0 (Stand.of_body B)
    exact ⟨t, .returned v, a1, b1, b2, L, k, n, b3, v, w1, rfl, b4, b5, b6, b7, b8⟩
def CalSW (Ts : List Cond) (y : MethodName) (bytes : ByteArray) (maxL : Nat) (ret : Option FieldType) (hh : List (Nat × Nat × Nat × Nat)) (n : Nat) : Prop :=
  Cond.codeWith y bytes maxL ret hh ∈ Ts ∧ Cond.initialized y.cls ∈ Ts ∧ (y.cls ≠ "java/lang/invoke/MethodHandle" ∧ y.cls ≠ "java/lang/invoke/VarHandle") ∧ (parseMethodDescriptor y.desc).map (fun d => d.parameters.length) = some n ∧ Cond.static y ∈ Ts
section XW
variable {p : Program} {l : Launch} {e : Env} {R : Room} {s : State} {m : MethodId} {args : Array Value} {below : List Frame} {meth : Method} {c : Code} {H : Heap} {locs : List Loc} {cells slots : Nat}
variable {y : MethodName} {bytes cc : ByteArray} {maxL nL n index : Nat} {ret : Option FieldType} {hh : List (Nat × Nat × Nat × Nat)} {rm : Room} {Ts NX : List Cond} {own : String} {As rest st0 : List Value} {pc : Nat} {ls : Array Slot}
variable {D : va_G} {cl : List vw_C} {tys : List (ClassId × FieldType)} {ws wc wr : va_W} {A0 : Nat → Prop} {post : Option Value → va_W → Nat → Nat → Prop} {st : List (Nat × String)} {ad : Nat → Nat}
theorem trSW (S : CallFix p m c cc nL s args Ts own) (hG : GoodIn Ts Ts) (hM : TrW l D cl tys Ts NX st ad y bytes maxL ret hh rm As wc post) (hc : CalSW Ts y bytes maxL ret hh n) (hl : Cond.methodLink own index y ∈ Ts) (hR : rm.frames + 1 ≤ R.frames ∧ 8 + (maxL + 11) + rm.locals ≤ R.locals) (hZ : Sit D cl tys NX s A0) (hXU : XU st ad A0 s s.heap) (hP : va_P D cl ws H) (hD : va_D A0 ws) (hS : va_S A0 s.heap H locs)
    {isC isR : List Nat} (hC : Cut ws wc wr isC isR)
    (hn : As.length = n) (hsize : ls.size = nL) (hst : st0 = As.reverse ++ rest) (hW : (rest.map fun v => v.category).sum ≤ 8) (hdg : decode cc pc = .ok (.invokestatic index, 3)) (hf : cells + rm.cells ≤ R.cells ∧ slots + rm.slots ≤ R.slots) :
    RunK p l e R s m args below meth c H locs cells slots (F0 m pc ls st0) rest (fun st v t L k n => TrQ D cl wc post As.toArray st (.returned v) t L k n) := by
  obtain ⟨hx, hb, hml, ho, ht⟩ := S
  have hF : ∀ q, va_A wc H.size q → A0 q := va_free hD hS hZ.2.2.2 isC hC.1
  have hlen : ∀ sig, parseMethodDescriptor y.desc = some sig → As.length = sig.parameters.length := fun sig hs => by
    have h2 := hc.2.2.2.1
    rw [hs] at h2
    exact hn.trans (Option.some.inj h2).symm
  have hblind : FrameBlind (TrPX D cl tys NX st ad As wc) := fun a U g mk q => ⟨TrP.blind hZ.2.2.1 _ _ _ _ q.1, q.2.same (s := U) rfl⟩
  have hws : ∀ w ∈ (Cond.codeWith y bytes maxL ret hh :: Ts), ∀ (a' : Array Value) (U : State), s.WarmedH U.vm → w.before a' U = true := by
    intro w hw
    rcases List.mem_cons.mp hw with rfl | hw
    · exact pay_in ht hG _ hc.1
    · exact pay_in ht hG _ hw
  have hK : Back l R p e below s args y 3 8 (PreK R rm (TrPX D cl tys NX st ad As wc)) (PostK (TrQ D cl wc post)) := by
    refine va_ofFreeW (hh := hh) (S := headSpec (Cond.codeWith y bytes maxL ret hh :: Ts) rm) (P := TrPX D cl tys NX st ad As wc) (K := fun _ _ _ _ _ => True) (Q := fun a st o t => ∃ L k n, FrameEnd st o t L k n ∧ TrQ D cl wc post a st o t L k n) (bytes := bytes) (maxL := maxL) (ret := ret)
      (E := fun a st o t L k n => TrQ D cl wc post a st o t L k n) hM hR.1 hR.2 ?_ ?_ (fun _ _ _ _ _ _ _ _ _ => trivial) ?_ ?_
    · intro m meth c A a X hp
      exact ⟨atoms_intro fun w hw => hws w hw _ _ X.warmed, hws _ List.mem_cons_self _ _ X.warmed, word_at X.warmed (hG _ hc.2.1).2 (ht _ hc.2.1), hp.1, hp.2.1⟩
    · intro m meth c A a g mk X hp
      exact hblind _ _ _ _ hp.2.2
    · intro a st o t ⟨L, k, n, hF, hq⟩
      exact ⟨L, k, n, hF, hq⟩
    · intro m meth c A a g mk v t L k n X hp hq hF hE
      exact ⟨g, mk, t, L, k, n, rfl, rfl, hE, rfl, rfl, rfl⟩
  intro T hT X
  obtain ⟨mk, methM, cM, hnamed, hmethM, -, -, -, -, -, -, hsigM⟩ := Cond.codeWith_spec (ht _ hc.1)
  have hstatic : methM.isStatic = true := Cond.static_spec hnamed hmethM (ht _ hc.2.2.2.2)
  obtain ⟨kP, hkP, -⟩ := className_of_methodNamed hnamed
  have hinitP : kP.init = .initialized := Cond.initialized_spec (findClass_of_methodNamed hnamed) hkP (ht _ hc.2.1)
  obtain ⟨vm₁, X₁, hstep₁⟩ := X.invokestatic hx ho (ht _ hl) hnamed hmethM hstatic hkP hinitP hc.2.2.1 (g := F0 m pc ls st0) rfl (argsL := As) (rest := rest) (hlen _ hsigM) hst (by rw [hb]; exact hdg)
  have hpre : PreK R rm (TrPX D cl tys NX st ad As wc) ⟨T.setVm vm₁, locs, cells, slots⟩ As.toArray := by
    refine ⟨hf.1, hf.2, TrP.at (av := As) hZ hP hD hC (T.setVm vm₁) hT X₁.warmed, ?_⟩
    have h1 : XU st ad A0 s (T.setVm vm₁).heap := hXU.kept (fun q h1 h2 => by show T.heap[q]? = _; rw [hT]; exact hS.2.1 q h1 h2)
    exact (h1.narrow (fun q hq => hF q (by have e : (T.setVm vm₁).heap = H := hT; rw [e] at hq; exact hq))).warm X₁.warmed
  obtain ⟨v, ⟨U', l2, c2, s2⟩, X', hpost, hsteps⟩ := hK m meth c ⟨T.setVm vm₁, locs, cells, slots⟩ (F0 m pc ls rest) (.invokestatic index) mk As.toArray X₁ rfl (hsize.trans hml.symm) (by rw [hb]; exact hdg) (lv_room hW) (X₁.named hnamed) hpre
  obtain ⟨g', mk', t, L, k, n', e1, e2, hq, h1, h2, h3⟩ := hpost
  dsimp only [Pt.U, Pt.locs, Pt.cells, Pt.slots] at X' e1 e2 h1 h2 h3 hsteps
  subst h1; subst h2; subst h3
  exact ⟨v, (T.setVm vm₁).calling g' mk' As.toArray, t, U', L, k, n', hT, X', e1, e2, hq, fun target h => hstep₁ _ fun acts => by rw [doInvoke_state]; exact hsteps.trans h⟩
end XW
end
section
abbrev str_tbl : List (Nat × String) := [(33, "the row has no such byte"), (40, "a byte is 0 .. 255"), (47, "less than no bytes can't be left"), (57, "a kind is 0 .. 2"), (72, "there is no such program"), (86, "there is no such mark, or it has no such number")]
set_option maxRecDepth 100000 in
theorem xat_IO {args : Array Value} {s : State} {ad : Nat → Nat} {A : Nat → Prop} (hts : ∀ w ∈ gd_tbl, w.before args s = true) (hN : NW nx_tbl s) (hU : XU str_tbl ad A s s.heap) {ic : Nat} (hml : Cond.methodLink "CharOutlines" ic ⟨"java/lang/IndexOutOfBoundsException", "<init>", "(Ljava/lang/String;)V"⟩ ∈ gd_tbl) : ∀ a ∈ Bundle.ownAtoms "CharOutlines" ic "java/lang/IndexOutOfBoundsException" ["java/lang/RuntimeException", "java/lang/Exception"], a.before args s = true := by
  unfold Bundle.ownAtoms Bundle.throwableAtoms Bundle.throwableSAtoms Bundle.chainSAtoms Bundle.chainSAtoms Bundle.chainSAtoms Bundle.passSAtoms
  refine List.forall_mem_append.mpr ⟨List.forall_mem_append.mpr ⟨List.forall_mem_append.mpr ⟨?_, ?_⟩, List.forall_mem_append.mpr ⟨?_, List.forall_mem_append.mpr ⟨?_, ?_⟩⟩⟩, ?_⟩
  · exact List.forall_mem_cons.mpr ⟨(hts _ (List.mem_filter.mpr ⟨List.mem_of_getElem? (i := 72) rfl, rfl⟩)), List.forall_mem_cons.mpr ⟨(hts _ (List.mem_filter.mpr ⟨List.mem_of_getElem? (i := 322) rfl, rfl⟩)), List.forall_mem_cons.mpr ⟨(hts _ (List.mem_filter.mpr ⟨List.mem_of_getElem? (i := 331) rfl, rfl⟩)), List.forall_mem_cons.mpr ⟨(hts _ (List.mem_filter.mpr ⟨List.mem_of_getElem? (i := 334) rfl, rfl⟩)), List.forall_mem_cons.mpr ⟨(hts _ (List.mem_filter.mpr ⟨List.mem_of_getElem? (i := 337) rfl, rfl⟩)), List.forall_mem_cons.mpr ⟨(hts _ (List.mem_filter.mpr ⟨List.mem_of_getElem? (i := 339) rfl, rfl⟩)), List.forall_mem_cons.mpr ⟨(hts _ (List.mem_filter.mpr ⟨List.mem_of_getElem? (i := 323) rfl, rfl⟩)), List.forall_mem_cons.mpr ⟨(hts _ (List.mem_filter.mpr ⟨List.mem_of_getElem? (i := 324) rfl, rfl⟩)), List.forall_mem_cons.mpr ⟨(hts _ (List.mem_filter.mpr ⟨List.mem_of_getElem? (i := 84) rfl, rfl⟩)), List.forall_mem_cons.mpr ⟨(hts _ (List.mem_filter.mpr ⟨List.mem_of_getElem? (i := 85) rfl, rfl⟩)), List.forall_mem_cons.mpr ⟨(hts _ (List.mem_filter.mpr ⟨List.mem_of_getElem? (i := 325) rfl, rfl⟩)), List.forall_mem_cons.mpr ⟨(hts _ (List.mem_filter.mpr ⟨List.mem_of_getElem? (i := 330) rfl, rfl⟩)), List.forall_mem_cons.mpr ⟨(hts _ (List.mem_filter.mpr ⟨List.mem_of_getElem? (i := 335) rfl, rfl⟩)), List.forall_mem_cons.mpr ⟨(hts _ (List.mem_filter.mpr ⟨List.mem_of_getElem? (i := 355) rfl, rfl⟩)), List.forall_mem_cons.mpr ⟨(hts _ (List.mem_filter.mpr ⟨List.mem_of_getElem? (i := 312) rfl, rfl⟩)), List.forall_mem_cons.mpr ⟨(hts _ (List.mem_filter.mpr ⟨List.mem_of_getElem? (i := 356) rfl, rfl⟩)), List.forall_mem_cons.mpr ⟨(hts _ (List.mem_filter.mpr ⟨List.mem_of_getElem? (i := 314) rfl, rfl⟩)), List.forall_mem_cons.mpr ⟨(hts _ (List.mem_filter.mpr ⟨List.mem_of_getElem? (i := 357) rfl, rfl⟩)), List.forall_mem_cons.mpr ⟨(hts _ (List.mem_filter.mpr ⟨List.mem_of_getElem? (i := 316) rfl, rfl⟩)), List.forall_mem_cons.mpr ⟨(hts _ (List.mem_filter.mpr ⟨List.mem_of_getElem? (i := 326) rfl, rfl⟩)), List.forall_mem_cons.mpr ⟨hU.1.lays, List.forall_mem_cons.mpr ⟨(hts _ (List.mem_filter.mpr ⟨List.mem_of_getElem? (i := 328) rfl, rfl⟩)), List.forall_mem_cons.mpr ⟨hU.2.1.lays, List.forall_mem_cons.mpr ⟨(hts _ (List.mem_filter.mpr ⟨List.mem_of_getElem? (i := 318) rfl, rfl⟩)), fun _ h => absurd h List.not_mem_nil⟩⟩⟩⟩⟩⟩⟩⟩⟩⟩⟩⟩⟩⟩⟩⟩⟩⟩⟩⟩⟩⟩⟩⟩
  · exact List.forall_mem_cons.mpr ⟨(hts _ (List.mem_filter.mpr ⟨List.mem_of_getElem? (i := 351) rfl, rfl⟩)), List.forall_mem_cons.mpr ⟨(hts _ (List.mem_filter.mpr ⟨List.mem_of_getElem? (i := 352) rfl, rfl⟩)), List.forall_mem_cons.mpr ⟨(hts _ (List.mem_filter.mpr ⟨List.mem_of_getElem? (i := 354) rfl, rfl⟩)), List.forall_mem_cons.mpr ⟨(hts _ (List.mem_filter.mpr ⟨List.mem_of_getElem? (i := 318) rfl, rfl⟩)), fun _ h => absurd h List.not_mem_nil⟩⟩⟩⟩
  · exact List.forall_mem_cons.mpr ⟨(hts _ (List.mem_filter.mpr ⟨List.mem_of_getElem? (i := 342) rfl, rfl⟩)), List.forall_mem_cons.mpr ⟨(hts _ (List.mem_filter.mpr ⟨List.mem_of_getElem? (i := 343) rfl, rfl⟩)), List.forall_mem_cons.mpr ⟨(hts _ (List.mem_filter.mpr ⟨List.mem_of_getElem? (i := 344) rfl, rfl⟩)), List.forall_mem_cons.mpr ⟨(hts _ (List.mem_filter.mpr ⟨List.mem_of_getElem? (i := 345) rfl, rfl⟩)), List.forall_mem_cons.mpr ⟨(va_Nw.use rfl (hN _ (List.mem_of_getElem? (i := 10) rfl))), fun _ h => absurd h List.not_mem_nil⟩⟩⟩⟩⟩
  · exact List.forall_mem_cons.mpr ⟨(hts _ (List.mem_filter.mpr ⟨List.mem_of_getElem? (i := 345) rfl, rfl⟩)), List.forall_mem_cons.mpr ⟨(hts _ (List.mem_filter.mpr ⟨List.mem_of_getElem? (i := 346) rfl, rfl⟩)), List.forall_mem_cons.mpr ⟨(hts _ (List.mem_filter.mpr ⟨List.mem_of_getElem? (i := 347) rfl, rfl⟩)), List.forall_mem_cons.mpr ⟨(hts _ (List.mem_filter.mpr ⟨List.mem_of_getElem? (i := 348) rfl, rfl⟩)), List.forall_mem_cons.mpr ⟨(va_Nw.use rfl (hN _ (List.mem_of_getElem? (i := 12) rfl))), fun _ h => absurd h List.not_mem_nil⟩⟩⟩⟩⟩
  · exact List.forall_mem_cons.mpr ⟨(hts _ (List.mem_filter.mpr ⟨List.mem_of_getElem? (i := 348) rfl, rfl⟩)), List.forall_mem_cons.mpr ⟨(hts _ (List.mem_filter.mpr ⟨List.mem_of_getElem? (i := 349) rfl, rfl⟩)), List.forall_mem_cons.mpr ⟨(hts _ (List.mem_filter.mpr ⟨List.mem_of_getElem? (i := 350) rfl, rfl⟩)), List.forall_mem_cons.mpr ⟨(hts _ (List.mem_filter.mpr ⟨List.mem_of_getElem? (i := 351) rfl, rfl⟩)), List.forall_mem_cons.mpr ⟨(va_Nw.use rfl (hN _ (List.mem_of_getElem? (i := 14) rfl))), fun _ h => absurd h List.not_mem_nil⟩⟩⟩⟩⟩
  · exact List.forall_mem_cons.mpr ⟨(hts _ hml), List.forall_mem_cons.mpr ⟨(hts _ (List.mem_filter.mpr ⟨List.mem_of_getElem? (i := 301) rfl, rfl⟩)), List.forall_mem_cons.mpr ⟨(va_Nw.use rfl (hN _ (List.mem_of_getElem? (i := 8) rfl))), List.forall_mem_cons.mpr ⟨(hts _ (List.mem_filter.mpr ⟨List.mem_of_getElem? (i := 309) rfl, rfl⟩)), List.forall_mem_cons.mpr ⟨(hts _ (List.mem_filter.mpr ⟨List.mem_of_getElem? (i := 310) rfl, rfl⟩)), List.forall_mem_cons.mpr ⟨(hts _ (List.mem_filter.mpr ⟨List.mem_of_getElem? (i := 311) rfl, rfl⟩)), List.forall_mem_cons.mpr ⟨(hts _ (List.mem_filter.mpr ⟨List.mem_of_getElem? (i := 313) rfl, rfl⟩)), List.forall_mem_cons.mpr ⟨(hts _ (List.mem_filter.mpr ⟨List.mem_of_getElem? (i := 315) rfl, rfl⟩)), List.forall_mem_cons.mpr ⟨(hts _ (List.mem_filter.mpr ⟨List.mem_of_getElem? (i := 317) rfl, rfl⟩)), List.forall_mem_cons.mpr ⟨hU.1.isRef, List.forall_mem_cons.mpr ⟨hU.2.1.isRef, List.forall_mem_cons.mpr ⟨(hts _ (List.mem_filter.mpr ⟨List.mem_of_getElem? (i := 353) rfl, rfl⟩)), List.forall_mem_cons.mpr ⟨(hts _ (List.mem_filter.mpr ⟨List.mem_of_getElem? (i := 320) rfl, rfl⟩)), List.forall_mem_cons.mpr ⟨(hts _ (List.mem_filter.mpr ⟨List.mem_of_getElem? (i := 319) rfl, rfl⟩)), fun _ h => absurd h List.not_mem_nil⟩⟩⟩⟩⟩⟩⟩⟩⟩⟩⟩⟩⟩⟩
set_option maxRecDepth 100000 in
theorem xin_IO : Cond.initialized "java/lang/IndexOutOfBoundsException" ∈ gd_tbl := List.mem_filter.mpr ⟨List.mem_of_getElem? (i := 75) rfl, rfl⟩
set_option maxRecDepth 100000 in
theorem xat_IA {args : Array Value} {s : State} {ad : Nat → Nat} {A : Nat → Prop} (hts : ∀ w ∈ gd_tbl, w.before args s = true) (hN : NW nx_tbl s) (hU : XU str_tbl ad A s s.heap) {ic : Nat} (hml : Cond.methodLink "CharOutlines" ic ⟨"java/lang/IllegalArgumentException", "<init>", "(Ljava/lang/String;)V"⟩ ∈ gd_tbl) : ∀ a ∈ Bundle.ownAtoms "CharOutlines" ic "java/lang/IllegalArgumentException" ["java/lang/RuntimeException", "java/lang/Exception"], a.before args s = true := by
  unfold Bundle.ownAtoms Bundle.throwableAtoms Bundle.throwableSAtoms Bundle.chainSAtoms Bundle.chainSAtoms Bundle.chainSAtoms Bundle.passSAtoms
  refine List.forall_mem_append.mpr ⟨List.forall_mem_append.mpr ⟨List.forall_mem_append.mpr ⟨?_, ?_⟩, List.forall_mem_append.mpr ⟨?_, List.forall_mem_append.mpr ⟨?_, ?_⟩⟩⟩, ?_⟩
  · exact List.forall_mem_cons.mpr ⟨(hts _ (List.mem_filter.mpr ⟨List.mem_of_getElem? (i := 72) rfl, rfl⟩)), List.forall_mem_cons.mpr ⟨(hts _ (List.mem_filter.mpr ⟨List.mem_of_getElem? (i := 322) rfl, rfl⟩)), List.forall_mem_cons.mpr ⟨(hts _ (List.mem_filter.mpr ⟨List.mem_of_getElem? (i := 331) rfl, rfl⟩)), List.forall_mem_cons.mpr ⟨(hts _ (List.mem_filter.mpr ⟨List.mem_of_getElem? (i := 334) rfl, rfl⟩)), List.forall_mem_cons.mpr ⟨(hts _ (List.mem_filter.mpr ⟨List.mem_of_getElem? (i := 337) rfl, rfl⟩)), List.forall_mem_cons.mpr ⟨(hts _ (List.mem_filter.mpr ⟨List.mem_of_getElem? (i := 339) rfl, rfl⟩)), List.forall_mem_cons.mpr ⟨(hts _ (List.mem_filter.mpr ⟨List.mem_of_getElem? (i := 323) rfl, rfl⟩)), List.forall_mem_cons.mpr ⟨(hts _ (List.mem_filter.mpr ⟨List.mem_of_getElem? (i := 324) rfl, rfl⟩)), List.forall_mem_cons.mpr ⟨(hts _ (List.mem_filter.mpr ⟨List.mem_of_getElem? (i := 84) rfl, rfl⟩)), List.forall_mem_cons.mpr ⟨(hts _ (List.mem_filter.mpr ⟨List.mem_of_getElem? (i := 85) rfl, rfl⟩)), List.forall_mem_cons.mpr ⟨(hts _ (List.mem_filter.mpr ⟨List.mem_of_getElem? (i := 325) rfl, rfl⟩)), List.forall_mem_cons.mpr ⟨(hts _ (List.mem_filter.mpr ⟨List.mem_of_getElem? (i := 330) rfl, rfl⟩)), List.forall_mem_cons.mpr ⟨(hts _ (List.mem_filter.mpr ⟨List.mem_of_getElem? (i := 335) rfl, rfl⟩)), List.forall_mem_cons.mpr ⟨(hts _ (List.mem_filter.mpr ⟨List.mem_of_getElem? (i := 355) rfl, rfl⟩)), List.forall_mem_cons.mpr ⟨(hts _ (List.mem_filter.mpr ⟨List.mem_of_getElem? (i := 312) rfl, rfl⟩)), List.forall_mem_cons.mpr ⟨(hts _ (List.mem_filter.mpr ⟨List.mem_of_getElem? (i := 356) rfl, rfl⟩)), List.forall_mem_cons.mpr ⟨(hts _ (List.mem_filter.mpr ⟨List.mem_of_getElem? (i := 314) rfl, rfl⟩)), List.forall_mem_cons.mpr ⟨(hts _ (List.mem_filter.mpr ⟨List.mem_of_getElem? (i := 357) rfl, rfl⟩)), List.forall_mem_cons.mpr ⟨(hts _ (List.mem_filter.mpr ⟨List.mem_of_getElem? (i := 316) rfl, rfl⟩)), List.forall_mem_cons.mpr ⟨(hts _ (List.mem_filter.mpr ⟨List.mem_of_getElem? (i := 326) rfl, rfl⟩)), List.forall_mem_cons.mpr ⟨hU.1.lays, List.forall_mem_cons.mpr ⟨(hts _ (List.mem_filter.mpr ⟨List.mem_of_getElem? (i := 328) rfl, rfl⟩)), List.forall_mem_cons.mpr ⟨hU.2.1.lays, List.forall_mem_cons.mpr ⟨(hts _ (List.mem_filter.mpr ⟨List.mem_of_getElem? (i := 318) rfl, rfl⟩)), fun _ h => absurd h List.not_mem_nil⟩⟩⟩⟩⟩⟩⟩⟩⟩⟩⟩⟩⟩⟩⟩⟩⟩⟩⟩⟩⟩⟩⟩⟩
  · exact List.forall_mem_cons.mpr ⟨(hts _ (List.mem_filter.mpr ⟨List.mem_of_getElem? (i := 351) rfl, rfl⟩)), List.forall_mem_cons.mpr ⟨(hts _ (List.mem_filter.mpr ⟨List.mem_of_getElem? (i := 352) rfl, rfl⟩)), List.forall_mem_cons.mpr ⟨(hts _ (List.mem_filter.mpr ⟨List.mem_of_getElem? (i := 354) rfl, rfl⟩)), List.forall_mem_cons.mpr ⟨(hts _ (List.mem_filter.mpr ⟨List.mem_of_getElem? (i := 318) rfl, rfl⟩)), fun _ h => absurd h List.not_mem_nil⟩⟩⟩⟩
  · exact List.forall_mem_cons.mpr ⟨(hts _ (List.mem_filter.mpr ⟨List.mem_of_getElem? (i := 377) rfl, rfl⟩)), List.forall_mem_cons.mpr ⟨(hts _ (List.mem_filter.mpr ⟨List.mem_of_getElem? (i := 378) rfl, rfl⟩)), List.forall_mem_cons.mpr ⟨(hts _ (List.mem_filter.mpr ⟨List.mem_of_getElem? (i := 379) rfl, rfl⟩)), List.forall_mem_cons.mpr ⟨(hts _ (List.mem_filter.mpr ⟨List.mem_of_getElem? (i := 345) rfl, rfl⟩)), List.forall_mem_cons.mpr ⟨(va_Nw.use rfl (hN _ (List.mem_of_getElem? (i := 10) rfl))), fun _ h => absurd h List.not_mem_nil⟩⟩⟩⟩⟩
  · exact List.forall_mem_cons.mpr ⟨(hts _ (List.mem_filter.mpr ⟨List.mem_of_getElem? (i := 345) rfl, rfl⟩)), List.forall_mem_cons.mpr ⟨(hts _ (List.mem_filter.mpr ⟨List.mem_of_getElem? (i := 346) rfl, rfl⟩)), List.forall_mem_cons.mpr ⟨(hts _ (List.mem_filter.mpr ⟨List.mem_of_getElem? (i := 347) rfl, rfl⟩)), List.forall_mem_cons.mpr ⟨(hts _ (List.mem_filter.mpr ⟨List.mem_of_getElem? (i := 348) rfl, rfl⟩)), List.forall_mem_cons.mpr ⟨(va_Nw.use rfl (hN _ (List.mem_of_getElem? (i := 12) rfl))), fun _ h => absurd h List.not_mem_nil⟩⟩⟩⟩⟩
  · exact List.forall_mem_cons.mpr ⟨(hts _ (List.mem_filter.mpr ⟨List.mem_of_getElem? (i := 348) rfl, rfl⟩)), List.forall_mem_cons.mpr ⟨(hts _ (List.mem_filter.mpr ⟨List.mem_of_getElem? (i := 349) rfl, rfl⟩)), List.forall_mem_cons.mpr ⟨(hts _ (List.mem_filter.mpr ⟨List.mem_of_getElem? (i := 350) rfl, rfl⟩)), List.forall_mem_cons.mpr ⟨(hts _ (List.mem_filter.mpr ⟨List.mem_of_getElem? (i := 351) rfl, rfl⟩)), List.forall_mem_cons.mpr ⟨(va_Nw.use rfl (hN _ (List.mem_of_getElem? (i := 14) rfl))), fun _ h => absurd h List.not_mem_nil⟩⟩⟩⟩⟩
  · exact List.forall_mem_cons.mpr ⟨(hts _ hml), List.forall_mem_cons.mpr ⟨(hts _ (List.mem_filter.mpr ⟨List.mem_of_getElem? (i := 367) rfl, rfl⟩)), List.forall_mem_cons.mpr ⟨(va_Nw.use rfl (hN _ (List.mem_of_getElem? (i := 15) rfl))), List.forall_mem_cons.mpr ⟨(hts _ (List.mem_filter.mpr ⟨List.mem_of_getElem? (i := 369) rfl, rfl⟩)), List.forall_mem_cons.mpr ⟨(hts _ (List.mem_filter.mpr ⟨List.mem_of_getElem? (i := 333) rfl, rfl⟩)), List.forall_mem_cons.mpr ⟨(hts _ (List.mem_filter.mpr ⟨List.mem_of_getElem? (i := 370) rfl, rfl⟩)), List.forall_mem_cons.mpr ⟨(hts _ (List.mem_filter.mpr ⟨List.mem_of_getElem? (i := 371) rfl, rfl⟩)), List.forall_mem_cons.mpr ⟨(hts _ (List.mem_filter.mpr ⟨List.mem_of_getElem? (i := 372) rfl, rfl⟩)), List.forall_mem_cons.mpr ⟨(hts _ (List.mem_filter.mpr ⟨List.mem_of_getElem? (i := 373) rfl, rfl⟩)), List.forall_mem_cons.mpr ⟨hU.1.isRef, List.forall_mem_cons.mpr ⟨hU.2.1.isRef, List.forall_mem_cons.mpr ⟨(hts _ (List.mem_filter.mpr ⟨List.mem_of_getElem? (i := 353) rfl, rfl⟩)), List.forall_mem_cons.mpr ⟨(hts _ (List.mem_filter.mpr ⟨List.mem_of_getElem? (i := 320) rfl, rfl⟩)), List.forall_mem_cons.mpr ⟨(hts _ (List.mem_filter.mpr ⟨List.mem_of_getElem? (i := 374) rfl, rfl⟩)), fun _ h => absurd h List.not_mem_nil⟩⟩⟩⟩⟩⟩⟩⟩⟩⟩⟩⟩⟩⟩
set_option maxRecDepth 100000 in
theorem xin_IA : Cond.initialized "java/lang/IllegalArgumentException" ∈ gd_tbl := List.mem_filter.mpr ⟨List.mem_of_getElem? (i := 76) rfl, rfl⟩
end
section
theorem in_ok {i : Int32} {n : Nat} (h1 : ¬ i < 0) (h2 : i < nI n) (h4 : n < 2 ^ 31) : ∃ j : Nat, j < n ∧ i = nI j := by
  obtain ⟨j, hj, rfl⟩ := nI_of h1
  exact ⟨j, (nI_ltI hj h4).mp h2, rfl⟩
theorem lt_min {j n : Nat} (h : ¬ n ≤ j) : j = min j n := by omega
theorem lt_le {j n : Nat} (h : ¬ n ≤ j) : j ≤ n := by omega
def isK (k : Int32) : Int32 := if k < 0 then 0 else if 2 < k then 0 else 1
def okI (n : Nat) (i : Int32) : Prop := ¬ i < 0 ∧ i < nI n
def okB (b : Int32) : Prop := ¬ b < 0 ∧ b ≤ 255
def selK (k : Int32) (p g q : Nat) : Nat := if k = 1 then g else if k = 2 then q else p
theorem kind0 {k : Int32} (h : ¬ isK k = 0) (h1 : ¬ k = 1) (h2 : ¬ k = 2) : k = 0 := by
  unfold isK at h
  by_cases a : k < 0
  · simp [a] at h
  · by_cases b : 2 < k
    · simp [a, b] at h
    · obtain ⟨j, hj, rfl⟩ := nI_of a
      have hb : j ≤ 2 := by
        rcases Nat.lt_or_ge 2 j with q | q
        · exact absurd (show nI 2 < nI j from nI_lt q hj) b
        · exact q
      rcases (show j = 0 ∨ j = 1 ∨ j = 2 by omega) with rfl | rfl | rfl
      · rfl
      · exact absurd rfl h1
      · exact absurd rfl h2
def app4 (f : Nat → Int32) (n : Nat) (x : Int32) : Nat → Int32 := upd (upd (upd (upd f n (vp_nar .byte (x >>> (24 &&& 31)).toInt8.toInt32)) (n + 1) (vp_nar .byte (x >>> (16 &&& 31)).toInt8.toInt32)) (n + 2) (vp_nar .byte (x >>> (8 &&& 31)).toInt8.toInt32)) (n + 3) (vp_nar .byte x.toInt8.toInt32)
def hasS (n : Nat) (k : Int32) : Int32 := if k < 0 then 0 else if nI n ≤ k then 0 else 1
def hasO (n : Nat) (i w : Int32) : Int32 := if i < 0 then 0 else if nI n ≤ i then 0 else if w < 0 then 0 else if 7 ≤ w then 0 else 1
theorem hasS0 {n : Nat} {k : Int32} (h : n = 0) : hasS n k = 0 := by
  subst h
  unfold hasS
  by_cases a : k < 0
  · simp [a]
  · rw [if_neg a, if_pos (show nI 0 ≤ k from Int32.not_lt.mp a)]
theorem hasO0 {n : Nat} {i w : Int32} (h : n = 0) : hasO n i w = 0 := by
  subst h
  unfold hasO
  by_cases a : i < 0
  · simp [a]
  · rw [if_neg a, if_pos (show nI 0 ≤ i from Int32.not_lt.mp a)]
abbrev b_CO_isKind : ByteArray := prog_1_method_10_code
abbrev y_CO_isKind : MethodName := ⟨"CharOutlines", "isKind", "(I)Z"⟩
set_option maxRecDepth 100000 in
theorem cal_CO_isKind : CalS gd_tbl y_CO_isKind b_CO_isKind 1 (some .boolean) 1 := ⟨⟨List.mem_filter.mpr ⟨List.mem_of_getElem? (i := 411) rfl, rfl⟩, List.mem_filter.mpr ⟨List.mem_of_getElem? (i := 60) rfl, rfl⟩, ⟨by decide, by decide⟩, by decide +kernel⟩, List.mem_filter.mpr ⟨List.mem_of_getElem? (i := 410) rfl, rfl⟩⟩
theorem d_CO_isKind_0 : decode b_CO_isKind 0 = .ok (.iload_n 0, 1) := by decide +kernel
theorem d_CO_isKind_1 : decode b_CO_isKind 1 = .ok (.ifCond .lt 12, 3) := by decide +kernel
theorem d_CO_isKind_4 : decode b_CO_isKind 4 = .ok (.iload_n 0, 1) := by decide +kernel
theorem d_CO_isKind_5 : decode b_CO_isKind 5 = .ok (.iconst 2, 1) := by decide +kernel
theorem d_CO_isKind_6 : decode b_CO_isKind 6 = .ok (.if_icmp .gt 7, 3) := by decide +kernel
theorem d_CO_isKind_9 : decode b_CO_isKind 9 = .ok (.iconst 1, 1) := by decide +kernel
theorem d_CO_isKind_10 : decode b_CO_isKind 10 = .ok (.goto 4, 3) := by decide +kernel
theorem d_CO_isKind_13 : decode b_CO_isKind 13 = .ok (.iconst 0, 1) := by decide +kernel
theorem d_CO_isKind_14 : decode b_CO_isKind 14 = .ok (.ireturn, 1) := by decide +kernel
abbrev b_By_makeRoom : ByteArray := prog_2_method_9_code
abbrev y_By_makeRoom : MethodName := ⟨"CharOutlines$Bytes", "makeRoom", "(I)V"⟩
set_option maxRecDepth 100000 in
theorem cal_By_makeRoom : CalV gd_tbl "CharOutlines$Bytes" y_By_makeRoom b_By_makeRoom 2 none 1 := ⟨⟨List.mem_filter.mpr ⟨List.mem_of_getElem? (i := 254) rfl, rfl⟩, List.mem_filter.mpr ⟨List.mem_of_getElem? (i := 61) rfl, rfl⟩, ⟨by decide, by decide⟩, by decide +kernel⟩, List.mem_filter.mpr ⟨List.mem_of_getElem? (i := 253) rfl, rfl⟩, List.mem_filter.mpr ⟨List.mem_of_getElem? (i := 0) rfl, rfl⟩⟩
theorem d_By_makeRoom_0 : decode b_By_makeRoom 0 = .ok (.iload_n 1, 1) := by decide +kernel
theorem d_By_makeRoom_1 : decode b_By_makeRoom 1 = .ok (.aload_n 0, 1) := by decide +kernel
theorem d_By_makeRoom_2 : decode b_By_makeRoom 2 = .ok (.getfield 11, 3) := by decide +kernel
theorem d_By_makeRoom_5 : decode b_By_makeRoom 5 = .ok (.arraylength, 1) := by decide +kernel
theorem d_By_makeRoom_6 : decode b_By_makeRoom 6 = .ok (.if_icmp .le 38, 3) := by decide +kernel
theorem d_By_makeRoom_9 : decode b_By_makeRoom 9 = .ok (.iload_n 1, 1) := by decide +kernel
theorem d_By_makeRoom_10 : decode b_By_makeRoom 10 = .ok (.sipush 16384, 3) := by decide +kernel
theorem d_By_makeRoom_13 : decode b_By_makeRoom 13 = .ok (.if_icmp .gt 31, 3) := by decide +kernel
theorem d_By_makeRoom_16 : decode b_By_makeRoom 16 = .ok (.aload_n 0, 1) := by decide +kernel
theorem d_By_makeRoom_17 : decode b_By_makeRoom 17 = .ok (.aload_n 0, 1) := by decide +kernel
theorem d_By_makeRoom_18 : decode b_By_makeRoom 18 = .ok (.getfield 11, 3) := by decide +kernel
theorem d_By_makeRoom_21 : decode b_By_makeRoom 21 = .ok (.sipush 16384, 3) := by decide +kernel
theorem d_By_makeRoom_24 : decode b_By_makeRoom 24 = .ok (.iload_n 1, 1) := by decide +kernel
theorem d_By_makeRoom_25 : decode b_By_makeRoom 25 = .ok (.iconst 2, 1) := by decide +kernel
theorem d_By_makeRoom_26 : decode b_By_makeRoom 26 = .ok (.aload_n 0, 1) := by decide +kernel
theorem d_By_makeRoom_27 : decode b_By_makeRoom 27 = .ok (.getfield 11, 3) := by decide +kernel
theorem d_By_makeRoom_30 : decode b_By_makeRoom 30 = .ok (.arraylength, 1) := by decide +kernel
theorem d_By_makeRoom_31 : decode b_By_makeRoom 31 = .ok (.imul, 1) := by decide +kernel
theorem d_By_makeRoom_32 : decode b_By_makeRoom 32 = .ok (.invokestatic 35, 3) := by decide +kernel
theorem d_By_makeRoom_35 : decode b_By_makeRoom 35 = .ok (.invokestatic 41, 3) := by decide +kernel
theorem d_By_makeRoom_38 : decode b_By_makeRoom 38 = .ok (.invokestatic 44, 3) := by decide +kernel
theorem d_By_makeRoom_41 : decode b_By_makeRoom 41 = .ok (.putfield 11, 3) := by decide +kernel
theorem d_By_makeRoom_44 : decode b_By_makeRoom 44 = .ok (.return_, 1) := by decide +kernel
abbrev b_By_append : ByteArray := prog_2_method_5_code
abbrev y_By_append : MethodName := ⟨"CharOutlines$Bytes", "append", "(I)V"⟩
set_option maxRecDepth 100000 in
theorem cal_By_append : CalV gd_tbl "CharOutlines$Bytes" y_By_append b_By_append 3 none 1 := ⟨⟨List.mem_filter.mpr ⟨List.mem_of_getElem? (i := 250) rfl, rfl⟩, List.mem_filter.mpr ⟨List.mem_of_getElem? (i := 61) rfl, rfl⟩, ⟨by decide, by decide⟩, by decide +kernel⟩, List.mem_filter.mpr ⟨List.mem_of_getElem? (i := 248) rfl, rfl⟩, List.mem_filter.mpr ⟨List.mem_of_getElem? (i := 249) rfl, rfl⟩⟩
theorem d_By_append_0 : decode b_By_append 0 = .ok (.aload_n 0, 1) := by decide +kernel
theorem d_By_append_1 : decode b_By_append 1 = .ok (.getfield 15, 3) := by decide +kernel
theorem d_By_append_4 : decode b_By_append 4 = .ok (.iconst 4, 1) := by decide +kernel
theorem d_By_append_5 : decode b_By_append 5 = .ok (.iadd, 1) := by decide +kernel
theorem d_By_append_6 : decode b_By_append 6 = .ok (.istore_n 2, 1) := by decide +kernel
theorem d_By_append_7 : decode b_By_append 7 = .ok (.aload_n 0, 1) := by decide +kernel
theorem d_By_append_8 : decode b_By_append 8 = .ok (.iload_n 2, 1) := by decide +kernel
theorem d_By_append_9 : decode b_By_append 9 = .ok (.invokevirtual 25, 3) := by decide +kernel
theorem d_By_append_12 : decode b_By_append 12 = .ok (.iload_n 2, 1) := by decide +kernel
theorem d_By_append_13 : decode b_By_append 13 = .ok (.aload_n 0, 1) := by decide +kernel
theorem d_By_append_14 : decode b_By_append 14 = .ok (.getfield 11, 3) := by decide +kernel
theorem d_By_append_17 : decode b_By_append 17 = .ok (.arraylength, 1) := by decide +kernel
theorem d_By_append_18 : decode b_By_append 18 = .ok (.if_icmp .le 4, 3) := by decide +kernel
theorem d_By_append_21 : decode b_By_append 21 = .ok (.return_, 1) := by decide +kernel
theorem d_By_append_22 : decode b_By_append 22 = .ok (.aload_n 0, 1) := by decide +kernel
theorem d_By_append_23 : decode b_By_append 23 = .ok (.getfield 11, 3) := by decide +kernel
theorem d_By_append_26 : decode b_By_append 26 = .ok (.aload_n 0, 1) := by decide +kernel
theorem d_By_append_27 : decode b_By_append 27 = .ok (.getfield 15, 3) := by decide +kernel
theorem d_By_append_30 : decode b_By_append 30 = .ok (.iload_n 1, 1) := by decide +kernel
theorem d_By_append_31 : decode b_By_append 31 = .ok (.bipush 24, 2) := by decide +kernel
theorem d_By_append_33 : decode b_By_append 33 = .ok (.ishr, 1) := by decide +kernel
theorem d_By_append_34 : decode b_By_append 34 = .ok (.i2b, 1) := by decide +kernel
theorem d_By_append_35 : decode b_By_append 35 = .ok (.bastore, 1) := by decide +kernel
theorem d_By_append_36 : decode b_By_append 36 = .ok (.aload_n 0, 1) := by decide +kernel
theorem d_By_append_37 : decode b_By_append 37 = .ok (.getfield 11, 3) := by decide +kernel
theorem d_By_append_40 : decode b_By_append 40 = .ok (.aload_n 0, 1) := by decide +kernel
theorem d_By_append_41 : decode b_By_append 41 = .ok (.getfield 15, 3) := by decide +kernel
theorem d_By_append_44 : decode b_By_append 44 = .ok (.iconst 1, 1) := by decide +kernel
theorem d_By_append_45 : decode b_By_append 45 = .ok (.iadd, 1) := by decide +kernel
theorem d_By_append_46 : decode b_By_append 46 = .ok (.iload_n 1, 1) := by decide +kernel
theorem d_By_append_47 : decode b_By_append 47 = .ok (.bipush 16, 2) := by decide +kernel
theorem d_By_append_49 : decode b_By_append 49 = .ok (.ishr, 1) := by decide +kernel
theorem d_By_append_50 : decode b_By_append 50 = .ok (.i2b, 1) := by decide +kernel
theorem d_By_append_51 : decode b_By_append 51 = .ok (.bastore, 1) := by decide +kernel
theorem d_By_append_52 : decode b_By_append 52 = .ok (.aload_n 0, 1) := by decide +kernel
theorem d_By_append_53 : decode b_By_append 53 = .ok (.getfield 11, 3) := by decide +kernel
theorem d_By_append_56 : decode b_By_append 56 = .ok (.aload_n 0, 1) := by decide +kernel
theorem d_By_append_57 : decode b_By_append 57 = .ok (.getfield 15, 3) := by decide +kernel
theorem d_By_append_60 : decode b_By_append 60 = .ok (.iconst 2, 1) := by decide +kernel
theorem d_By_append_61 : decode b_By_append 61 = .ok (.iadd, 1) := by decide +kernel
theorem d_By_append_62 : decode b_By_append 62 = .ok (.iload_n 1, 1) := by decide +kernel
theorem d_By_append_63 : decode b_By_append 63 = .ok (.bipush 8, 2) := by decide +kernel
theorem d_By_append_65 : decode b_By_append 65 = .ok (.ishr, 1) := by decide +kernel
theorem d_By_append_66 : decode b_By_append 66 = .ok (.i2b, 1) := by decide +kernel
theorem d_By_append_67 : decode b_By_append 67 = .ok (.bastore, 1) := by decide +kernel
theorem d_By_append_68 : decode b_By_append 68 = .ok (.aload_n 0, 1) := by decide +kernel
theorem d_By_append_69 : decode b_By_append 69 = .ok (.getfield 11, 3) := by decide +kernel
theorem d_By_append_72 : decode b_By_append 72 = .ok (.aload_n 0, 1) := by decide +kernel
theorem d_By_append_73 : decode b_By_append 73 = .ok (.getfield 15, 3) := by decide +kernel
theorem d_By_append_76 : decode b_By_append 76 = .ok (.iconst 3, 1) := by decide +kernel
theorem d_By_append_77 : decode b_By_append 77 = .ok (.iadd, 1) := by decide +kernel
theorem d_By_append_78 : decode b_By_append 78 = .ok (.iload_n 1, 1) := by decide +kernel
theorem d_By_append_79 : decode b_By_append 79 = .ok (.i2b, 1) := by decide +kernel
theorem d_By_append_80 : decode b_By_append 80 = .ok (.bastore, 1) := by decide +kernel
theorem d_By_append_81 : decode b_By_append 81 = .ok (.aload_n 0, 1) := by decide +kernel
theorem d_By_append_82 : decode b_By_append 82 = .ok (.iload_n 2, 1) := by decide +kernel
theorem d_By_append_83 : decode b_By_append 83 = .ok (.putfield 15, 3) := by decide +kernel
theorem d_By_append_86 : decode b_By_append 86 = .ok (.return_, 1) := by decide +kernel
abbrev b_By_replace : ByteArray := prog_2_method_6_code
abbrev y_By_replace : MethodName := ⟨"CharOutlines$Bytes", "replace", "(II)I"⟩
set_option maxRecDepth 100000 in
theorem cal_By_replace : CalV gd_tbl "CharOutlines$Bytes" y_By_replace b_By_replace 4 (some .int) 2 := ⟨⟨List.mem_filter.mpr ⟨List.mem_of_getElem? (i := 385) rfl, rfl⟩, List.mem_filter.mpr ⟨List.mem_of_getElem? (i := 61) rfl, rfl⟩, ⟨by decide, by decide⟩, by decide +kernel⟩, List.mem_filter.mpr ⟨List.mem_of_getElem? (i := 383) rfl, rfl⟩, List.mem_filter.mpr ⟨List.mem_of_getElem? (i := 384) rfl, rfl⟩⟩
theorem d_By_replace_0 : decode b_By_replace 0 = .ok (.aload_n 0, 1) := by decide +kernel
theorem d_By_replace_1 : decode b_By_replace 1 = .ok (.iload_n 1, 1) := by decide +kernel
theorem d_By_replace_2 : decode b_By_replace 2 = .ok (.invokevirtual 21, 3) := by decide +kernel
theorem d_By_replace_5 : decode b_By_replace 5 = .ok (.istore_n 3, 1) := by decide +kernel
theorem d_By_replace_6 : decode b_By_replace 6 = .ok (.iload_n 1, 1) := by decide +kernel
theorem d_By_replace_7 : decode b_By_replace 7 = .ok (.ifCond .lt 19, 3) := by decide +kernel
theorem d_By_replace_10 : decode b_By_replace 10 = .ok (.iload_n 1, 1) := by decide +kernel
theorem d_By_replace_11 : decode b_By_replace 11 = .ok (.aload_n 0, 1) := by decide +kernel
theorem d_By_replace_12 : decode b_By_replace 12 = .ok (.getfield 15, 3) := by decide +kernel
theorem d_By_replace_15 : decode b_By_replace 15 = .ok (.if_icmp .ge 11, 3) := by decide +kernel
theorem d_By_replace_18 : decode b_By_replace 18 = .ok (.aload_n 0, 1) := by decide +kernel
theorem d_By_replace_19 : decode b_By_replace 19 = .ok (.getfield 11, 3) := by decide +kernel
theorem d_By_replace_22 : decode b_By_replace 22 = .ok (.iload_n 1, 1) := by decide +kernel
theorem d_By_replace_23 : decode b_By_replace 23 = .ok (.iload_n 2, 1) := by decide +kernel
theorem d_By_replace_24 : decode b_By_replace 24 = .ok (.i2b, 1) := by decide +kernel
theorem d_By_replace_25 : decode b_By_replace 25 = .ok (.bastore, 1) := by decide +kernel
theorem d_By_replace_26 : decode b_By_replace 26 = .ok (.iload_n 3, 1) := by decide +kernel
theorem d_By_replace_27 : decode b_By_replace 27 = .ok (.ireturn, 1) := by decide +kernel
abbrev b_By_shorten : ByteArray := prog_2_method_7_code
abbrev y_By_shorten : MethodName := ⟨"CharOutlines$Bytes", "shorten", "(I)I"⟩
set_option maxRecDepth 100000 in
theorem cal_By_shorten : CalV gd_tbl "CharOutlines$Bytes" y_By_shorten b_By_shorten 3 (some .int) 1 := ⟨⟨List.mem_filter.mpr ⟨List.mem_of_getElem? (i := 401) rfl, rfl⟩, List.mem_filter.mpr ⟨List.mem_of_getElem? (i := 61) rfl, rfl⟩, ⟨by decide, by decide⟩, by decide +kernel⟩, List.mem_filter.mpr ⟨List.mem_of_getElem? (i := 399) rfl, rfl⟩, List.mem_filter.mpr ⟨List.mem_of_getElem? (i := 400) rfl, rfl⟩⟩
theorem d_By_shorten_0 : decode b_By_shorten 0 = .ok (.aload_n 0, 1) := by decide +kernel
theorem d_By_shorten_1 : decode b_By_shorten 1 = .ok (.getfield 15, 3) := by decide +kernel
theorem d_By_shorten_4 : decode b_By_shorten 4 = .ok (.istore_n 2, 1) := by decide +kernel
theorem d_By_shorten_5 : decode b_By_shorten 5 = .ok (.iload_n 1, 1) := by decide +kernel
theorem d_By_shorten_6 : decode b_By_shorten 6 = .ok (.ifCond .lt 16, 3) := by decide +kernel
theorem d_By_shorten_9 : decode b_By_shorten 9 = .ok (.iload_n 1, 1) := by decide +kernel
theorem d_By_shorten_10 : decode b_By_shorten 10 = .ok (.aload_n 0, 1) := by decide +kernel
theorem d_By_shorten_11 : decode b_By_shorten 11 = .ok (.getfield 15, 3) := by decide +kernel
theorem d_By_shorten_14 : decode b_By_shorten 14 = .ok (.if_icmp .ge 8, 3) := by decide +kernel
theorem d_By_shorten_17 : decode b_By_shorten 17 = .ok (.aload_n 0, 1) := by decide +kernel
theorem d_By_shorten_18 : decode b_By_shorten 18 = .ok (.iload_n 1, 1) := by decide +kernel
theorem d_By_shorten_19 : decode b_By_shorten 19 = .ok (.putfield 15, 3) := by decide +kernel
theorem d_By_shorten_22 : decode b_By_shorten 22 = .ok (.iload_n 2, 1) := by decide +kernel
theorem d_By_shorten_23 : decode b_By_shorten 23 = .ok (.aload_n 0, 1) := by decide +kernel
theorem d_By_shorten_24 : decode b_By_shorten 24 = .ok (.getfield 15, 3) := by decide +kernel
theorem d_By_shorten_27 : decode b_By_shorten 27 = .ok (.isub, 1) := by decide +kernel
theorem d_By_shorten_28 : decode b_By_shorten 28 = .ok (.ireturn, 1) := by decide +kernel
abbrev b_CO_feed : ByteArray := prog_1_method_2_code
abbrev y_CO_feed : MethodName := ⟨"CharOutlines", "feed", "(IIIII)I"⟩
set_option maxRecDepth 100000 in
theorem cal_CO_feed : CalV gd_tbl "CharOutlines" y_CO_feed b_CO_feed 6 (some .int) 5 := ⟨⟨List.mem_filter.mpr ⟨List.mem_of_getElem? (i := 242) rfl, rfl⟩, List.mem_filter.mpr ⟨List.mem_of_getElem? (i := 60) rfl, rfl⟩, ⟨by decide, by decide⟩, by decide +kernel⟩, List.mem_filter.mpr ⟨List.mem_of_getElem? (i := 240) rfl, rfl⟩, List.mem_filter.mpr ⟨List.mem_of_getElem? (i := 241) rfl, rfl⟩⟩
theorem d_CO_feed_0 : decode b_CO_feed 0 = .ok (.aload_n 0, 1) := by decide +kernel
theorem d_CO_feed_1 : decode b_CO_feed 1 = .ok (.getfield 10, 3) := by decide +kernel
theorem d_CO_feed_4 : decode b_CO_feed 4 = .ok (.invokevirtual 23, 3) := by decide +kernel
theorem d_CO_feed_7 : decode b_CO_feed 7 = .ok (.sipush 16364, 3) := by decide +kernel
theorem d_CO_feed_10 : decode b_CO_feed 10 = .ok (.if_icmp .le 5, 3) := by decide +kernel
theorem d_CO_feed_13 : decode b_CO_feed 13 = .ok (.iconst (-1), 1) := by decide +kernel
theorem d_CO_feed_14 : decode b_CO_feed 14 = .ok (.ireturn, 1) := by decide +kernel
theorem d_CO_feed_15 : decode b_CO_feed 15 = .ok (.aload_n 0, 1) := by decide +kernel
theorem d_CO_feed_16 : decode b_CO_feed 16 = .ok (.getfield 10, 3) := by decide +kernel
theorem d_CO_feed_19 : decode b_CO_feed 19 = .ok (.iload_n 1, 1) := by decide +kernel
theorem d_CO_feed_20 : decode b_CO_feed 20 = .ok (.invokevirtual 27, 3) := by decide +kernel
theorem d_CO_feed_23 : decode b_CO_feed 23 = .ok (.aload_n 0, 1) := by decide +kernel
theorem d_CO_feed_24 : decode b_CO_feed 24 = .ok (.getfield 10, 3) := by decide +kernel
theorem d_CO_feed_27 : decode b_CO_feed 27 = .ok (.iload_n 2, 1) := by decide +kernel
theorem d_CO_feed_28 : decode b_CO_feed 28 = .ok (.invokevirtual 27, 3) := by decide +kernel
theorem d_CO_feed_31 : decode b_CO_feed 31 = .ok (.aload_n 0, 1) := by decide +kernel
theorem d_CO_feed_32 : decode b_CO_feed 32 = .ok (.getfield 10, 3) := by decide +kernel
theorem d_CO_feed_35 : decode b_CO_feed 35 = .ok (.iload_n 3, 1) := by decide +kernel
theorem d_CO_feed_36 : decode b_CO_feed 36 = .ok (.invokevirtual 27, 3) := by decide +kernel
theorem d_CO_feed_39 : decode b_CO_feed 39 = .ok (.aload_n 0, 1) := by decide +kernel
theorem d_CO_feed_40 : decode b_CO_feed 40 = .ok (.getfield 10, 3) := by decide +kernel
theorem d_CO_feed_43 : decode b_CO_feed 43 = .ok (.iload 4, 2) := by decide +kernel
theorem d_CO_feed_45 : decode b_CO_feed 45 = .ok (.invokevirtual 27, 3) := by decide +kernel
theorem d_CO_feed_48 : decode b_CO_feed 48 = .ok (.aload_n 0, 1) := by decide +kernel
theorem d_CO_feed_49 : decode b_CO_feed 49 = .ok (.getfield 10, 3) := by decide +kernel
theorem d_CO_feed_52 : decode b_CO_feed 52 = .ok (.iload 5, 2) := by decide +kernel
theorem d_CO_feed_54 : decode b_CO_feed 54 = .ok (.invokevirtual 27, 3) := by decide +kernel
theorem d_CO_feed_57 : decode b_CO_feed 57 = .ok (.aload_n 0, 1) := by decide +kernel
theorem d_CO_feed_58 : decode b_CO_feed 58 = .ok (.getfield 10, 3) := by decide +kernel
theorem d_CO_feed_61 : decode b_CO_feed 61 = .ok (.invokevirtual 23, 3) := by decide +kernel
theorem d_CO_feed_64 : decode b_CO_feed 64 = .ok (.ireturn, 1) := by decide +kernel
abbrev b_CO_put : ByteArray := prog_1_method_3_code
abbrev y_CO_put : MethodName := ⟨"CharOutlines", "put", "(II)I"⟩
set_option maxRecDepth 100000 in
theorem cal_CO_put : CalV gd_tbl "CharOutlines" y_CO_put b_CO_put 3 (some .int) 2 := ⟨⟨List.mem_filter.mpr ⟨List.mem_of_getElem? (i := 299) rfl, rfl⟩, List.mem_filter.mpr ⟨List.mem_of_getElem? (i := 60) rfl, rfl⟩, ⟨by decide, by decide⟩, by decide +kernel⟩, List.mem_filter.mpr ⟨List.mem_of_getElem? (i := 297) rfl, rfl⟩, List.mem_filter.mpr ⟨List.mem_of_getElem? (i := 298) rfl, rfl⟩⟩
theorem d_CO_put_0 : decode b_CO_put 0 = .ok (.iload_n 1, 1) := by decide +kernel
theorem d_CO_put_1 : decode b_CO_put 1 = .ok (.ifCond .lt 14, 3) := by decide +kernel
theorem d_CO_put_4 : decode b_CO_put 4 = .ok (.iload_n 1, 1) := by decide +kernel
theorem d_CO_put_5 : decode b_CO_put 5 = .ok (.aload_n 0, 1) := by decide +kernel
theorem d_CO_put_6 : decode b_CO_put 6 = .ok (.getfield 10, 3) := by decide +kernel
theorem d_CO_put_9 : decode b_CO_put 9 = .ok (.invokevirtual 23, 3) := by decide +kernel
theorem d_CO_put_12 : decode b_CO_put 12 = .ok (.if_icmp .lt 13, 3) := by decide +kernel
theorem d_CO_put_15 : decode b_CO_put 15 = .ok (.new 31, 3) := by decide +kernel
theorem d_CO_put_18 : decode b_CO_put 18 = .ok (.dup, 1) := by decide +kernel
theorem d_CO_put_19 : decode b_CO_put 19 = .ok (.ldc 33, 2) := by decide +kernel
theorem d_CO_put_21 : decode b_CO_put 21 = .ok (.invokespecial 35, 3) := by decide +kernel
theorem d_CO_put_24 : decode b_CO_put 24 = .ok (.athrow, 1) := by decide +kernel
theorem d_CO_put_25 : decode b_CO_put 25 = .ok (.iload_n 2, 1) := by decide +kernel
theorem d_CO_put_26 : decode b_CO_put 26 = .ok (.ifCond .lt 10, 3) := by decide +kernel
theorem d_CO_put_29 : decode b_CO_put 29 = .ok (.iload_n 2, 1) := by decide +kernel
theorem d_CO_put_30 : decode b_CO_put 30 = .ok (.sipush 255, 3) := by decide +kernel
theorem d_CO_put_33 : decode b_CO_put 33 = .ok (.if_icmp .le 13, 3) := by decide +kernel
theorem d_CO_put_36 : decode b_CO_put 36 = .ok (.new 38, 3) := by decide +kernel
theorem d_CO_put_39 : decode b_CO_put 39 = .ok (.dup, 1) := by decide +kernel
theorem d_CO_put_40 : decode b_CO_put 40 = .ok (.ldc 40, 2) := by decide +kernel
theorem d_CO_put_42 : decode b_CO_put 42 = .ok (.invokespecial 42, 3) := by decide +kernel
theorem d_CO_put_45 : decode b_CO_put 45 = .ok (.athrow, 1) := by decide +kernel
theorem d_CO_put_46 : decode b_CO_put 46 = .ok (.aload_n 0, 1) := by decide +kernel
theorem d_CO_put_47 : decode b_CO_put 47 = .ok (.getfield 10, 3) := by decide +kernel
theorem d_CO_put_50 : decode b_CO_put 50 = .ok (.iload_n 1, 1) := by decide +kernel
theorem d_CO_put_51 : decode b_CO_put 51 = .ok (.iload_n 2, 1) := by decide +kernel
theorem d_CO_put_52 : decode b_CO_put 52 = .ok (.invokevirtual 43, 3) := by decide +kernel
theorem d_CO_put_55 : decode b_CO_put 55 = .ok (.ireturn, 1) := by decide +kernel
abbrev b_CO_cut : ByteArray := prog_1_method_4_code
abbrev y_CO_cut : MethodName := ⟨"CharOutlines", "cut", "(I)I"⟩
set_option maxRecDepth 100000 in
theorem cal_CO_cut : CalV gd_tbl "CharOutlines" y_CO_cut b_CO_cut 2 (some .int) 1 := ⟨⟨List.mem_filter.mpr ⟨List.mem_of_getElem? (i := 396) rfl, rfl⟩, List.mem_filter.mpr ⟨List.mem_of_getElem? (i := 60) rfl, rfl⟩, ⟨by decide, by decide⟩, by decide +kernel⟩, List.mem_filter.mpr ⟨List.mem_of_getElem? (i := 394) rfl, rfl⟩, List.mem_filter.mpr ⟨List.mem_of_getElem? (i := 395) rfl, rfl⟩⟩
theorem d_CO_cut_0 : decode b_CO_cut 0 = .ok (.iload_n 1, 1) := by decide +kernel
theorem d_CO_cut_1 : decode b_CO_cut 1 = .ok (.ifCond .ge 13, 3) := by decide +kernel
theorem d_CO_cut_4 : decode b_CO_cut 4 = .ok (.new 38, 3) := by decide +kernel
theorem d_CO_cut_7 : decode b_CO_cut 7 = .ok (.dup, 1) := by decide +kernel
theorem d_CO_cut_8 : decode b_CO_cut 8 = .ok (.ldc 47, 2) := by decide +kernel
theorem d_CO_cut_10 : decode b_CO_cut 10 = .ok (.invokespecial 42, 3) := by decide +kernel
theorem d_CO_cut_13 : decode b_CO_cut 13 = .ok (.athrow, 1) := by decide +kernel
theorem d_CO_cut_14 : decode b_CO_cut 14 = .ok (.aload_n 0, 1) := by decide +kernel
theorem d_CO_cut_15 : decode b_CO_cut 15 = .ok (.getfield 10, 3) := by decide +kernel
theorem d_CO_cut_18 : decode b_CO_cut 18 = .ok (.iload_n 1, 1) := by decide +kernel
theorem d_CO_cut_19 : decode b_CO_cut 19 = .ok (.invokevirtual 49, 3) := by decide +kernel
theorem d_CO_cut_22 : decode b_CO_cut 22 = .ok (.ireturn, 1) := by decide +kernel
abbrev b_St_shelf : ByteArray := prog_9_method_2_code
abbrev y_St_shelf : MethodName := ⟨"CharOutlines$Strings", "shelf", "(I)LCharOutlines$Shelf;"⟩
set_option maxRecDepth 100000 in
theorem cal_St_shelf : CalV gd_tbl "CharOutlines$Strings" y_St_shelf b_St_shelf 2 (some (.object "CharOutlines$Shelf")) 1 := ⟨⟨List.mem_filter.mpr ⟨List.mem_of_getElem? (i := 420) rfl, rfl⟩, List.mem_filter.mpr ⟨List.mem_of_getElem? (i := 63) rfl, rfl⟩, ⟨by decide, by decide⟩, by decide +kernel⟩, List.mem_filter.mpr ⟨List.mem_of_getElem? (i := 418) rfl, rfl⟩, List.mem_filter.mpr ⟨List.mem_of_getElem? (i := 419) rfl, rfl⟩⟩
theorem d_St_shelf_0 : decode b_St_shelf 0 = .ok (.iload_n 1, 1) := by decide +kernel
theorem d_St_shelf_1 : decode b_St_shelf 1 = .ok (.lookupswitch 37 #[(1, 27), (2, 32)], 27) := by decide +kernel
theorem d_St_shelf_28 : decode b_St_shelf 28 = .ok (.aload_n 0, 1) := by decide +kernel
theorem d_St_shelf_29 : decode b_St_shelf 29 = .ok (.getfield 18, 3) := by decide +kernel
theorem d_St_shelf_32 : decode b_St_shelf 32 = .ok (.areturn, 1) := by decide +kernel
theorem d_St_shelf_33 : decode b_St_shelf 33 = .ok (.aload_n 0, 1) := by decide +kernel
theorem d_St_shelf_34 : decode b_St_shelf 34 = .ok (.getfield 21, 3) := by decide +kernel
theorem d_St_shelf_37 : decode b_St_shelf 37 = .ok (.areturn, 1) := by decide +kernel
theorem d_St_shelf_38 : decode b_St_shelf 38 = .ok (.aload_n 0, 1) := by decide +kernel
theorem d_St_shelf_39 : decode b_St_shelf 39 = .ok (.getfield 12, 3) := by decide +kernel
theorem d_St_shelf_42 : decode b_St_shelf 42 = .ok (.areturn, 1) := by decide +kernel
abbrev b_Ma_shelf : ByteArray := prog_4_method_2_code
abbrev y_Ma_shelf : MethodName := ⟨"CharOutlines$Machine", "shelf", "(I)LCharOutlines$Shelf;"⟩
set_option maxRecDepth 100000 in
theorem cal_Ma_shelf : CalV gd_tbl "CharOutlines$Machine" y_Ma_shelf b_Ma_shelf 2 (some (.object "CharOutlines$Shelf")) 1 := ⟨⟨List.mem_filter.mpr ⟨List.mem_of_getElem? (i := 416) rfl, rfl⟩, List.mem_filter.mpr ⟨List.mem_of_getElem? (i := 62) rfl, rfl⟩, ⟨by decide, by decide⟩, by decide +kernel⟩, List.mem_filter.mpr ⟨List.mem_of_getElem? (i := 414) rfl, rfl⟩, List.mem_filter.mpr ⟨List.mem_of_getElem? (i := 415) rfl, rfl⟩⟩
theorem d_Ma_shelf_0 : decode b_Ma_shelf 0 = .ok (.aload_n 0, 1) := by decide +kernel
theorem d_Ma_shelf_1 : decode b_Ma_shelf 1 = .ok (.getfield 12, 3) := by decide +kernel
theorem d_Ma_shelf_4 : decode b_Ma_shelf 4 = .ok (.iload_n 1, 1) := by decide +kernel
theorem d_Ma_shelf_5 : decode b_Ma_shelf 5 = .ok (.invokevirtual 39, 3) := by decide +kernel
theorem d_Ma_shelf_8 : decode b_Ma_shelf 8 = .ok (.areturn, 1) := by decide +kernel
abbrev b_Ma_outline : ByteArray := prog_4_method_3_code
abbrev y_Ma_outline : MethodName := ⟨"CharOutlines$Machine", "outline", "()LCharOutlines$Outline;"⟩
set_option maxRecDepth 100000 in
theorem cal_Ma_outline : CalV gd_tbl "CharOutlines$Machine" y_Ma_outline b_Ma_outline 1 (some (.object "CharOutlines$Outline")) 0 := ⟨⟨List.mem_filter.mpr ⟨List.mem_of_getElem? (i := 725) rfl, rfl⟩, List.mem_filter.mpr ⟨List.mem_of_getElem? (i := 62) rfl, rfl⟩, ⟨by decide, by decide⟩, by decide +kernel⟩, List.mem_filter.mpr ⟨List.mem_of_getElem? (i := 723) rfl, rfl⟩, List.mem_filter.mpr ⟨List.mem_of_getElem? (i := 724) rfl, rfl⟩⟩
theorem d_Ma_outline_0 : decode b_Ma_outline 0 = .ok (.aload_n 0, 1) := by decide +kernel
theorem d_Ma_outline_1 : decode b_Ma_outline 1 = .ok (.getfield 35, 3) := by decide +kernel
theorem d_Ma_outline_4 : decode b_Ma_outline 4 = .ok (.areturn, 1) := by decide +kernel
abbrev b_Sh_strings : ByteArray := prog_8_method_2_code
abbrev y_Sh_strings : MethodName := ⟨"CharOutlines$Shelf", "strings", "()I"⟩
set_option maxRecDepth 100000 in
theorem cal_Sh_strings : CalV gd_tbl "CharOutlines$Shelf" y_Sh_strings b_Sh_strings 1 (some .int) 0 := ⟨⟨List.mem_filter.mpr ⟨List.mem_of_getElem? (i := 643) rfl, rfl⟩, List.mem_filter.mpr ⟨List.mem_of_getElem? (i := 64) rfl, rfl⟩, ⟨by decide, by decide⟩, by decide +kernel⟩, List.mem_filter.mpr ⟨List.mem_of_getElem? (i := 641) rfl, rfl⟩, List.mem_filter.mpr ⟨List.mem_of_getElem? (i := 642) rfl, rfl⟩⟩
theorem d_Sh_strings_0 : decode b_Sh_strings 0 = .ok (.aload_n 0, 1) := by decide +kernel
theorem d_Sh_strings_1 : decode b_Sh_strings 1 = .ok (.getfield 18, 3) := by decide +kernel
theorem d_Sh_strings_4 : decode b_Sh_strings 4 = .ok (.ireturn, 1) := by decide +kernel
abbrev b_Sh_has : ByteArray := prog_8_method_3_code
abbrev y_Sh_has : MethodName := ⟨"CharOutlines$Shelf", "has", "(I)Z"⟩
set_option maxRecDepth 100000 in
theorem cal_Sh_has : CalV gd_tbl "CharOutlines$Shelf" y_Sh_has b_Sh_has 2 (some .boolean) 1 := ⟨⟨List.mem_filter.mpr ⟨List.mem_of_getElem? (i := 453) rfl, rfl⟩, List.mem_filter.mpr ⟨List.mem_of_getElem? (i := 64) rfl, rfl⟩, ⟨by decide, by decide⟩, by decide +kernel⟩, List.mem_filter.mpr ⟨List.mem_of_getElem? (i := 451) rfl, rfl⟩, List.mem_filter.mpr ⟨List.mem_of_getElem? (i := 452) rfl, rfl⟩⟩
theorem d_Sh_has_0 : decode b_Sh_has 0 = .ok (.iload_n 1, 1) := by decide +kernel
theorem d_Sh_has_1 : decode b_Sh_has 1 = .ok (.ifCond .lt 15, 3) := by decide +kernel
theorem d_Sh_has_4 : decode b_Sh_has 4 = .ok (.iload_n 1, 1) := by decide +kernel
theorem d_Sh_has_5 : decode b_Sh_has 5 = .ok (.aload_n 0, 1) := by decide +kernel
theorem d_Sh_has_6 : decode b_Sh_has 6 = .ok (.getfield 18, 3) := by decide +kernel
theorem d_Sh_has_9 : decode b_Sh_has 9 = .ok (.if_icmp .ge 7, 3) := by decide +kernel
theorem d_Sh_has_12 : decode b_Sh_has 12 = .ok (.iconst 1, 1) := by decide +kernel
theorem d_Sh_has_13 : decode b_Sh_has 13 = .ok (.goto 4, 3) := by decide +kernel
theorem d_Sh_has_16 : decode b_Sh_has 16 = .ok (.iconst 0, 1) := by decide +kernel
theorem d_Sh_has_17 : decode b_Sh_has 17 = .ok (.ireturn, 1) := by decide +kernel
abbrev b_Sh_stringsIn : ByteArray := prog_8_method_7_code
abbrev y_Sh_stringsIn : MethodName := ⟨"CharOutlines$Shelf", "stringsIn", "(LCharOutlines$Bytes;)I"⟩
set_option maxRecDepth 100000 in
theorem cal_Sh_stringsIn : CalS gd_tbl y_Sh_stringsIn b_Sh_stringsIn 2 (some .int) 1 := ⟨⟨List.mem_filter.mpr ⟨List.mem_of_getElem? (i := 427) rfl, rfl⟩, List.mem_filter.mpr ⟨List.mem_of_getElem? (i := 64) rfl, rfl⟩, ⟨by decide, by decide⟩, by decide +kernel⟩, List.mem_filter.mpr ⟨List.mem_of_getElem? (i := 426) rfl, rfl⟩⟩
theorem d_Sh_stringsIn_0 : decode b_Sh_stringsIn 0 = .ok (.aload_n 0, 1) := by decide +kernel
theorem d_Sh_stringsIn_1 : decode b_Sh_stringsIn 1 = .ok (.invokevirtual 38, 3) := by decide +kernel
theorem d_Sh_stringsIn_4 : decode b_Sh_stringsIn 4 = .ok (.iconst 2, 1) := by decide +kernel
theorem d_Sh_stringsIn_5 : decode b_Sh_stringsIn 5 = .ok (.if_icmp .ge 6, 3) := by decide +kernel
theorem d_Sh_stringsIn_8 : decode b_Sh_stringsIn 8 = .ok (.bipush (-2), 2) := by decide +kernel
theorem d_Sh_stringsIn_10 : decode b_Sh_stringsIn 10 = .ok (.ireturn, 1) := by decide +kernel
theorem d_Sh_stringsIn_11 : decode b_Sh_stringsIn 11 = .ok (.aload_n 0, 1) := by decide +kernel
theorem d_Sh_stringsIn_12 : decode b_Sh_stringsIn 12 = .ok (.iconst 0, 1) := by decide +kernel
theorem d_Sh_stringsIn_13 : decode b_Sh_stringsIn 13 = .ok (.iconst 2, 1) := by decide +kernel
theorem d_Sh_stringsIn_14 : decode b_Sh_stringsIn 14 = .ok (.invokevirtual 34, 3) := by decide +kernel
theorem d_Sh_stringsIn_17 : decode b_Sh_stringsIn 17 = .ok (.l2i, 1) := by decide +kernel
theorem d_Sh_stringsIn_18 : decode b_Sh_stringsIn 18 = .ok (.istore_n 1, 1) := by decide +kernel
theorem d_Sh_stringsIn_19 : decode b_Sh_stringsIn 19 = .ok (.iload_n 1, 1) := by decide +kernel
theorem d_Sh_stringsIn_20 : decode b_Sh_stringsIn 20 = .ok (.ifCond .ne 5, 3) := by decide +kernel
theorem d_Sh_stringsIn_23 : decode b_Sh_stringsIn 23 = .ok (.iconst 0, 1) := by decide +kernel
theorem d_Sh_stringsIn_24 : decode b_Sh_stringsIn 24 = .ok (.ireturn, 1) := by decide +kernel
theorem d_Sh_stringsIn_25 : decode b_Sh_stringsIn 25 = .ok (.iload_n 1, 1) := by decide +kernel
theorem d_Sh_stringsIn_26 : decode b_Sh_stringsIn 26 = .ok (.sipush 2000, 3) := by decide +kernel
theorem d_Sh_stringsIn_29 : decode b_Sh_stringsIn 29 = .ok (.if_icmp .gt 15, 3) := by decide +kernel
theorem d_Sh_stringsIn_32 : decode b_Sh_stringsIn 32 = .ok (.aload_n 0, 1) := by decide +kernel
theorem d_Sh_stringsIn_33 : decode b_Sh_stringsIn 33 = .ok (.iload_n 1, 1) := by decide +kernel
theorem d_Sh_stringsIn_34 : decode b_Sh_stringsIn 34 = .ok (.invokestatic 42, 3) := by decide +kernel
theorem d_Sh_stringsIn_37 : decode b_Sh_stringsIn 37 = .ok (.ifCond .eq 7, 3) := by decide +kernel
theorem d_Sh_stringsIn_40 : decode b_Sh_stringsIn 40 = .ok (.iload_n 1, 1) := by decide +kernel
theorem d_Sh_stringsIn_41 : decode b_Sh_stringsIn 41 = .ok (.goto 5, 3) := by decide +kernel
theorem d_Sh_stringsIn_44 : decode b_Sh_stringsIn 44 = .ok (.bipush (-2), 2) := by decide +kernel
theorem d_Sh_stringsIn_46 : decode b_Sh_stringsIn 46 = .ok (.ireturn, 1) := by decide +kernel
abbrev b_Sh_fill : ByteArray := prog_8_method_5_code
abbrev y_Sh_fill : MethodName := ⟨"CharOutlines$Shelf", "fill", "(LCharOutlines$Bytes;)I"⟩
set_option maxRecDepth 100000 in
theorem cal_Sh_fill : CalV gd_tbl "CharOutlines$Shelf" y_Sh_fill b_Sh_fill 3 (some .int) 1 := ⟨⟨List.mem_filter.mpr ⟨List.mem_of_getElem? (i := 424) rfl, rfl⟩, List.mem_filter.mpr ⟨List.mem_of_getElem? (i := 64) rfl, rfl⟩, ⟨by decide, by decide⟩, by decide +kernel⟩, List.mem_filter.mpr ⟨List.mem_of_getElem? (i := 422) rfl, rfl⟩, List.mem_filter.mpr ⟨List.mem_of_getElem? (i := 423) rfl, rfl⟩⟩
theorem d_Sh_fill_0 : decode b_Sh_fill 0 = .ok (.aload_n 1, 1) := by decide +kernel
theorem d_Sh_fill_1 : decode b_Sh_fill 1 = .ok (.invokestatic 26, 3) := by decide +kernel
theorem d_Sh_fill_4 : decode b_Sh_fill 4 = .ok (.istore_n 2, 1) := by decide +kernel
theorem d_Sh_fill_5 : decode b_Sh_fill 5 = .ok (.iload_n 2, 1) := by decide +kernel
theorem d_Sh_fill_6 : decode b_Sh_fill 6 = .ok (.bipush (-2), 2) := by decide +kernel
theorem d_Sh_fill_8 : decode b_Sh_fill 8 = .ok (.if_icmp .eq 16, 3) := by decide +kernel
theorem d_Sh_fill_11 : decode b_Sh_fill 11 = .ok (.aload_n 0, 1) := by decide +kernel
theorem d_Sh_fill_12 : decode b_Sh_fill 12 = .ok (.getfield 12, 3) := by decide +kernel
theorem d_Sh_fill_15 : decode b_Sh_fill 15 = .ok (.aload_n 1, 1) := by decide +kernel
theorem d_Sh_fill_16 : decode b_Sh_fill 16 = .ok (.invokevirtual 30, 3) := by decide +kernel
theorem d_Sh_fill_19 : decode b_Sh_fill 19 = .ok (.aload_n 0, 1) := by decide +kernel
theorem d_Sh_fill_20 : decode b_Sh_fill 20 = .ok (.iload_n 2, 1) := by decide +kernel
theorem d_Sh_fill_21 : decode b_Sh_fill 21 = .ok (.putfield 18, 3) := by decide +kernel
theorem d_Sh_fill_24 : decode b_Sh_fill 24 = .ok (.iload_n 2, 1) := by decide +kernel
theorem d_Sh_fill_25 : decode b_Sh_fill 25 = .ok (.ireturn, 1) := by decide +kernel
abbrev b_CO_take : ByteArray := prog_1_method_5_code
abbrev y_CO_take : MethodName := ⟨"CharOutlines", "take", "(I)I"⟩
set_option maxRecDepth 100000 in
theorem cal_CO_take : CalV gd_tbl "CharOutlines" y_CO_take b_CO_take 2 (some .int) 1 := ⟨⟨List.mem_filter.mpr ⟨List.mem_of_getElem? (i := 408) rfl, rfl⟩, List.mem_filter.mpr ⟨List.mem_of_getElem? (i := 60) rfl, rfl⟩, ⟨by decide, by decide⟩, by decide +kernel⟩, List.mem_filter.mpr ⟨List.mem_of_getElem? (i := 406) rfl, rfl⟩, List.mem_filter.mpr ⟨List.mem_of_getElem? (i := 407) rfl, rfl⟩⟩
theorem d_CO_take_0 : decode b_CO_take 0 = .ok (.iload_n 1, 1) := by decide +kernel
theorem d_CO_take_1 : decode b_CO_take 1 = .ok (.invokestatic 53, 3) := by decide +kernel
theorem d_CO_take_4 : decode b_CO_take 4 = .ok (.ifCond .ne 13, 3) := by decide +kernel
theorem d_CO_take_7 : decode b_CO_take 7 = .ok (.new 38, 3) := by decide +kernel
theorem d_CO_take_10 : decode b_CO_take 10 = .ok (.dup, 1) := by decide +kernel
theorem d_CO_take_11 : decode b_CO_take 11 = .ok (.ldc 57, 2) := by decide +kernel
theorem d_CO_take_13 : decode b_CO_take 13 = .ok (.invokespecial 42, 3) := by decide +kernel
theorem d_CO_take_16 : decode b_CO_take 16 = .ok (.athrow, 1) := by decide +kernel
theorem d_CO_take_17 : decode b_CO_take 17 = .ok (.aload_n 0, 1) := by decide +kernel
theorem d_CO_take_18 : decode b_CO_take 18 = .ok (.getfield 19, 3) := by decide +kernel
theorem d_CO_take_21 : decode b_CO_take 21 = .ok (.iload_n 1, 1) := by decide +kernel
theorem d_CO_take_22 : decode b_CO_take 22 = .ok (.invokevirtual 59, 3) := by decide +kernel
theorem d_CO_take_25 : decode b_CO_take 25 = .ok (.aload_n 0, 1) := by decide +kernel
theorem d_CO_take_26 : decode b_CO_take 26 = .ok (.getfield 10, 3) := by decide +kernel
theorem d_CO_take_29 : decode b_CO_take 29 = .ok (.invokevirtual 63, 3) := by decide +kernel
theorem d_CO_take_32 : decode b_CO_take 32 = .ok (.ireturn, 1) := by decide +kernel
abbrev b_CO_count : ByteArray := prog_1_method_9_code
abbrev y_CO_count : MethodName := ⟨"CharOutlines", "count", "(I)I"⟩
set_option maxRecDepth 100000 in
theorem cal_CO_count : CalV gd_tbl "CharOutlines" y_CO_count b_CO_count 2 (some .int) 1 := ⟨⟨List.mem_filter.mpr ⟨List.mem_of_getElem? (i := 742) rfl, rfl⟩, List.mem_filter.mpr ⟨List.mem_of_getElem? (i := 60) rfl, rfl⟩, ⟨by decide, by decide⟩, by decide +kernel⟩, List.mem_filter.mpr ⟨List.mem_of_getElem? (i := 740) rfl, rfl⟩, List.mem_filter.mpr ⟨List.mem_of_getElem? (i := 741) rfl, rfl⟩⟩
theorem d_CO_count_0 : decode b_CO_count 0 = .ok (.iload_n 1, 1) := by decide +kernel
theorem d_CO_count_1 : decode b_CO_count 1 = .ok (.invokestatic 53, 3) := by decide +kernel
theorem d_CO_count_4 : decode b_CO_count 4 = .ok (.ifCond .ne 13, 3) := by decide +kernel
theorem d_CO_count_7 : decode b_CO_count 7 = .ok (.new 38, 3) := by decide +kernel
theorem d_CO_count_10 : decode b_CO_count 10 = .ok (.dup, 1) := by decide +kernel
theorem d_CO_count_11 : decode b_CO_count 11 = .ok (.ldc 57, 2) := by decide +kernel
theorem d_CO_count_13 : decode b_CO_count 13 = .ok (.invokespecial 42, 3) := by decide +kernel
theorem d_CO_count_16 : decode b_CO_count 16 = .ok (.athrow, 1) := by decide +kernel
theorem d_CO_count_17 : decode b_CO_count 17 = .ok (.aload_n 0, 1) := by decide +kernel
theorem d_CO_count_18 : decode b_CO_count 18 = .ok (.getfield 19, 3) := by decide +kernel
theorem d_CO_count_21 : decode b_CO_count 21 = .ok (.iload_n 1, 1) := by decide +kernel
theorem d_CO_count_22 : decode b_CO_count 22 = .ok (.invokevirtual 59, 3) := by decide +kernel
theorem d_CO_count_25 : decode b_CO_count 25 = .ok (.invokevirtual 94, 3) := by decide +kernel
theorem d_CO_count_28 : decode b_CO_count 28 = .ok (.ireturn, 1) := by decide +kernel
abbrev b_CO_run : ByteArray := prog_1_method_6_code
abbrev y_CO_run : MethodName := ⟨"CharOutlines", "run", "(I)I"⟩
set_option maxRecDepth 100000 in
theorem cal_CO_run : CalV gd_tbl "CharOutlines" y_CO_run b_CO_run 2 (some .int) 1 := ⟨⟨List.mem_filter.mpr ⟨List.mem_of_getElem? (i := 449) rfl, rfl⟩, List.mem_filter.mpr ⟨List.mem_of_getElem? (i := 60) rfl, rfl⟩, ⟨by decide, by decide⟩, by decide +kernel⟩, List.mem_filter.mpr ⟨List.mem_of_getElem? (i := 447) rfl, rfl⟩, List.mem_filter.mpr ⟨List.mem_of_getElem? (i := 448) rfl, rfl⟩⟩
theorem d_CO_run_0 : decode b_CO_run 0 = .ok (.aload_n 0, 1) := by decide +kernel
theorem d_CO_run_1 : decode b_CO_run 1 = .ok (.getfield 19, 3) := by decide +kernel
theorem d_CO_run_4 : decode b_CO_run 4 = .ok (.iconst 0, 1) := by decide +kernel
theorem d_CO_run_5 : decode b_CO_run 5 = .ok (.invokevirtual 59, 3) := by decide +kernel
theorem d_CO_run_8 : decode b_CO_run 8 = .ok (.iload_n 1, 1) := by decide +kernel
theorem d_CO_run_9 : decode b_CO_run 9 = .ok (.invokevirtual 69, 3) := by decide +kernel
theorem d_CO_run_12 : decode b_CO_run 12 = .ok (.ifCond .ne 13, 3) := by decide +kernel
theorem d_CO_run_15 : decode b_CO_run 15 = .ok (.new 31, 3) := by decide +kernel
theorem d_CO_run_18 : decode b_CO_run 18 = .ok (.dup, 1) := by decide +kernel
theorem d_CO_run_19 : decode b_CO_run 19 = .ok (.ldc 72, 2) := by decide +kernel
theorem d_CO_run_21 : decode b_CO_run 21 = .ok (.invokespecial 35, 3) := by decide +kernel
theorem d_CO_run_24 : decode b_CO_run 24 = .ok (.athrow, 1) := by decide +kernel
theorem d_CO_run_25 : decode b_CO_run 25 = .ok (.aload_n 0, 1) := by decide +kernel
theorem d_CO_run_26 : decode b_CO_run 26 = .ok (.getfield 19, 3) := by decide +kernel
theorem d_CO_run_29 : decode b_CO_run 29 = .ok (.iload_n 1, 1) := by decide +kernel
theorem d_CO_run_30 : decode b_CO_run 30 = .ok (.invokevirtual 74, 3) := by decide +kernel
theorem d_CO_run_33 : decode b_CO_run 33 = .ok (.ireturn, 1) := by decide +kernel
abbrev b_Ou_has : ByteArray := prog_6_method_3_code
abbrev y_Ou_has : MethodName := ⟨"CharOutlines$Outline", "has", "(II)Z"⟩
set_option maxRecDepth 100000 in
theorem cal_Ou_has : CalV gd_tbl "CharOutlines$Outline" y_Ou_has b_Ou_has 3 (some .boolean) 2 := ⟨⟨List.mem_filter.mpr ⟨List.mem_of_getElem? (i := 729) rfl, rfl⟩, List.mem_filter.mpr ⟨List.mem_of_getElem? (i := 67) rfl, rfl⟩, ⟨by decide, by decide⟩, by decide +kernel⟩, List.mem_filter.mpr ⟨List.mem_of_getElem? (i := 727) rfl, rfl⟩, List.mem_filter.mpr ⟨List.mem_of_getElem? (i := 728) rfl, rfl⟩⟩
theorem d_Ou_has_0 : decode b_Ou_has 0 = .ok (.iload_n 1, 1) := by decide +kernel
theorem d_Ou_has_1 : decode b_Ou_has 1 = .ok (.ifCond .lt 25, 3) := by decide +kernel
theorem d_Ou_has_4 : decode b_Ou_has 4 = .ok (.iload_n 1, 1) := by decide +kernel
theorem d_Ou_has_5 : decode b_Ou_has 5 = .ok (.aload_n 0, 1) := by decide +kernel
theorem d_Ou_has_6 : decode b_Ou_has 6 = .ok (.getfield 15, 3) := by decide +kernel
theorem d_Ou_has_9 : decode b_Ou_has 9 = .ok (.if_icmp .ge 17, 3) := by decide +kernel
theorem d_Ou_has_12 : decode b_Ou_has 12 = .ok (.iload_n 2, 1) := by decide +kernel
theorem d_Ou_has_13 : decode b_Ou_has 13 = .ok (.ifCond .lt 13, 3) := by decide +kernel
theorem d_Ou_has_16 : decode b_Ou_has 16 = .ok (.iload_n 2, 1) := by decide +kernel
theorem d_Ou_has_17 : decode b_Ou_has 17 = .ok (.bipush 7, 2) := by decide +kernel
theorem d_Ou_has_19 : decode b_Ou_has 19 = .ok (.if_icmp .ge 7, 3) := by decide +kernel
theorem d_Ou_has_22 : decode b_Ou_has 22 = .ok (.iconst 1, 1) := by decide +kernel
theorem d_Ou_has_23 : decode b_Ou_has 23 = .ok (.goto 4, 3) := by decide +kernel
theorem d_Ou_has_26 : decode b_Ou_has 26 = .ok (.iconst 0, 1) := by decide +kernel
theorem d_Ou_has_27 : decode b_Ou_has 27 = .ok (.ireturn, 1) := by decide +kernel
abbrev b_CO_mark : ByteArray := prog_1_method_7_code
abbrev y_CO_mark : MethodName := ⟨"CharOutlines", "mark", "(II)I"⟩
set_option maxRecDepth 100000 in
theorem cal_CO_mark : CalV gd_tbl "CharOutlines" y_CO_mark b_CO_mark 3 (some .int) 2 := ⟨⟨List.mem_filter.mpr ⟨List.mem_of_getElem? (i := 721) rfl, rfl⟩, List.mem_filter.mpr ⟨List.mem_of_getElem? (i := 60) rfl, rfl⟩, ⟨by decide, by decide⟩, by decide +kernel⟩, List.mem_filter.mpr ⟨List.mem_of_getElem? (i := 719) rfl, rfl⟩, List.mem_filter.mpr ⟨List.mem_of_getElem? (i := 720) rfl, rfl⟩⟩
theorem d_CO_mark_0 : decode b_CO_mark 0 = .ok (.aload_n 0, 1) := by decide +kernel
theorem d_CO_mark_1 : decode b_CO_mark 1 = .ok (.getfield 19, 3) := by decide +kernel
theorem d_CO_mark_4 : decode b_CO_mark 4 = .ok (.invokevirtual 77, 3) := by decide +kernel
theorem d_CO_mark_7 : decode b_CO_mark 7 = .ok (.iload_n 1, 1) := by decide +kernel
theorem d_CO_mark_8 : decode b_CO_mark 8 = .ok (.iload_n 2, 1) := by decide +kernel
theorem d_CO_mark_9 : decode b_CO_mark 9 = .ok (.invokevirtual 81, 3) := by decide +kernel
theorem d_CO_mark_12 : decode b_CO_mark 12 = .ok (.ifCond .ne 13, 3) := by decide +kernel
theorem d_CO_mark_15 : decode b_CO_mark 15 = .ok (.new 31, 3) := by decide +kernel
theorem d_CO_mark_18 : decode b_CO_mark 18 = .ok (.dup, 1) := by decide +kernel
theorem d_CO_mark_19 : decode b_CO_mark 19 = .ok (.ldc 86, 2) := by decide +kernel
theorem d_CO_mark_21 : decode b_CO_mark 21 = .ok (.invokespecial 35, 3) := by decide +kernel
theorem d_CO_mark_24 : decode b_CO_mark 24 = .ok (.athrow, 1) := by decide +kernel
theorem d_CO_mark_25 : decode b_CO_mark 25 = .ok (.aload_n 0, 1) := by decide +kernel
theorem d_CO_mark_26 : decode b_CO_mark 26 = .ok (.getfield 19, 3) := by decide +kernel
theorem d_CO_mark_29 : decode b_CO_mark 29 = .ok (.invokevirtual 77, 3) := by decide +kernel
theorem d_CO_mark_32 : decode b_CO_mark 32 = .ok (.iload_n 1, 1) := by decide +kernel
theorem d_CO_mark_33 : decode b_CO_mark 33 = .ok (.iload_n 2, 1) := by decide +kernel
theorem d_CO_mark_34 : decode b_CO_mark 34 = .ok (.invokevirtual 88, 3) := by decide +kernel
theorem d_CO_mark_37 : decode b_CO_mark 37 = .ok (.ireturn, 1) := by decide +kernel
abbrev b_Ma_told : ByteArray := prog_4_method_4_code
abbrev y_Ma_told : MethodName := ⟨"CharOutlines$Machine", "told", "(I)I"⟩
set_option maxRecDepth 100000 in
theorem cal_Ma_told : CalV gd_tbl "CharOutlines$Machine" y_Ma_told b_Ma_told 2 (some .int) 1 := ⟨⟨List.mem_filter.mpr ⟨List.mem_of_getElem? (i := 282) rfl, rfl⟩, List.mem_filter.mpr ⟨List.mem_of_getElem? (i := 62) rfl, rfl⟩, ⟨by decide, by decide⟩, by decide +kernel⟩, List.mem_filter.mpr ⟨List.mem_of_getElem? (i := 280) rfl, rfl⟩, List.mem_filter.mpr ⟨List.mem_of_getElem? (i := 281) rfl, rfl⟩⟩
theorem d_Ma_told_0 : decode b_Ma_told 0 = .ok (.aload_n 0, 1) := by decide +kernel
theorem d_Ma_told_1 : decode b_Ma_told 1 = .ok (.getfield 43, 3) := by decide +kernel
theorem d_Ma_told_4 : decode b_Ma_told 4 = .ok (.ifCond .ne 5, 3) := by decide +kernel
theorem d_Ma_told_7 : decode b_Ma_told 7 = .ok (.iconst (-1), 1) := by decide +kernel
theorem d_Ma_told_8 : decode b_Ma_told 8 = .ok (.ireturn, 1) := by decide +kernel
theorem d_Ma_told_9 : decode b_Ma_told 9 = .ok (.iload_n 1, 1) := by decide +kernel
theorem d_Ma_told_10 : decode b_Ma_told 10 = .ok (.tableswitch 82 0 5 #[38, 43, 48, 61, 66, 74], 38) := by decide +kernel
theorem d_Ma_told_48 : decode b_Ma_told 48 = .ok (.aload_n 0, 1) := by decide +kernel
theorem d_Ma_told_49 : decode b_Ma_told 49 = .ok (.getfield 47, 3) := by decide +kernel
theorem d_Ma_told_52 : decode b_Ma_told 52 = .ok (.ireturn, 1) := by decide +kernel
theorem d_Ma_told_53 : decode b_Ma_told 53 = .ok (.aload_n 0, 1) := by decide +kernel
theorem d_Ma_told_54 : decode b_Ma_told 54 = .ok (.getfield 51, 3) := by decide +kernel
theorem d_Ma_told_57 : decode b_Ma_told 57 = .ok (.ireturn, 1) := by decide +kernel
theorem d_Ma_told_58 : decode b_Ma_told 58 = .ok (.aload_n 0, 1) := by decide +kernel
theorem d_Ma_told_59 : decode b_Ma_told 59 = .ok (.getfield 54, 3) := by decide +kernel
theorem d_Ma_told_62 : decode b_Ma_told 62 = .ok (.ifCond .eq 7, 3) := by decide +kernel
theorem d_Ma_told_65 : decode b_Ma_told 65 = .ok (.iconst 1, 1) := by decide +kernel
theorem d_Ma_told_66 : decode b_Ma_told 66 = .ok (.goto 4, 3) := by decide +kernel
theorem d_Ma_told_69 : decode b_Ma_told 69 = .ok (.iconst 0, 1) := by decide +kernel
theorem d_Ma_told_70 : decode b_Ma_told 70 = .ok (.ireturn, 1) := by decide +kernel
theorem d_Ma_told_71 : decode b_Ma_told 71 = .ok (.aload_n 0, 1) := by decide +kernel
theorem d_Ma_told_72 : decode b_Ma_told 72 = .ok (.getfield 57, 3) := by decide +kernel
theorem d_Ma_told_75 : decode b_Ma_told 75 = .ok (.ireturn, 1) := by decide +kernel
theorem d_Ma_told_76 : decode b_Ma_told 76 = .ok (.aload_n 0, 1) := by decide +kernel
theorem d_Ma_told_77 : decode b_Ma_told 77 = .ok (.getfield 21, 3) := by decide +kernel
theorem d_Ma_told_80 : decode b_Ma_told 80 = .ok (.invokevirtual 60, 3) := by decide +kernel
theorem d_Ma_told_83 : decode b_Ma_told 83 = .ok (.ireturn, 1) := by decide +kernel
theorem d_Ma_told_84 : decode b_Ma_told 84 = .ok (.aload_n 0, 1) := by decide +kernel
theorem d_Ma_told_85 : decode b_Ma_told 85 = .ok (.getfield 12, 3) := by decide +kernel
theorem d_Ma_told_88 : decode b_Ma_told 88 = .ok (.invokevirtual 64, 3) := by decide +kernel
theorem d_Ma_told_91 : decode b_Ma_told 91 = .ok (.ireturn, 1) := by decide +kernel
theorem d_Ma_told_92 : decode b_Ma_told 92 = .ok (.iconst (-1), 1) := by decide +kernel
theorem d_Ma_told_93 : decode b_Ma_told 93 = .ok (.ireturn, 1) := by decide +kernel
abbrev b_CO_last : ByteArray := prog_1_method_8_code
abbrev y_CO_last : MethodName := ⟨"CharOutlines", "last", "(I)I"⟩
set_option maxRecDepth 100000 in
theorem cal_CO_last : CalV gd_tbl "CharOutlines" y_CO_last b_CO_last 2 (some .int) 1 := ⟨⟨List.mem_filter.mpr ⟨List.mem_of_getElem? (i := 278) rfl, rfl⟩, List.mem_filter.mpr ⟨List.mem_of_getElem? (i := 60) rfl, rfl⟩, ⟨by decide, by decide⟩, by decide +kernel⟩, List.mem_filter.mpr ⟨List.mem_of_getElem? (i := 276) rfl, rfl⟩, List.mem_filter.mpr ⟨List.mem_of_getElem? (i := 277) rfl, rfl⟩⟩
theorem d_CO_last_0 : decode b_CO_last 0 = .ok (.aload_n 0, 1) := by decide +kernel
theorem d_CO_last_1 : decode b_CO_last 1 = .ok (.getfield 19, 3) := by decide +kernel
theorem d_CO_last_4 : decode b_CO_last 4 = .ok (.iload_n 1, 1) := by decide +kernel
theorem d_CO_last_5 : decode b_CO_last 5 = .ok (.invokevirtual 91, 3) := by decide +kernel
theorem d_CO_last_8 : decode b_CO_last 8 = .ok (.ireturn, 1) := by decide +kernel
set_option maxRecDepth 100000 in
theorem cl_CO_31 : (Jvm.Cond.classLink "CharOutlines" (31 : Nat) "java/lang/IndexOutOfBoundsException") ∈ gd_tbl := List.mem_filter.mpr ⟨List.mem_of_getElem? (i := 300) rfl, rfl⟩
set_option maxRecDepth 100000 in
theorem cl_CO_38 : (Jvm.Cond.classLink "CharOutlines" (38 : Nat) "java/lang/IllegalArgumentException") ∈ gd_tbl := List.mem_filter.mpr ⟨List.mem_of_getElem? (i := 366) rfl, rfl⟩
set_option maxRecDepth 100000 in
theorem fl_Ma_43 : (Jvm.Cond.fieldLink "CharOutlines$Machine" (43 : Nat) "CharOutlines$Machine" "hasRun" "Z") ∈ gd_tbl := List.mem_filter.mpr ⟨List.mem_of_getElem? (i := 202) rfl, rfl⟩
set_option maxRecDepth 100000 in
theorem fl_Ou_15 : (Jvm.Cond.fieldLink "CharOutlines$Outline" (15 : Nat) "CharOutlines$Outline" "marks" "I") ∈ gd_tbl := List.mem_filter.mpr ⟨List.mem_of_getElem? (i := 186) rfl, rfl⟩
set_option maxRecDepth 100000 in
theorem fl_Sh_18 : (Jvm.Cond.fieldLink "CharOutlines$Shelf" (18 : Nat) "CharOutlines$Shelf" "strings" "I") ∈ gd_tbl := List.mem_filter.mpr ⟨List.mem_of_getElem? (i := 121) rfl, rfl⟩
set_option maxRecDepth 100000 in
theorem ml_By_21 : (Jvm.Cond.methodLink "CharOutlines$Bytes" (21 : Nat) ({ cls := "CharOutlines$Bytes", name := "at", desc := "(I)I" } : Jvm.MethodName)) ∈ gd_tbl := List.mem_filter.mpr ⟨List.mem_of_getElem? (i := 386) rfl, rfl⟩
set_option maxRecDepth 100000 in
theorem ml_By_25 : (Jvm.Cond.methodLink "CharOutlines$Bytes" (25 : Nat) ({ cls := "CharOutlines$Bytes", name := "makeRoom", desc := "(I)V" } : Jvm.MethodName)) ∈ gd_tbl := List.mem_filter.mpr ⟨List.mem_of_getElem? (i := 251) rfl, rfl⟩
set_option maxRecDepth 100000 in
theorem ml_CO_23 : (Jvm.Cond.methodLink "CharOutlines" (23 : Nat) ({ cls := "CharOutlines$Bytes", name := "length", desc := "()I" } : Jvm.MethodName)) ∈ gd_tbl := List.mem_filter.mpr ⟨List.mem_of_getElem? (i := 243) rfl, rfl⟩
set_option maxRecDepth 100000 in
theorem ml_CO_27 : (Jvm.Cond.methodLink "CharOutlines" (27 : Nat) ({ cls := "CharOutlines$Bytes", name := "append", desc := "(I)V" } : Jvm.MethodName)) ∈ gd_tbl := List.mem_filter.mpr ⟨List.mem_of_getElem? (i := 247) rfl, rfl⟩
set_option maxRecDepth 100000 in
theorem ml_CO_35 : (Jvm.Cond.methodLink "CharOutlines" (35 : Nat) ({ cls := "java/lang/IndexOutOfBoundsException", name := "<init>", desc := "(Ljava/lang/String;)V" } : Jvm.MethodName)) ∈ gd_tbl := List.mem_filter.mpr ⟨List.mem_of_getElem? (i := 341) rfl, rfl⟩
set_option maxRecDepth 100000 in
theorem ml_CO_42 : (Jvm.Cond.methodLink "CharOutlines" (42 : Nat) ({ cls := "java/lang/IllegalArgumentException", name := "<init>", desc := "(Ljava/lang/String;)V" } : Jvm.MethodName)) ∈ gd_tbl := List.mem_filter.mpr ⟨List.mem_of_getElem? (i := 376) rfl, rfl⟩
set_option maxRecDepth 100000 in
theorem ml_CO_43 : (Jvm.Cond.methodLink "CharOutlines" (43 : Nat) ({ cls := "CharOutlines$Bytes", name := "replace", desc := "(II)I" } : Jvm.MethodName)) ∈ gd_tbl := List.mem_filter.mpr ⟨List.mem_of_getElem? (i := 382) rfl, rfl⟩
set_option maxRecDepth 100000 in
theorem ml_CO_49 : (Jvm.Cond.methodLink "CharOutlines" (49 : Nat) ({ cls := "CharOutlines$Bytes", name := "shorten", desc := "(I)I" } : Jvm.MethodName)) ∈ gd_tbl := List.mem_filter.mpr ⟨List.mem_of_getElem? (i := 398) rfl, rfl⟩
set_option maxRecDepth 100000 in
theorem ml_CO_53 : (Jvm.Cond.methodLink "CharOutlines" (53 : Nat) ({ cls := "CharOutlines", name := "isKind", desc := "(I)Z" } : Jvm.MethodName)) ∈ gd_tbl := List.mem_filter.mpr ⟨List.mem_of_getElem? (i := 409) rfl, rfl⟩
set_option maxRecDepth 100000 in
theorem ml_CO_59 : (Jvm.Cond.methodLink "CharOutlines" (59 : Nat) ({ cls := "CharOutlines$Machine", name := "shelf", desc := "(I)LCharOutlines$Shelf;" } : Jvm.MethodName)) ∈ gd_tbl := List.mem_filter.mpr ⟨List.mem_of_getElem? (i := 413) rfl, rfl⟩
set_option maxRecDepth 100000 in
theorem ml_CO_63 : (Jvm.Cond.methodLink "CharOutlines" (63 : Nat) ({ cls := "CharOutlines$Shelf", name := "fill", desc := "(LCharOutlines$Bytes;)I" } : Jvm.MethodName)) ∈ gd_tbl := List.mem_filter.mpr ⟨List.mem_of_getElem? (i := 421) rfl, rfl⟩
set_option maxRecDepth 100000 in
theorem ml_CO_69 : (Jvm.Cond.methodLink "CharOutlines" (69 : Nat) ({ cls := "CharOutlines$Shelf", name := "has", desc := "(I)Z" } : Jvm.MethodName)) ∈ gd_tbl := List.mem_filter.mpr ⟨List.mem_of_getElem? (i := 450) rfl, rfl⟩
set_option maxRecDepth 100000 in
theorem ml_CO_77 : (Jvm.Cond.methodLink "CharOutlines" (77 : Nat) ({ cls := "CharOutlines$Machine", name := "outline", desc := "()LCharOutlines$Outline;" } : Jvm.MethodName)) ∈ gd_tbl := List.mem_filter.mpr ⟨List.mem_of_getElem? (i := 722) rfl, rfl⟩
set_option maxRecDepth 100000 in
theorem ml_CO_81 : (Jvm.Cond.methodLink "CharOutlines" (81 : Nat) ({ cls := "CharOutlines$Outline", name := "has", desc := "(II)Z" } : Jvm.MethodName)) ∈ gd_tbl := List.mem_filter.mpr ⟨List.mem_of_getElem? (i := 726) rfl, rfl⟩
set_option maxRecDepth 100000 in
theorem ml_CO_91 : (Jvm.Cond.methodLink "CharOutlines" (91 : Nat) ({ cls := "CharOutlines$Machine", name := "told", desc := "(I)I" } : Jvm.MethodName)) ∈ gd_tbl := List.mem_filter.mpr ⟨List.mem_of_getElem? (i := 279) rfl, rfl⟩
set_option maxRecDepth 100000 in
theorem ml_CO_94 : (Jvm.Cond.methodLink "CharOutlines" (94 : Nat) ({ cls := "CharOutlines$Shelf", name := "strings", desc := "()I" } : Jvm.MethodName)) ∈ gd_tbl := List.mem_filter.mpr ⟨List.mem_of_getElem? (i := 743) rfl, rfl⟩
set_option maxRecDepth 100000 in
theorem ml_Ma_39 : (Jvm.Cond.methodLink "CharOutlines$Machine" (39 : Nat) ({ cls := "CharOutlines$Strings", name := "shelf", desc := "(I)LCharOutlines$Shelf;" } : Jvm.MethodName)) ∈ gd_tbl := List.mem_filter.mpr ⟨List.mem_of_getElem? (i := 417) rfl, rfl⟩
set_option maxRecDepth 100000 in
theorem ml_Sh_26 : (Jvm.Cond.methodLink "CharOutlines$Shelf" (26 : Nat) ({ cls := "CharOutlines$Shelf", name := "stringsIn", desc := "(LCharOutlines$Bytes;)I" } : Jvm.MethodName)) ∈ gd_tbl := List.mem_filter.mpr ⟨List.mem_of_getElem? (i := 425) rfl, rfl⟩
set_option maxRecDepth 100000 in
theorem ml_Sh_38 : (Jvm.Cond.methodLink "CharOutlines$Shelf" (38 : Nat) ({ cls := "CharOutlines$Bytes", name := "length", desc := "()I" } : Jvm.MethodName)) ∈ gd_tbl := List.mem_filter.mpr ⟨List.mem_of_getElem? (i := 428) rfl, rfl⟩
set_option maxHeartbeats 1000000 in
set_option maxRecDepth 100000 in
theorem c_CO_isKind (l : Launch) (D : va_G) (cB cI cJ : ClassId) (k : Int32) : Ro l D classes (TY cB cI cJ) gd_tbl nx_tbl y_CO_isKind b_CO_isKind 1 (some .boolean) ({ frames := 0, cells := 0, slots := 0, locals := 0 }) [.int k] [] (fun v => v = .int (isK k)) := by
  refine Ro.intro (by decide +kernel) nx_ok (Nat.le_of_ble_eq_true rfl) ?_
  intro p_ e_ s_ m_ args_ below_ meth_ c_ A_ ls hx hb hml hown hts hr hlk hnm hZ hP hD hl
  have hl : lv_has ls 1 [(0, .int k)] := hl
  refine lv_iload_n hx hb d_CO_isKind_0 rfl (lv_at hl 0 rfl) ?_
  refine lv_if_lt (tgt := 13) hx hb d_CO_isKind_1 (by decide) (fun c_1 => ?_) (fun c_1 => ?_)
  · refine lv_iconst (v := 0) hx hb d_CO_isKind_13 (by decide) ?_
    exact r_zret hx hb hr hlk (by decide) d_CO_isKind_14 (by simp [isK, c_1])
  · refine lv_iload_n hx hb d_CO_isKind_4 rfl (lv_at hl 0 rfl) ?_
    refine lv_iconst (v := 2) hx hb d_CO_isKind_5 (by decide) ?_
    refine lv_icmp_gt (tgt := 13) hx hb d_CO_isKind_6 (by decide) (fun c_6 => ?_) (fun c_6 => ?_)
    · refine lv_iconst (v := 0) hx hb d_CO_isKind_13 (by decide) ?_
      exact r_zret hx hb hr hlk (by decide) d_CO_isKind_14 (by simp [isK, c_1, c_6])
    · refine lv_iconst (v := 1) hx hb d_CO_isKind_9 (by decide) ?_
      refine lv_goto (tgt := 14) hx hb d_CO_isKind_10 (by decide) ?_
      exact r_zret hx hb hr hlk (by decide) d_CO_isKind_14 (by simp [isK, c_1, c_6])
set_option maxHeartbeats 1000000 in
set_option maxRecDepth 100000 in
theorem c_By_makeRoom_fit (l : Launch) (D : va_G) (cB cI cJ : ClassId) (h a n cap : Nat) (f : Nat → Int32) (j : Nat) (hj : j ≤ cap) (hc : cap ≤ 16384) : Tr l D classes (TY cB cI cJ) gd_tbl nx_tbl y_By_makeRoom b_By_makeRoom 2 none ({ frames := 0, cells := 0, slots := 0, locals := 0 }) [.ref h, .int (nI j)] [(h, .inr (0, [.ref a, .int (nI n)])), (a, .inl (cB, cap, .inl f))] (pV0 (fun w => w = [(h, .inr (0, [.ref a, .int (nI n)])), (a, .inl (cB, cap, .inl f))])) := by
  refine Tr.intro (by decide +kernel) nx_ok (Nat.le_of_ble_eq_true rfl) ?_
  intro p_ e_ s_ m_ args_ below_ meth_ c_ A_ ls hx hb hml hown hts hr hlk hnm hZ hP hD hS hl
  have hl : lv_has ls 2 [(0, .ref h), (1, .int (nI j))] := hl
  refine lv_iload_n hx hb d_By_makeRoom_0 rfl (lv_at hl 1 rfl) ?_
  refine lv_aload_n hx hb d_By_makeRoom_1 rfl (lv_at hl 0 rfl) ?_
  refine va_get (D := D) (ci := 0) (v := .ref a) (C := R_By) (T := F_By) (N := 2) hx hb hts i_By hown hZ.1 hP 0 rfl rfl 0 (by decide) (hts _ fl_By_11) (fun _ h9 => h9) rfl d_By_makeRoom_2 ?_
  refine va_alen (v := nI cap) hx hb hZ.1 hP 1 0 rfl rfl rfl d_By_makeRoom_5 ?_
  refine lv_icmp_le (tgt := 44) hx hb d_By_makeRoom_6 (by decide) (fun c_6 => ?_) (fun c_6 => absurd (nI_le hj (by omega)) c_6)
  exact t_vret hx hb hr hlk d_By_makeRoom_44 hP hD hS ⟨rfl, rfl, rfl, rfl⟩
set_option maxHeartbeats 1000000 in
set_option maxRecDepth 100000 in
theorem c_By_append_fit (l : Launch) (D : va_G) (cB cI cJ : ClassId) (h a n cap : Nat) (f : Nat → Int32) (x : Int32) (hn : n + 4 ≤ cap) (hc : cap ≤ 16384) : Tr l D classes (TY cB cI cJ) gd_tbl nx_tbl y_By_append b_By_append 3 none ({ frames := 1, cells := 0, slots := 0, locals := 21 }) [.ref h, .int x] [(h, .inr (0, [.ref a, .int (nI n)])), (a, .inl (cB, cap, .inl f))] (pV0 (fun w => w = [(h, .inr (0, [.ref a, .int (nI (n + 4))])), (a, .inl (cB, cap, .inl (app4 f n x)))])) := by
  refine Tr.intro (by decide +kernel) nx_ok (Nat.le_of_ble_eq_true rfl) ?_
  intro p_ e_ s_ m_ args_ below_ meth_ c_ A_ ls hx hb hml hown hts hr hlk hnm hZ hP hD hS hl
  have hl : lv_has ls 3 [(0, .ref h), (1, .int x)] := hl
  refine lv_aload_n hx hb d_By_append_0 rfl (lv_at hl 0 rfl) ?_
  refine va_get (D := D) (ci := 0) (v := .int (nI n)) (C := R_By) (T := F_By) (N := 2) hx hb hts i_By hown hZ.1 hP 0 rfl rfl 1 (by decide) (hts _ fl_By_15) (fun _ h9 => h9) rfl d_By_append_1 ?_
  refine lv_iconst (v := 4) hx hb d_By_append_4 (by decide) ?_
  refine lv_iadd hx hb d_By_append_5 ?_
  refine lv_tv (y := nI (n + 4)) (nI_add n 4) ?_
  refine lv_istore_n (lv' := [(2, .int (nI (n + 4))), (0, .ref h), (1, .int x)]) hx hb d_By_append_6 rfl hl (by decide) rfl (fun ls hl => ?_)
  refine lv_aload_n hx hb d_By_append_7 rfl (lv_at hl 1 rfl) ?_
  refine lv_iload_n hx hb d_By_append_8 rfl (lv_at hl 0 rfl) ?_
  have hC : Cut [(h, .inr (0, [.ref a, .int (nI n)])), (a, .inl (cB, cap, .inl f))] [(h, .inr (0, [.ref a, .int (nI n)])), (a, .inl (cB, cap, .inl f))] [] [0, 1] [] := ⟨rfl, rfl, rfl, rfl, by decide⟩
  refine goV0 (trV (As := [.int (nI (n + 4))]) (rest := []) ⟨hx, hb, hml, hown, hts⟩ gd_good (c_By_makeRoom_fit l D cB cI cJ h a n cap f (n + 4) (by omega) (by omega)) cal_By_makeRoom ml_By_25 ⟨Nat.le_of_ble_eq_true rfl, Nat.le_of_ble_eq_true rfl⟩ hZ hP hD hC 0 (ci := 0) rfl rfl rfl rfl hl.1 rfl (Nat.le_of_ble_eq_true rfl) d_By_append_9 ⟨Nat.le_of_ble_eq_true rfl, Nat.le_of_ble_eq_true rfl⟩) hZ hP hD hS hC (fun w1 H locs hq hP hD hS => ?_)
  subst hq
  have hP : va_P D classes [(h, .inr (0, [.ref a, .int (nI n)])), (a, .inl (cB, cap, .inl f))] H := hP
  have hD : va_D A_ [(h, .inr (0, [.ref a, .int (nI n)])), (a, .inl (cB, cap, .inl f))] := hD
  refine lv_iload_n hx hb d_By_append_12 rfl (lv_at hl 0 rfl) ?_
  refine lv_aload_n hx hb d_By_append_13 rfl (lv_at hl 1 rfl) ?_
  refine va_get (D := D) (ci := 0) (v := .ref a) (C := R_By) (T := F_By) (N := 2) hx hb hts i_By hown hZ.1 hP 0 rfl rfl 0 (by decide) (hts _ fl_By_11) (fun _ h9 => h9) rfl d_By_append_14 ?_
  refine va_alen (v := nI cap) hx hb hZ.1 hP 1 0 rfl rfl rfl d_By_append_17 ?_
  refine lv_icmp_le (tgt := 22) hx hb d_By_append_18 (by decide) (fun c_18 => ?_) (fun c_18 => absurd (nI_le hn (by omega)) c_18)
  refine lv_aload_n hx hb d_By_append_22 rfl (lv_at hl 1 rfl) ?_
  refine va_get (D := D) (ci := 0) (v := .ref a) (C := R_By) (T := F_By) (N := 2) hx hb hts i_By hown hZ.1 hP 0 rfl rfl 0 (by decide) (hts _ fl_By_11) (fun _ h9 => h9) rfl d_By_append_23 ?_
  refine lv_aload_n hx hb d_By_append_26 rfl (lv_at hl 1 rfl) ?_
  refine va_get (D := D) (ci := 0) (v := .int (nI n)) (C := R_By) (T := F_By) (N := 2) hx hb hts i_By hown hZ.1 hP 0 rfl rfl 1 (by decide) (hts _ fl_By_15) (fun _ h9 => h9) rfl d_By_append_27 ?_
  refine lv_iload_n hx hb d_By_append_30 rfl (lv_at hl 2 rfl) ?_
  refine lv_bipush (v := 24) hx hb d_By_append_31 (by decide) ?_
  refine lv_ishr hx hb d_By_append_33 ?_
  refine lv_i2b hx hb d_By_append_34 rfl ?_
  refine va_bast hx hb hZ.1 hP hD hS 1 0 rfl rfl (vp_in_nI (by omega) (by omega)) d_By_append_35 (fun H locs hP hD hS => ?_)
  rw [show ((nI n).toNatClampNeg) = n from nI_clamp (by omega)] at hP hD
  have hP : va_P D classes [(h, .inr (0, [.ref a, .int (nI n)])), (a, .inl (cB, cap, .inl (upd f n (vp_nar .byte ((x >>> (24 &&& 31)).toInt8.toInt32)))))] H := hP
  have hD : va_D A_ [(h, .inr (0, [.ref a, .int (nI n)])), (a, .inl (cB, cap, .inl (upd f n (vp_nar .byte ((x >>> (24 &&& 31)).toInt8.toInt32)))))] := hD
  refine lv_aload_n hx hb d_By_append_36 rfl (lv_at hl 1 rfl) ?_
  refine va_get (D := D) (ci := 0) (v := .ref a) (C := R_By) (T := F_By) (N := 2) hx hb hts i_By hown hZ.1 hP 0 rfl rfl 0 (by decide) (hts _ fl_By_11) (fun _ h9 => h9) rfl d_By_append_37 ?_
  refine lv_aload_n hx hb d_By_append_40 rfl (lv_at hl 1 rfl) ?_
  refine va_get (D := D) (ci := 0) (v := .int (nI n)) (C := R_By) (T := F_By) (N := 2) hx hb hts i_By hown hZ.1 hP 0 rfl rfl 1 (by decide) (hts _ fl_By_15) (fun _ h9 => h9) rfl d_By_append_41 ?_
  refine lv_iconst (v := 1) hx hb d_By_append_44 (by decide) ?_
  refine lv_iadd hx hb d_By_append_45 ?_
  refine lv_tv (y := nI (n + 1)) (nI_add n 1) ?_
  refine lv_iload_n hx hb d_By_append_46 rfl (lv_at hl 2 rfl) ?_
  refine lv_bipush (v := 16) hx hb d_By_append_47 (by decide) ?_
  refine lv_ishr hx hb d_By_append_49 ?_
  refine lv_i2b hx hb d_By_append_50 rfl ?_
  refine va_bast hx hb hZ.1 hP hD hS 1 0 rfl rfl (vp_in_nI (by omega) (by omega)) d_By_append_51 (fun H locs hP hD hS => ?_)
  rw [show ((nI (n + 1)).toNatClampNeg) = n + 1 from nI_clamp (by omega)] at hP hD
  have hP : va_P D classes [(h, .inr (0, [.ref a, .int (nI n)])), (a, .inl (cB, cap, .inl (upd (upd f n (vp_nar .byte ((x >>> (24 &&& 31)).toInt8.toInt32))) (n + 1) (vp_nar .byte ((x >>> (16 &&& 31)).toInt8.toInt32)))))] H := hP
  have hD : va_D A_ [(h, .inr (0, [.ref a, .int (nI n)])), (a, .inl (cB, cap, .inl (upd (upd f n (vp_nar .byte ((x >>> (24 &&& 31)).toInt8.toInt32))) (n + 1) (vp_nar .byte ((x >>> (16 &&& 31)).toInt8.toInt32)))))] := hD
  refine lv_aload_n hx hb d_By_append_52 rfl (lv_at hl 1 rfl) ?_
  refine va_get (D := D) (ci := 0) (v := .ref a) (C := R_By) (T := F_By) (N := 2) hx hb hts i_By hown hZ.1 hP 0 rfl rfl 0 (by decide) (hts _ fl_By_11) (fun _ h9 => h9) rfl d_By_append_53 ?_
  refine lv_aload_n hx hb d_By_append_56 rfl (lv_at hl 1 rfl) ?_
  refine va_get (D := D) (ci := 0) (v := .int (nI n)) (C := R_By) (T := F_By) (N := 2) hx hb hts i_By hown hZ.1 hP 0 rfl rfl 1 (by decide) (hts _ fl_By_15) (fun _ h9 => h9) rfl d_By_append_57 ?_
  refine lv_iconst (v := 2) hx hb d_By_append_60 (by decide) ?_
  refine lv_iadd hx hb d_By_append_61 ?_
  refine lv_tv (y := nI (n + 2)) (nI_add n 2) ?_
  refine lv_iload_n hx hb d_By_append_62 rfl (lv_at hl 2 rfl) ?_
  refine lv_bipush (v := 8) hx hb d_By_append_63 (by decide) ?_
  refine lv_ishr hx hb d_By_append_65 ?_
  refine lv_i2b hx hb d_By_append_66 rfl ?_
  refine va_bast hx hb hZ.1 hP hD hS 1 0 rfl rfl (vp_in_nI (by omega) (by omega)) d_By_append_67 (fun H locs hP hD hS => ?_)
  rw [show ((nI (n + 2)).toNatClampNeg) = n + 2 from nI_clamp (by omega)] at hP hD
  have hP : va_P D classes [(h, .inr (0, [.ref a, .int (nI n)])), (a, .inl (cB, cap, .inl (upd (upd (upd f n (vp_nar .byte ((x >>> (24 &&& 31)).toInt8.toInt32))) (n + 1) (vp_nar .byte ((x >>> (16 &&& 31)).toInt8.toInt32))) (n + 2) (vp_nar .byte ((x >>> (8 &&& 31)).toInt8.toInt32)))))] H := hP
  have hD : va_D A_ [(h, .inr (0, [.ref a, .int (nI n)])), (a, .inl (cB, cap, .inl (upd (upd (upd f n (vp_nar .byte ((x >>> (24 &&& 31)).toInt8.toInt32))) (n + 1) (vp_nar .byte ((x >>> (16 &&& 31)).toInt8.toInt32))) (n + 2) (vp_nar .byte ((x >>> (8 &&& 31)).toInt8.toInt32)))))] := hD
  refine lv_aload_n hx hb d_By_append_68 rfl (lv_at hl 1 rfl) ?_
  refine va_get (D := D) (ci := 0) (v := .ref a) (C := R_By) (T := F_By) (N := 2) hx hb hts i_By hown hZ.1 hP 0 rfl rfl 0 (by decide) (hts _ fl_By_11) (fun _ h9 => h9) rfl d_By_append_69 ?_
  refine lv_aload_n hx hb d_By_append_72 rfl (lv_at hl 1 rfl) ?_
  refine va_get (D := D) (ci := 0) (v := .int (nI n)) (C := R_By) (T := F_By) (N := 2) hx hb hts i_By hown hZ.1 hP 0 rfl rfl 1 (by decide) (hts _ fl_By_15) (fun _ h9 => h9) rfl d_By_append_73 ?_
  refine lv_iconst (v := 3) hx hb d_By_append_76 (by decide) ?_
  refine lv_iadd hx hb d_By_append_77 ?_
  refine lv_tv (y := nI (n + 3)) (nI_add n 3) ?_
  refine lv_iload_n hx hb d_By_append_78 rfl (lv_at hl 2 rfl) ?_
  refine lv_i2b hx hb d_By_append_79 rfl ?_
  refine va_bast hx hb hZ.1 hP hD hS 1 0 rfl rfl (vp_in_nI (by omega) (by omega)) d_By_append_80 (fun H locs hP hD hS => ?_)
  rw [show ((nI (n + 3)).toNatClampNeg) = n + 3 from nI_clamp (by omega)] at hP hD
  have hP : va_P D classes [(h, .inr (0, [.ref a, .int (nI n)])), (a, .inl (cB, cap, .inl (upd (upd (upd (upd f n (vp_nar .byte ((x >>> (24 &&& 31)).toInt8.toInt32))) (n + 1) (vp_nar .byte ((x >>> (16 &&& 31)).toInt8.toInt32))) (n + 2) (vp_nar .byte ((x >>> (8 &&& 31)).toInt8.toInt32))) (n + 3) (vp_nar .byte x.toInt8.toInt32))))] H := hP
  have hD : va_D A_ [(h, .inr (0, [.ref a, .int (nI n)])), (a, .inl (cB, cap, .inl (upd (upd (upd (upd f n (vp_nar .byte ((x >>> (24 &&& 31)).toInt8.toInt32))) (n + 1) (vp_nar .byte ((x >>> (16 &&& 31)).toInt8.toInt32))) (n + 2) (vp_nar .byte ((x >>> (8 &&& 31)).toInt8.toInt32))) (n + 3) (vp_nar .byte x.toInt8.toInt32))))] := hD
  refine lv_aload_n hx hb d_By_append_81 rfl (lv_at hl 1 rfl) ?_
  refine lv_iload_n hx hb d_By_append_82 rfl (lv_at hl 0 rfl) ?_
  refine va_put (D := D) (ci := 0) (v := .int (nI (n + 4))) (ty := .int) (C := R_By) (T := F_By) (N := 2) hx hb hts i_By t_By t_By_ok n_By hown hZ.1 hP hD hS 0 rfl rfl 1 (by decide) (hts _ fl_By_15) (fun _ h9 => h9) rfl (by decide +kernel) rfl rfl (Nat.le_of_ble_eq_true rfl) d_By_append_83 (fun H locs hP hD hS => ?_)
  have hP : va_P D classes [(h, .inr (0, [.ref a, .int (nI (n + 4))])), (a, .inl (cB, cap, .inl (upd (upd (upd (upd f n (vp_nar .byte ((x >>> (24 &&& 31)).toInt8.toInt32))) (n + 1) (vp_nar .byte ((x >>> (16 &&& 31)).toInt8.toInt32))) (n + 2) (vp_nar .byte ((x >>> (8 &&& 31)).toInt8.toInt32))) (n + 3) (vp_nar .byte x.toInt8.toInt32))))] H := hP
  have hD : va_D A_ [(h, .inr (0, [.ref a, .int (nI (n + 4))])), (a, .inl (cB, cap, .inl (upd (upd (upd (upd f n (vp_nar .byte ((x >>> (24 &&& 31)).toInt8.toInt32))) (n + 1) (vp_nar .byte ((x >>> (16 &&& 31)).toInt8.toInt32))) (n + 2) (vp_nar .byte ((x >>> (8 &&& 31)).toInt8.toInt32))) (n + 3) (vp_nar .byte x.toInt8.toInt32))))] := hD
  exact t_vret hx hb hr hlk d_By_append_86 hP hD hS ⟨rfl, rfl, rfl, rfl⟩
set_option maxHeartbeats 1000000 in
set_option maxRecDepth 100000 in
theorem c_By_replace (l : Launch) (D : va_G) (cB cI cJ : ClassId) (h a n cap : Nat) (f : Nat → Int32) (j : Nat) (b : Int32) (hj : j < n) (hn : n ≤ cap ∧ cap ≤ 16384) : Tr l D classes (TY cB cI cJ) gd_tbl nx_tbl y_By_replace b_By_replace 4 (some .int) ({ frames := 1, cells := 0, slots := 0, locals := 21 }) [.ref h, .int (nI j), .int b] [(h, .inr (0, [.ref a, .int (nI n)])), (a, .inl (cB, cap, .inl f))] (pI0 (fun r w => r = atB n f (nI j) ∧ w = [(h, .inr (0, [.ref a, .int (nI n)])), (a, .inl (cB, cap, .inl (upd f j (vp_nar .byte b.toInt8.toInt32))))])) := by
  refine Tr.intro (by decide +kernel) nx_ok (Nat.le_of_ble_eq_true rfl) ?_
  intro p_ e_ s_ m_ args_ below_ meth_ c_ A_ ls hx hb hml hown hts hr hlk hnm hZ hP hD hS hl
  have hl : lv_has ls 4 [(0, .ref h), (1, .int (nI j)), (2, .int b)] := hl
  refine lv_aload_n hx hb d_By_replace_0 rfl (lv_at hl 0 rfl) ?_
  refine lv_iload_n hx hb d_By_replace_1 rfl (lv_at hl 1 rfl) ?_
  refine roV (As := [.int (nI j)]) (rest := []) ⟨hx, hb, hml, hown, hts⟩ gd_good (c_By_at l D cB cI cJ h a n cap f (nI j) hn) cal_By_at ml_By_21 ⟨Nat.le_of_ble_eq_true rfl, Nat.le_of_ble_eq_true rfl⟩ hZ hP hD (isC := [0, 1]) ⟨rfl, rfl⟩ 0 (ci := 0) rfl rfl rfl rfl hl.1 rfl (Nat.le_of_ble_eq_true rfl) d_By_replace_2 ⟨Nat.le_of_ble_eq_true rfl, Nat.le_of_ble_eq_true rfl⟩ (fun v hv => ?_)
  subst hv
  refine lv_istore_n (lv' := [(3, .int (atB n f (nI j))), (0, .ref h), (1, .int (nI j)), (2, .int b)]) hx hb d_By_replace_5 rfl hl (by decide) rfl (fun ls hl => ?_)
  refine lv_iload_n hx hb d_By_replace_6 rfl (lv_at hl 2 rfl) ?_
  refine lv_if_lt (tgt := 26) hx hb d_By_replace_7 (by decide) (fun c_7 => absurd c_7 (nI_pos (by omega))) (fun c_7 => ?_)
  refine lv_iload_n hx hb d_By_replace_10 rfl (lv_at hl 2 rfl) ?_
  refine lv_aload_n hx hb d_By_replace_11 rfl (lv_at hl 1 rfl) ?_
  refine va_get (D := D) (ci := 0) (v := .int (nI n)) (C := R_By) (T := F_By) (N := 2) hx hb hts i_By hown hZ.1 hP 0 rfl rfl 1 (by decide) (hts _ fl_By_15) (fun _ h9 => h9) rfl d_By_replace_12 ?_
  refine lv_icmp_ge (tgt := 26) hx hb d_By_replace_15 (by decide) (fun c_15 => absurd c_15 (nI_ge hj (by omega))) (fun c_15 => ?_)
  refine lv_aload_n hx hb d_By_replace_18 rfl (lv_at hl 1 rfl) ?_
  refine va_get (D := D) (ci := 0) (v := .ref a) (C := R_By) (T := F_By) (N := 2) hx hb hts i_By hown hZ.1 hP 0 rfl rfl 0 (by decide) (hts _ fl_By_11) (fun _ h9 => h9) rfl d_By_replace_19 ?_
  refine lv_iload_n hx hb d_By_replace_22 rfl (lv_at hl 2 rfl) ?_
  refine lv_iload_n hx hb d_By_replace_23 rfl (lv_at hl 3 rfl) ?_
  refine lv_i2b hx hb d_By_replace_24 rfl ?_
  refine va_bast hx hb hZ.1 hP hD hS 1 0 rfl rfl (vp_in_nI (by omega) (by omega)) d_By_replace_25 (fun H locs hP hD hS => ?_)
  rw [show ((nI j).toNatClampNeg) = j from nI_clamp (by omega)] at hP hD
  have hP : va_P D classes [(h, .inr (0, [.ref a, .int (nI n)])), (a, .inl (cB, cap, .inl (upd f j (vp_nar .byte b.toInt8.toInt32))))] H := hP
  have hD : va_D A_ [(h, .inr (0, [.ref a, .int (nI n)])), (a, .inl (cB, cap, .inl (upd f j (vp_nar .byte b.toInt8.toInt32))))] := hD
  refine lv_iload_n hx hb d_By_replace_26 rfl (lv_at hl 0 rfl) ?_
  exact t_iret hx hb hr hlk d_By_replace_27 hP hD hS ⟨_, rfl, rfl, rfl, rfl, rfl⟩
set_option maxHeartbeats 1000000 in
set_option maxRecDepth 100000 in
theorem c_By_shorten (l : Launch) (D : va_G) (cB cI cJ : ClassId) (h a n cap : Nat) (f : Nat → Int32) (j : Nat) (hj : j < 2 ^ 31) (hn : n ≤ cap ∧ cap ≤ 16384) : Tr l D classes (TY cB cI cJ) gd_tbl nx_tbl y_By_shorten b_By_shorten 3 (some .int) ({ frames := 0, cells := 0, slots := 0, locals := 0 }) [.ref h, .int (nI j)] [(h, .inr (0, [.ref a, .int (nI n)])), (a, .inl (cB, cap, .inl f))] (pI0 (fun r w => ∃ n' : Nat, n' = min j n ∧ r = nI (n - n') ∧ w = [(h, .inr (0, [.ref a, .int (nI n')])), (a, .inl (cB, cap, .inl f))])) := by
  refine Tr.intro (by decide +kernel) nx_ok (Nat.le_of_ble_eq_true rfl) ?_
  intro p_ e_ s_ m_ args_ below_ meth_ c_ A_ ls hx hb hml hown hts hr hlk hnm hZ hP hD hS hl
  have hl : lv_has ls 3 [(0, .ref h), (1, .int (nI j))] := hl
  refine lv_aload_n hx hb d_By_shorten_0 rfl (lv_at hl 0 rfl) ?_
  refine va_get (D := D) (ci := 0) (v := .int (nI n)) (C := R_By) (T := F_By) (N := 2) hx hb hts i_By hown hZ.1 hP 0 rfl rfl 1 (by decide) (hts _ fl_By_15) (fun _ h9 => h9) rfl d_By_shorten_1 ?_
  refine lv_istore_n (lv' := [(2, .int (nI n)), (0, .ref h), (1, .int (nI j))]) hx hb d_By_shorten_4 rfl hl (by decide) rfl (fun ls hl => ?_)
  refine lv_iload_n hx hb d_By_shorten_5 rfl (lv_at hl 2 rfl) ?_
  refine lv_if_lt (tgt := 22) hx hb d_By_shorten_6 (by decide) (fun c_6 => absurd c_6 (nI_pos hj)) (fun c_6 => ?_)
  refine lv_iload_n hx hb d_By_shorten_9 rfl (lv_at hl 2 rfl) ?_
  refine lv_aload_n hx hb d_By_shorten_10 rfl (lv_at hl 1 rfl) ?_
  refine va_get (D := D) (ci := 0) (v := .int (nI n)) (C := R_By) (T := F_By) (N := 2) hx hb hts i_By hown hZ.1 hP 0 rfl rfl 1 (by decide) (hts _ fl_By_15) (fun _ h9 => h9) rfl d_By_shorten_11 ?_
  refine lv_icmp_ge (tgt := 22) hx hb d_By_shorten_14 (by decide) (fun c_14 => ?_) (fun c_14 => ?_)
  · refine lv_iload_n hx hb d_By_shorten_22 rfl (lv_at hl 0 rfl) ?_
    refine lv_aload_n hx hb d_By_shorten_23 rfl (lv_at hl 1 rfl) ?_
    refine va_get (D := D) (ci := 0) (v := .int (nI n)) (C := R_By) (T := F_By) (N := 2) hx hb hts i_By hown hZ.1 hP 0 rfl rfl 1 (by decide) (hts _ fl_By_15) (fun _ h9 => h9) rfl d_By_shorten_24 ?_
    refine lv_isub hx hb d_By_shorten_27 ?_
    exact t_iret hx hb hr hlk d_By_shorten_28 hP hD hS ⟨_, rfl, rfl, rfl, n, by have := (nI_leI (by omega) hj).mp c_14; omega, by rw [pk_sub (Nat.le_refl n)], rfl⟩
  · refine lv_aload_n hx hb d_By_shorten_17 rfl (lv_at hl 1 rfl) ?_
    refine lv_iload_n hx hb d_By_shorten_18 rfl (lv_at hl 2 rfl) ?_
    refine va_put (D := D) (ci := 0) (v := .int (nI j)) (ty := .int) (C := R_By) (T := F_By) (N := 2) hx hb hts i_By t_By t_By_ok n_By hown hZ.1 hP hD hS 0 rfl rfl 1 (by decide) (hts _ fl_By_15) (fun _ h9 => h9) rfl (by decide +kernel) rfl rfl (Nat.le_of_ble_eq_true rfl) d_By_shorten_19 (fun H locs hP hD hS => ?_)
    have hP : va_P D classes [(h, .inr (0, [.ref a, .int (nI j)])), (a, .inl (cB, cap, .inl f))] H := hP
    have hD : va_D A_ [(h, .inr (0, [.ref a, .int (nI j)])), (a, .inl (cB, cap, .inl f))] := hD
    refine lv_iload_n hx hb d_By_shorten_22 rfl (lv_at hl 0 rfl) ?_
    refine lv_aload_n hx hb d_By_shorten_23 rfl (lv_at hl 1 rfl) ?_
    refine va_get (D := D) (ci := 0) (v := .int (nI j)) (C := R_By) (T := F_By) (N := 2) hx hb hts i_By hown hZ.1 hP 0 rfl rfl 1 (by decide) (hts _ fl_By_15) (fun _ h9 => h9) rfl d_By_shorten_24 ?_
    refine lv_isub hx hb d_By_shorten_27 ?_
    exact t_iret hx hb hr hlk d_By_shorten_28 hP hD hS ⟨_, rfl, rfl, rfl, j, lt_min (fun q => c_14 (nI_le q hj)), pk_sub (lt_le (fun q => c_14 (nI_le q hj))), rfl⟩
set_option maxHeartbeats 1000000 in
set_option maxRecDepth 100000 in
theorem c_CO_feed_fit (l : Launch) (D : va_G) (cB cI cJ : ClassId) (o h mm a n cap : Nat) (f : Nat → Int32) (x1 x2 x3 x4 x5 : Int32) (hn : n + 20 ≤ cap) (hc : cap ≤ 16384) : Tr l D classes (TY cB cI cJ) gd_tbl nx_tbl y_CO_feed b_CO_feed 6 (some .int) ({ frames := 2, cells := 0, slots := 0, locals := 43 }) [.ref o, .int x1, .int x2, .int x3, .int x4, .int x5] [(o, .inr (7, [.ref h, .ref mm])), (h, .inr (0, [.ref a, .int (nI n)])), (a, .inl (cB, cap, .inl f))] (pI0 (fun r w => r = nI (n + 20) ∧ w = [(o, .inr (7, [.ref h, .ref mm])), (h, .inr (0, [.ref a, .int (nI (n + 20))])), (a, .inl (cB, cap, .inl (app4 (app4 (app4 (app4 (app4 f n x1) (n + 4) x2) (n + 8) x3) (n + 12) x4) (n + 16) x5)))])) := by
  refine Tr.intro (by decide +kernel) nx_ok (Nat.le_of_ble_eq_true rfl) ?_
  intro p_ e_ s_ m_ args_ below_ meth_ c_ A_ ls hx hb hml hown hts hr hlk hnm hZ hP hD hS hl
  have hl : lv_has ls 6 [(0, .ref o), (1, .int x1), (2, .int x2), (3, .int x3), (4, .int x4), (5, .int x5)] := hl
  refine lv_aload_n hx hb d_CO_feed_0 rfl (lv_at hl 0 rfl) ?_
  refine va_get (D := D) (ci := 7) (v := .ref h) (C := R_CO) (T := F_CO) (N := 2) hx hb hts i_CO hown hZ.1 hP 0 rfl rfl 0 (by decide) (hts _ fl_CO_10) (fun _ h9 => h9) rfl d_CO_feed_1 ?_
  refine roV (As := []) (rest := []) ⟨hx, hb, hml, hown, hts⟩ gd_good (c_By_length l D cB cI cJ h a n cap f) cal_By_length ml_CO_23 ⟨Nat.le_of_ble_eq_true rfl, Nat.le_of_ble_eq_true rfl⟩ hZ hP hD (isC := [1, 2]) ⟨rfl, rfl⟩ 1 (ci := 0) rfl rfl rfl rfl hl.1 rfl (Nat.le_of_ble_eq_true rfl) d_CO_feed_4 ⟨Nat.le_of_ble_eq_true rfl, Nat.le_of_ble_eq_true rfl⟩ (fun v hv => ?_)
  subst hv
  refine lv_sipush (v := 16364) hx hb d_CO_feed_7 (by decide) ?_
  refine lv_icmp_le (tgt := 15) hx hb d_CO_feed_10 (by decide) (fun c_10 => ?_) (fun c_10 => absurd (nI_le (b := 16364) (by omega) (by omega)) c_10)
  refine lv_aload_n hx hb d_CO_feed_15 rfl (lv_at hl 0 rfl) ?_
  refine va_get (D := D) (ci := 7) (v := .ref h) (C := R_CO) (T := F_CO) (N := 2) hx hb hts i_CO hown hZ.1 hP 0 rfl rfl 0 (by decide) (hts _ fl_CO_10) (fun _ h9 => h9) rfl d_CO_feed_16 ?_
  refine lv_iload_n hx hb d_CO_feed_19 rfl (lv_at hl 1 rfl) ?_
  have hC : Cut [(o, .inr (7, [.ref h, .ref mm])), (h, .inr (0, [.ref a, .int (nI n)])), (a, .inl (cB, cap, .inl f))] [(h, .inr (0, [.ref a, .int (nI n)])), (a, .inl (cB, cap, .inl f))] [(o, .inr (7, [.ref h, .ref mm]))] [1, 2] [0] := ⟨rfl, rfl, rfl, rfl, by decide⟩
  refine goV0 (trV (As := [.int x1]) (rest := []) ⟨hx, hb, hml, hown, hts⟩ gd_good (c_By_append_fit l D cB cI cJ h a n cap f x1 (by omega) (by omega)) cal_By_append ml_CO_27 ⟨Nat.le_of_ble_eq_true rfl, Nat.le_of_ble_eq_true rfl⟩ hZ hP hD hC 1 (ci := 0) rfl rfl rfl rfl hl.1 rfl (Nat.le_of_ble_eq_true rfl) d_CO_feed_20 ⟨Nat.le_of_ble_eq_true rfl, Nat.le_of_ble_eq_true rfl⟩) hZ hP hD hS hC (fun w1 H locs hq hP hD hS => ?_)
  subst hq
  have hP : va_P D classes [(o, .inr (7, [.ref h, .ref mm])), (h, .inr (0, [.ref a, .int (nI (n + 4))])), (a, .inl (cB, cap, .inl (app4 f n x1)))] H := hP
  have hD : va_D A_ [(o, .inr (7, [.ref h, .ref mm])), (h, .inr (0, [.ref a, .int (nI (n + 4))])), (a, .inl (cB, cap, .inl (app4 f n x1)))] := hD
  refine lv_aload_n hx hb d_CO_feed_23 rfl (lv_at hl 0 rfl) ?_
  refine va_get (D := D) (ci := 7) (v := .ref h) (C := R_CO) (T := F_CO) (N := 2) hx hb hts i_CO hown hZ.1 hP 0 rfl rfl 0 (by decide) (hts _ fl_CO_10) (fun _ h9 => h9) rfl d_CO_feed_24 ?_
  refine lv_iload_n hx hb d_CO_feed_27 rfl (lv_at hl 2 rfl) ?_
  have hC : Cut [(o, .inr (7, [.ref h, .ref mm])), (h, .inr (0, [.ref a, .int (nI (n + 4))])), (a, .inl (cB, cap, .inl (app4 f n x1)))] [(h, .inr (0, [.ref a, .int (nI (n + 4))])), (a, .inl (cB, cap, .inl (app4 f n x1)))] [(o, .inr (7, [.ref h, .ref mm]))] [1, 2] [0] := ⟨rfl, rfl, rfl, rfl, by decide⟩
  refine goV0 (trV (As := [.int x2]) (rest := []) ⟨hx, hb, hml, hown, hts⟩ gd_good (c_By_append_fit l D cB cI cJ h a (n + 4) cap (app4 f n x1) x2 (by omega) (by omega)) cal_By_append ml_CO_27 ⟨Nat.le_of_ble_eq_true rfl, Nat.le_of_ble_eq_true rfl⟩ hZ hP hD hC 1 (ci := 0) rfl rfl rfl rfl hl.1 rfl (Nat.le_of_ble_eq_true rfl) d_CO_feed_28 ⟨Nat.le_of_ble_eq_true rfl, Nat.le_of_ble_eq_true rfl⟩) hZ hP hD hS hC (fun w1 H locs hq hP hD hS => ?_)
  subst hq
  have hP : va_P D classes [(o, .inr (7, [.ref h, .ref mm])), (h, .inr (0, [.ref a, .int (nI (n + 4 + 4))])), (a, .inl (cB, cap, .inl (app4 (app4 f n x1) (n + 4) x2)))] H := hP
  have hD : va_D A_ [(o, .inr (7, [.ref h, .ref mm])), (h, .inr (0, [.ref a, .int (nI (n + 4 + 4))])), (a, .inl (cB, cap, .inl (app4 (app4 f n x1) (n + 4) x2)))] := hD
  refine lv_aload_n hx hb d_CO_feed_31 rfl (lv_at hl 0 rfl) ?_
  refine va_get (D := D) (ci := 7) (v := .ref h) (C := R_CO) (T := F_CO) (N := 2) hx hb hts i_CO hown hZ.1 hP 0 rfl rfl 0 (by decide) (hts _ fl_CO_10) (fun _ h9 => h9) rfl d_CO_feed_32 ?_
  refine lv_iload_n hx hb d_CO_feed_35 rfl (lv_at hl 3 rfl) ?_
  have hC : Cut [(o, .inr (7, [.ref h, .ref mm])), (h, .inr (0, [.ref a, .int (nI (n + 4 + 4))])), (a, .inl (cB, cap, .inl (app4 (app4 f n x1) (n + 4) x2)))] [(h, .inr (0, [.ref a, .int (nI (n + 4 + 4))])), (a, .inl (cB, cap, .inl (app4 (app4 f n x1) (n + 4) x2)))] [(o, .inr (7, [.ref h, .ref mm]))] [1, 2] [0] := ⟨rfl, rfl, rfl, rfl, by decide⟩
  refine goV0 (trV (As := [.int x3]) (rest := []) ⟨hx, hb, hml, hown, hts⟩ gd_good (c_By_append_fit l D cB cI cJ h a (n + 4 + 4) cap (app4 (app4 f n x1) (n + 4) x2) x3 (by omega) (by omega)) cal_By_append ml_CO_27 ⟨Nat.le_of_ble_eq_true rfl, Nat.le_of_ble_eq_true rfl⟩ hZ hP hD hC 1 (ci := 0) rfl rfl rfl rfl hl.1 rfl (Nat.le_of_ble_eq_true rfl) d_CO_feed_36 ⟨Nat.le_of_ble_eq_true rfl, Nat.le_of_ble_eq_true rfl⟩) hZ hP hD hS hC (fun w1 H locs hq hP hD hS => ?_)
  subst hq
  have hP : va_P D classes [(o, .inr (7, [.ref h, .ref mm])), (h, .inr (0, [.ref a, .int (nI (n + 4 + 4 + 4))])), (a, .inl (cB, cap, .inl (app4 (app4 (app4 f n x1) (n + 4) x2) (n + 4 + 4) x3)))] H := hP
  have hD : va_D A_ [(o, .inr (7, [.ref h, .ref mm])), (h, .inr (0, [.ref a, .int (nI (n + 4 + 4 + 4))])), (a, .inl (cB, cap, .inl (app4 (app4 (app4 f n x1) (n + 4) x2) (n + 4 + 4) x3)))] := hD
  refine lv_aload_n hx hb d_CO_feed_39 rfl (lv_at hl 0 rfl) ?_
  refine va_get (D := D) (ci := 7) (v := .ref h) (C := R_CO) (T := F_CO) (N := 2) hx hb hts i_CO hown hZ.1 hP 0 rfl rfl 0 (by decide) (hts _ fl_CO_10) (fun _ h9 => h9) rfl d_CO_feed_40 ?_
  refine lv_iload hx hb d_CO_feed_43 (lv_at hl 4 rfl) ?_
  have hC : Cut [(o, .inr (7, [.ref h, .ref mm])), (h, .inr (0, [.ref a, .int (nI (n + 4 + 4 + 4))])), (a, .inl (cB, cap, .inl (app4 (app4 (app4 f n x1) (n + 4) x2) (n + 4 + 4) x3)))] [(h, .inr (0, [.ref a, .int (nI (n + 4 + 4 + 4))])), (a, .inl (cB, cap, .inl (app4 (app4 (app4 f n x1) (n + 4) x2) (n + 4 + 4) x3)))] [(o, .inr (7, [.ref h, .ref mm]))] [1, 2] [0] := ⟨rfl, rfl, rfl, rfl, by decide⟩
  refine goV0 (trV (As := [.int x4]) (rest := []) ⟨hx, hb, hml, hown, hts⟩ gd_good (c_By_append_fit l D cB cI cJ h a (n + 4 + 4 + 4) cap (app4 (app4 (app4 f n x1) (n + 4) x2) (n + 4 + 4) x3) x4 (by omega) (by omega)) cal_By_append ml_CO_27 ⟨Nat.le_of_ble_eq_true rfl, Nat.le_of_ble_eq_true rfl⟩ hZ hP hD hC 1 (ci := 0) rfl rfl rfl rfl hl.1 rfl (Nat.le_of_ble_eq_true rfl) d_CO_feed_45 ⟨Nat.le_of_ble_eq_true rfl, Nat.le_of_ble_eq_true rfl⟩) hZ hP hD hS hC (fun w1 H locs hq hP hD hS => ?_)
  subst hq
  have hP : va_P D classes [(o, .inr (7, [.ref h, .ref mm])), (h, .inr (0, [.ref a, .int (nI (n + 4 + 4 + 4 + 4))])), (a, .inl (cB, cap, .inl (app4 (app4 (app4 (app4 f n x1) (n + 4) x2) (n + 4 + 4) x3) (n + 4 + 4 + 4) x4)))] H := hP
  have hD : va_D A_ [(o, .inr (7, [.ref h, .ref mm])), (h, .inr (0, [.ref a, .int (nI (n + 4 + 4 + 4 + 4))])), (a, .inl (cB, cap, .inl (app4 (app4 (app4 (app4 f n x1) (n + 4) x2) (n + 4 + 4) x3) (n + 4 + 4 + 4) x4)))] := hD
  refine lv_aload_n hx hb d_CO_feed_48 rfl (lv_at hl 0 rfl) ?_
  refine va_get (D := D) (ci := 7) (v := .ref h) (C := R_CO) (T := F_CO) (N := 2) hx hb hts i_CO hown hZ.1 hP 0 rfl rfl 0 (by decide) (hts _ fl_CO_10) (fun _ h9 => h9) rfl d_CO_feed_49 ?_
  refine lv_iload hx hb d_CO_feed_52 (lv_at hl 5 rfl) ?_
  have hC : Cut [(o, .inr (7, [.ref h, .ref mm])), (h, .inr (0, [.ref a, .int (nI (n + 4 + 4 + 4 + 4))])), (a, .inl (cB, cap, .inl (app4 (app4 (app4 (app4 f n x1) (n + 4) x2) (n + 4 + 4) x3) (n + 4 + 4 + 4) x4)))] [(h, .inr (0, [.ref a, .int (nI (n + 4 + 4 + 4 + 4))])), (a, .inl (cB, cap, .inl (app4 (app4 (app4 (app4 f n x1) (n + 4) x2) (n + 4 + 4) x3) (n + 4 + 4 + 4) x4)))] [(o, .inr (7, [.ref h, .ref mm]))] [1, 2] [0] := ⟨rfl, rfl, rfl, rfl, by decide⟩
  refine goV0 (trV (As := [.int x5]) (rest := []) ⟨hx, hb, hml, hown, hts⟩ gd_good (c_By_append_fit l D cB cI cJ h a (n + 4 + 4 + 4 + 4) cap (app4 (app4 (app4 (app4 f n x1) (n + 4) x2) (n + 4 + 4) x3) (n + 4 + 4 + 4) x4) x5 (by omega) (by omega)) cal_By_append ml_CO_27 ⟨Nat.le_of_ble_eq_true rfl, Nat.le_of_ble_eq_true rfl⟩ hZ hP hD hC 1 (ci := 0) rfl rfl rfl rfl hl.1 rfl (Nat.le_of_ble_eq_true rfl) d_CO_feed_54 ⟨Nat.le_of_ble_eq_true rfl, Nat.le_of_ble_eq_true rfl⟩) hZ hP hD hS hC (fun w1 H locs hq hP hD hS => ?_)
  subst hq
  have hP : va_P D classes [(o, .inr (7, [.ref h, .ref mm])), (h, .inr (0, [.ref a, .int (nI (n + 4 + 4 + 4 + 4 + 4))])), (a, .inl (cB, cap, .inl (app4 (app4 (app4 (app4 (app4 f n x1) (n + 4) x2) (n + 4 + 4) x3) (n + 4 + 4 + 4) x4) (n + 4 + 4 + 4 + 4) x5)))] H := hP
  have hD : va_D A_ [(o, .inr (7, [.ref h, .ref mm])), (h, .inr (0, [.ref a, .int (nI (n + 4 + 4 + 4 + 4 + 4))])), (a, .inl (cB, cap, .inl (app4 (app4 (app4 (app4 (app4 f n x1) (n + 4) x2) (n + 4 + 4) x3) (n + 4 + 4 + 4) x4) (n + 4 + 4 + 4 + 4) x5)))] := hD
  refine lv_aload_n hx hb d_CO_feed_57 rfl (lv_at hl 0 rfl) ?_
  refine va_get (D := D) (ci := 7) (v := .ref h) (C := R_CO) (T := F_CO) (N := 2) hx hb hts i_CO hown hZ.1 hP 0 rfl rfl 0 (by decide) (hts _ fl_CO_10) (fun _ h9 => h9) rfl d_CO_feed_58 ?_
  refine roV (As := []) (rest := []) ⟨hx, hb, hml, hown, hts⟩ gd_good (c_By_length l D cB cI cJ h a (n + 4 + 4 + 4 + 4 + 4) cap (app4 (app4 (app4 (app4 (app4 f n x1) (n + 4) x2) (n + 4 + 4) x3) (n + 4 + 4 + 4) x4) (n + 4 + 4 + 4 + 4) x5)) cal_By_length ml_CO_23 ⟨Nat.le_of_ble_eq_true rfl, Nat.le_of_ble_eq_true rfl⟩ hZ hP hD (isC := [1, 2]) ⟨rfl, rfl⟩ 1 (ci := 0) rfl rfl rfl rfl hl.1 rfl (Nat.le_of_ble_eq_true rfl) d_CO_feed_61 ⟨Nat.le_of_ble_eq_true rfl, Nat.le_of_ble_eq_true rfl⟩ (fun v hv => ?_)
  subst hv
  exact t_iret hx hb hr hlk d_CO_feed_64 (hP.subm (ws' := [(o, .inr (7, [.ref h, .ref mm])), (h, .inr (0, [.ref a, .int (nI (n + 4 + 4 + 4 + 4 + 4))])), (a, .inl (cB, cap, .inl (app4 (app4 (app4 (app4 (app4 f n x1) (n + 4) x2) (n + 4 + 4) x3) (n + 4 + 4 + 4) x4) (n + 4 + 4 + 4 + 4) x5)))]) [0, 1, 2] rfl) (hD.sub (ws' := [(o, .inr (7, [.ref h, .ref mm])), (h, .inr (0, [.ref a, .int (nI (n + 4 + 4 + 4 + 4 + 4))])), (a, .inl (cB, cap, .inl (app4 (app4 (app4 (app4 (app4 f n x1) (n + 4) x2) (n + 4 + 4) x3) (n + 4 + 4 + 4) x4) (n + 4 + 4 + 4 + 4) x5)))]) [0, 1, 2] rfl rfl) hS ⟨_, rfl, rfl, rfl, rfl, rfl⟩
set_option maxHeartbeats 1000000 in
set_option maxRecDepth 100000 in
theorem c_CO_put (l : Launch) (D : va_G) (cB cI cJ : ClassId) (hfl : l.flags = pinnedFlags ++ [noTraceFlag]) (ad : Nat → Nat) (o h mm a n cap : Nat) (f : Nat → Int32) (i b : Int32) (hn : n ≤ cap ∧ cap ≤ 16384) : TrX l D classes (TY cB cI cJ) gd_tbl nx_tbl str_tbl ad y_CO_put b_CO_put 3 (some .int) ({ frames := 6, cells := 1, slots := 6, locals := 82 }) [.ref o, .int i, .int b] [(o, .inr (7, [.ref h, .ref mm])), (h, .inr (0, [.ref a, .int (nI n)])), (a, .inl (cB, cap, .inl f))] (pI0 (fun r w => ∃ j : Nat, i = nI j ∧ j < n ∧ okI n i ∧ okB b ∧ r = atB n f i ∧ w = [(o, .inr (7, [.ref h, .ref mm])), (h, .inr (0, [.ref a, .int (nI n)])), (a, .inl (cB, cap, .inl (upd f j (vp_nar .byte b.toInt8.toInt32))))])) (fun X => (X = "java/lang/IndexOutOfBoundsException" ∧ ¬ okI n i) ∨ (X = "java/lang/IllegalArgumentException" ∧ okI n i ∧ ¬ okB b)) := by
  refine TrX.intro (by decide +kernel) nx_ok (Nat.le_of_ble_eq_true rfl) ?_
  intro p_ e_ s_ m_ args_ below_ meth_ c_ A_ ls hx hb hml hown hts hr hlk hnm hZ hP hD hS hl hXU hno
  have hl : lv_has ls 3 [(0, .ref o), (1, .int i), (2, .int b)] := hl
  refine lv_iload_n hx hb d_CO_put_0 rfl (lv_at hl 1 rfl) ?_
  refine lv_if_lt (tgt := 15) hx hb d_CO_put_1 (by decide) (fun c_1 => ?_) (fun c_1 => ?_)
  · exact x_throw hfl hx hb (by rw [hml]; exact hl.1.symm) hlk hown (by decide +kernel) (by decide +kernel) (xat_IO hts hZ.2.1 hXU ml_CO_35) (hts _ cl_CO_31) (hts _ xin_IO) (hXU.2.2.1 _ (List.mem_of_getElem? (i := 0) rfl)) hno (Nat.le_of_ble_eq_true rfl) (Nat.le_of_ble_eq_true rfl) (Nat.le_of_ble_eq_true rfl) (Nat.le_of_ble_eq_true rfl) (Or.inl ⟨rfl, fun z => by exact z.1 c_1⟩) d_CO_put_15 d_CO_put_18 d_CO_put_19 d_CO_put_21 d_CO_put_24
  · refine lv_iload_n hx hb d_CO_put_4 rfl (lv_at hl 1 rfl) ?_
    refine lv_aload_n hx hb d_CO_put_5 rfl (lv_at hl 0 rfl) ?_
    refine va_get (D := D) (ci := 7) (v := .ref h) (C := R_CO) (T := F_CO) (N := 2) hx hb hts i_CO hown hZ.1 hP 0 rfl rfl 0 (by decide) (hts _ fl_CO_10) (fun _ h9 => h9) rfl d_CO_put_6 ?_
    refine roV (As := []) (rest := [.int i]) ⟨hx, hb, hml, hown, hts⟩ gd_good (c_By_length l D cB cI cJ h a n cap f) cal_By_length ml_CO_23 ⟨Nat.le_of_ble_eq_true rfl, Nat.le_of_ble_eq_true rfl⟩ hZ hP hD (isC := [1, 2]) ⟨rfl, rfl⟩ 1 (ci := 0) rfl rfl rfl rfl hl.1 rfl (Nat.le_of_ble_eq_true rfl) d_CO_put_9 ⟨Nat.le_of_ble_eq_true rfl, Nat.le_of_ble_eq_true rfl⟩ (fun v hv => ?_)
    subst hv
    refine lv_icmp_lt (tgt := 25) hx hb d_CO_put_12 (by decide) (fun c_12 => ?_) (fun c_12 => ?_)
    · refine lv_iload_n hx hb d_CO_put_25 rfl (lv_at hl 2 rfl) ?_
      refine lv_if_lt (tgt := 36) hx hb d_CO_put_26 (by decide) (fun c_26 => ?_) (fun c_26 => ?_)
      · exact x_throw hfl hx hb (by rw [hml]; exact hl.1.symm) hlk hown (by decide +kernel) (by decide +kernel) (xat_IA hts hZ.2.1 hXU ml_CO_42) (hts _ cl_CO_38) (hts _ xin_IA) (hXU.2.2.1 _ (List.mem_of_getElem? (i := 1) rfl)) hno (Nat.le_of_ble_eq_true rfl) (Nat.le_of_ble_eq_true rfl) (Nat.le_of_ble_eq_true rfl) (Nat.le_of_ble_eq_true rfl) (Or.inr ⟨rfl, ⟨c_1, c_12⟩, fun z => by exact z.1 c_26⟩) d_CO_put_36 d_CO_put_39 d_CO_put_40 d_CO_put_42 d_CO_put_45
      · refine lv_iload_n hx hb d_CO_put_29 rfl (lv_at hl 2 rfl) ?_
        refine lv_sipush (v := 255) hx hb d_CO_put_30 (by decide) ?_
        refine lv_icmp_le (tgt := 46) hx hb d_CO_put_33 (by decide) (fun c_33 => ?_) (fun c_33 => ?_)
        · obtain ⟨j, hj, ej⟩ := in_ok c_1 c_12 (by omega)
          subst ej
          refine lv_aload_n hx hb d_CO_put_46 rfl (lv_at hl 0 rfl) ?_
          refine va_get (D := D) (ci := 7) (v := .ref h) (C := R_CO) (T := F_CO) (N := 2) hx hb hts i_CO hown hZ.1 hP 0 rfl rfl 0 (by decide) (hts _ fl_CO_10) (fun _ h9 => h9) rfl d_CO_put_47 ?_
          refine lv_iload_n hx hb d_CO_put_50 rfl (lv_at hl 1 rfl) ?_
          refine lv_iload_n hx hb d_CO_put_51 rfl (lv_at hl 2 rfl) ?_
          have hC : Cut [(o, .inr (7, [.ref h, .ref mm])), (h, .inr (0, [.ref a, .int (nI n)])), (a, .inl (cB, cap, .inl f))] [(h, .inr (0, [.ref a, .int (nI n)])), (a, .inl (cB, cap, .inl f))] [(o, .inr (7, [.ref h, .ref mm]))] [1, 2] [0] := ⟨rfl, rfl, rfl, rfl, by decide⟩
          refine goI0 (trV (As := [.int (nI j), .int b]) (rest := []) ⟨hx, hb, hml, hown, hts⟩ gd_good (c_By_replace l D cB cI cJ h a n cap f j b hj hn) cal_By_replace ml_CO_43 ⟨Nat.le_of_ble_eq_true rfl, Nat.le_of_ble_eq_true rfl⟩ hZ hP hD hC 1 (ci := 0) rfl rfl rfl rfl hl.1 rfl (Nat.le_of_ble_eq_true rfl) d_CO_put_52 ⟨Nat.le_of_ble_eq_true rfl, Nat.le_of_ble_eq_true rfl⟩) hZ hP hD hS hC (fun r_52 w1 H locs hq hP hD hS => ?_)
          obtain ⟨rfl, rfl⟩ := hq
          have hP : va_P D classes [(o, .inr (7, [.ref h, .ref mm])), (h, .inr (0, [.ref a, .int (nI n)])), (a, .inl (cB, cap, .inl (upd f j (vp_nar .byte b.toInt8.toInt32))))] H := hP
          have hD : va_D A_ [(o, .inr (7, [.ref h, .ref mm])), (h, .inr (0, [.ref a, .int (nI n)])), (a, .inl (cB, cap, .inl (upd f j (vp_nar .byte b.toInt8.toInt32))))] := hD
          exact x_ret (t_iret hx hb hr hlk d_CO_put_55 (hP.subm (ws' := [(o, .inr (7, [.ref h, .ref mm])), (h, .inr (0, [.ref a, .int (nI n)])), (a, .inl (cB, cap, .inl (upd f j (vp_nar .byte b.toInt8.toInt32))))]) [0, 1, 2] rfl) (hD.sub (ws' := [(o, .inr (7, [.ref h, .ref mm])), (h, .inr (0, [.ref a, .int (nI n)])), (a, .inl (cB, cap, .inl (upd f j (vp_nar .byte b.toInt8.toInt32))))]) [0, 1, 2] rfl rfl) hS ⟨_, rfl, rfl, rfl, j, rfl, hj, ⟨c_1, c_12⟩, ⟨c_26, c_33⟩, rfl, rfl⟩)
        · exact x_throw hfl hx hb (by rw [hml]; exact hl.1.symm) hlk hown (by decide +kernel) (by decide +kernel) (xat_IA hts hZ.2.1 hXU ml_CO_42) (hts _ cl_CO_38) (hts _ xin_IA) (hXU.2.2.1 _ (List.mem_of_getElem? (i := 1) rfl)) hno (Nat.le_of_ble_eq_true rfl) (Nat.le_of_ble_eq_true rfl) (Nat.le_of_ble_eq_true rfl) (Nat.le_of_ble_eq_true rfl) (Or.inr ⟨rfl, ⟨c_1, c_12⟩, fun z => by exact c_33 z.2⟩) d_CO_put_36 d_CO_put_39 d_CO_put_40 d_CO_put_42 d_CO_put_45
    · exact x_throw hfl hx hb (by rw [hml]; exact hl.1.symm) hlk hown (by decide +kernel) (by decide +kernel) (xat_IO hts hZ.2.1 hXU ml_CO_35) (hts _ cl_CO_31) (hts _ xin_IO) (hXU.2.2.1 _ (List.mem_of_getElem? (i := 0) rfl)) hno (Nat.le_of_ble_eq_true rfl) (Nat.le_of_ble_eq_true rfl) (Nat.le_of_ble_eq_true rfl) (Nat.le_of_ble_eq_true rfl) (Or.inl ⟨rfl, fun z => by exact c_12 z.2⟩) d_CO_put_15 d_CO_put_18 d_CO_put_19 d_CO_put_21 d_CO_put_24
set_option maxHeartbeats 1000000 in
set_option maxRecDepth 100000 in
theorem c_CO_cut (l : Launch) (D : va_G) (cB cI cJ : ClassId) (hfl : l.flags = pinnedFlags ++ [noTraceFlag]) (ad : Nat → Nat) (o h mm a n cap : Nat) (f : Nat → Int32) (y : Int32) (hn : n ≤ cap ∧ cap ≤ 16384) : TrX l D classes (TY cB cI cJ) gd_tbl nx_tbl str_tbl ad y_CO_cut b_CO_cut 2 (some .int) ({ frames := 6, cells := 1, slots := 6, locals := 82 }) [.ref o, .int y] [(o, .inr (7, [.ref h, .ref mm])), (h, .inr (0, [.ref a, .int (nI n)])), (a, .inl (cB, cap, .inl f))] (pI0 (fun r w => ∃ j n' : Nat, y = nI j ∧ j < 2 ^ 31 ∧ n' = min j n ∧ r = nI (n - n') ∧ w = [(o, .inr (7, [.ref h, .ref mm])), (h, .inr (0, [.ref a, .int (nI n')])), (a, .inl (cB, cap, .inl f))])) (fun X => X = "java/lang/IllegalArgumentException" ∧ y < 0) := by
  refine TrX.intro (by decide +kernel) nx_ok (Nat.le_of_ble_eq_true rfl) ?_
  intro p_ e_ s_ m_ args_ below_ meth_ c_ A_ ls hx hb hml hown hts hr hlk hnm hZ hP hD hS hl hXU hno
  have hl : lv_has ls 2 [(0, .ref o), (1, .int y)] := hl
  refine lv_iload_n hx hb d_CO_cut_0 rfl (lv_at hl 1 rfl) ?_
  refine lv_if_ge (tgt := 14) hx hb d_CO_cut_1 (by decide) (fun c_1 => ?_) (fun c_1 => ?_)
  · obtain ⟨j, hj, ej⟩ := nI_of (Int32.not_lt.mpr c_1)
    subst ej
    refine lv_aload_n hx hb d_CO_cut_14 rfl (lv_at hl 0 rfl) ?_
    refine va_get (D := D) (ci := 7) (v := .ref h) (C := R_CO) (T := F_CO) (N := 2) hx hb hts i_CO hown hZ.1 hP 0 rfl rfl 0 (by decide) (hts _ fl_CO_10) (fun _ h9 => h9) rfl d_CO_cut_15 ?_
    refine lv_iload_n hx hb d_CO_cut_18 rfl (lv_at hl 1 rfl) ?_
    have hC : Cut [(o, .inr (7, [.ref h, .ref mm])), (h, .inr (0, [.ref a, .int (nI n)])), (a, .inl (cB, cap, .inl f))] [(h, .inr (0, [.ref a, .int (nI n)])), (a, .inl (cB, cap, .inl f))] [(o, .inr (7, [.ref h, .ref mm]))] [1, 2] [0] := ⟨rfl, rfl, rfl, rfl, by decide⟩
    refine goI0 (trV (As := [.int (nI j)]) (rest := []) ⟨hx, hb, hml, hown, hts⟩ gd_good (c_By_shorten l D cB cI cJ h a n cap f j hj hn) cal_By_shorten ml_CO_49 ⟨Nat.le_of_ble_eq_true rfl, Nat.le_of_ble_eq_true rfl⟩ hZ hP hD hC 1 (ci := 0) rfl rfl rfl rfl hl.1 rfl (Nat.le_of_ble_eq_true rfl) d_CO_cut_19 ⟨Nat.le_of_ble_eq_true rfl, Nat.le_of_ble_eq_true rfl⟩) hZ hP hD hS hC (fun r_19 w1 H locs hq hP hD hS => ?_)
    obtain ⟨n_19, hn_19, rfl, rfl⟩ := hq
    have hP : va_P D classes [(o, .inr (7, [.ref h, .ref mm])), (h, .inr (0, [.ref a, .int (nI n_19)])), (a, .inl (cB, cap, .inl f))] H := hP
    have hD : va_D A_ [(o, .inr (7, [.ref h, .ref mm])), (h, .inr (0, [.ref a, .int (nI n_19)])), (a, .inl (cB, cap, .inl f))] := hD
    exact x_ret (t_iret hx hb hr hlk d_CO_cut_22 (hP.subm (ws' := [(o, .inr (7, [.ref h, .ref mm])), (h, .inr (0, [.ref a, .int (nI n_19)])), (a, .inl (cB, cap, .inl f))]) [0, 1, 2] rfl) (hD.sub (ws' := [(o, .inr (7, [.ref h, .ref mm])), (h, .inr (0, [.ref a, .int (nI n_19)])), (a, .inl (cB, cap, .inl f))]) [0, 1, 2] rfl rfl) hS ⟨_, rfl, rfl, rfl, j, _, rfl, hj, hn_19, rfl, rfl⟩)
  · exact x_throw hfl hx hb (by rw [hml]; exact hl.1.symm) hlk hown (by decide +kernel) (by decide +kernel) (xat_IA hts hZ.2.1 hXU ml_CO_42) (hts _ cl_CO_38) (hts _ xin_IA) (hXU.2.2.1 _ (List.mem_of_getElem? (i := 2) rfl)) hno (Nat.le_of_ble_eq_true rfl) (Nat.le_of_ble_eq_true rfl) (Nat.le_of_ble_eq_true rfl) (Nat.le_of_ble_eq_true rfl) ⟨rfl, Int32.not_le.mp c_1⟩ d_CO_cut_4 d_CO_cut_7 d_CO_cut_8 d_CO_cut_10 d_CO_cut_13
set_option maxHeartbeats 1000000 in
set_option maxRecDepth 100000 in
theorem c_St_shelf (l : Launch) (D : va_G) (cB cI cJ : ClassId) (h p g q ki pl en : Nat) (d1 d2 k : Int32) : Ro l D classes (TY cB cI cJ) gd_tbl nx_tbl y_St_shelf b_St_shelf 2 (some (.object "CharOutlines$Shelf")) ({ frames := 0, cells := 0, slots := 0, locals := 0 }) [.ref h, .int k] [(h, .inr (2, [.ref p, .ref g, .ref q, .ref ki, .ref pl, .ref en, .int d1, .int d2]))] (fun v => v = .ref (selK k p g q)) := by
  refine Ro.intro (by decide +kernel) nx_ok (Nat.le_of_ble_eq_true rfl) ?_
  intro p_ e_ s_ m_ args_ below_ meth_ c_ A_ ls hx hb hml hown hts hr hlk hnm hZ hP hD hl
  have hl : lv_has ls 2 [(0, .ref h), (1, .int k)] := hl
  refine lv_iload_n hx hb d_St_shelf_0 rfl (lv_at hl 1 rfl) ?_
  by_cases h_1_1 : k = 1
  · refine lv_lookup (tgt := 28) (off := 27) hx hb d_St_shelf_1 (by decide) (by first | (rw [h_1_1]; done) | (rw [h_1_1]; rfl)) (by decide) ?_
    refine lv_aload_n hx hb d_St_shelf_28 rfl (lv_at hl 0 rfl) ?_
    refine va_get (D := D) (ci := 2) (v := .ref g) (C := R_St) (T := F_St) (N := 8) hx hb hts i_St hown hZ.1 hP 0 rfl rfl 1 (by decide) (hts _ fl_St_18) (fun _ h9 => h9) rfl d_St_shelf_29 ?_
    exact r_aret hx hb hr (Or.inl ⟨_, rfl⟩) hlk d_St_shelf_32 (by simp [selK, h_1_1])
  by_cases h_1_2 : k = 2
  · refine lv_lookup (tgt := 33) (off := 32) hx hb d_St_shelf_1 (by decide) (by first | (rw [h_1_2]; done) | (rw [h_1_2]; rfl)) (by decide) ?_
    refine lv_aload_n hx hb d_St_shelf_33 rfl (lv_at hl 0 rfl) ?_
    refine va_get (D := D) (ci := 2) (v := .ref q) (C := R_St) (T := F_St) (N := 8) hx hb hts i_St hown hZ.1 hP 0 rfl rfl 2 (by decide) (hts _ fl_St_21) (fun _ h9 => h9) rfl d_St_shelf_34 ?_
    exact r_aret hx hb hr (Or.inl ⟨_, rfl⟩) hlk d_St_shelf_37 (by simp [selK, h_1_2])
  refine lv_lookup (tgt := 38) (off := 37) hx hb d_St_shelf_1 (by decide) (by show Op.lookupswitch.offset _ _ _ = _; first | (rw [lv_osw h_1_1 (by decide), lv_osw h_1_2 (by decide)]; done) | (rw [lv_osw h_1_1 (by decide), lv_osw h_1_2 (by decide)]; rfl)) (by decide) ?_
  refine lv_aload_n hx hb d_St_shelf_38 rfl (lv_at hl 0 rfl) ?_
  refine va_get (D := D) (ci := 2) (v := .ref p) (C := R_St) (T := F_St) (N := 8) hx hb hts i_St hown hZ.1 hP 0 rfl rfl 0 (by decide) (hts _ fl_St_12) (fun _ h9 => h9) rfl d_St_shelf_39 ?_
  exact r_aret hx hb hr (Or.inl ⟨_, rfl⟩) hlk d_St_shelf_42 (by simp [selK, h_1_1, h_1_2])
set_option maxHeartbeats 1000000 in
set_option maxRecDepth 100000 in
theorem c_Ma_shelf (l : Launch) (D : va_G) (cB cI cJ : ClassId) (m mstr mval mrec mout : Nat) (z_run z_steps z_hints z_pas z_told z_wid z_mov : Int32) (p g q ki pl en : Nat) (d1 d2 k : Int32) : Ro l D classes (TY cB cI cJ) gd_tbl nx_tbl y_Ma_shelf b_Ma_shelf 2 (some (.object "CharOutlines$Shelf")) ({ frames := 1, cells := 0, slots := 0, locals := 21 }) [.ref m, .int k] [(m, .inr (6, [.ref mstr, .ref mval, .ref mrec, .ref mout, .int z_run, .int z_steps, .int z_hints, .int z_pas, .int z_told, .int z_wid, .int z_mov])), (mstr, .inr (2, [.ref p, .ref g, .ref q, .ref ki, .ref pl, .ref en, .int d1, .int d2]))] (fun v => v = .ref (selK k p g q)) := by
  refine Ro.intro (by decide +kernel) nx_ok (Nat.le_of_ble_eq_true rfl) ?_
  intro p_ e_ s_ m_ args_ below_ meth_ c_ A_ ls hx hb hml hown hts hr hlk hnm hZ hP hD hl
  have hl : lv_has ls 2 [(0, .ref m), (1, .int k)] := hl
  refine lv_aload_n hx hb d_Ma_shelf_0 rfl (lv_at hl 0 rfl) ?_
  refine va_get (D := D) (ci := 6) (v := .ref mstr) (C := R_Ma) (T := F_Ma) (N := 11) hx hb hts i_Ma hown hZ.1 hP 0 rfl rfl 0 (by decide) (hts _ fl_Ma_12) (fun _ h9 => h9) rfl d_Ma_shelf_1 ?_
  refine lv_iload_n hx hb d_Ma_shelf_4 rfl (lv_at hl 1 rfl) ?_
  refine roV (As := [.int k]) (rest := []) ⟨hx, hb, hml, hown, hts⟩ gd_good (c_St_shelf l D cB cI cJ mstr p g q ki pl en d1 d2 k) cal_St_shelf ml_Ma_39 ⟨Nat.le_of_ble_eq_true rfl, Nat.le_of_ble_eq_true rfl⟩ hZ hP hD (isC := [1]) ⟨rfl, rfl⟩ 1 (ci := 2) rfl rfl rfl rfl hl.1 rfl (Nat.le_of_ble_eq_true rfl) d_Ma_shelf_5 ⟨Nat.le_of_ble_eq_true rfl, Nat.le_of_ble_eq_true rfl⟩ (fun v hv => ?_)
  subst hv
  exact r_aret hx hb hr (Or.inl ⟨_, rfl⟩) hlk d_Ma_shelf_8 rfl
set_option maxHeartbeats 1000000 in
set_option maxRecDepth 100000 in
theorem c_Ma_outline (l : Launch) (D : va_G) (cB cI cJ : ClassId) (m mstr mval mrec mout : Nat) (z_run z_steps z_hints z_pas z_told z_wid z_mov : Int32) : Ro l D classes (TY cB cI cJ) gd_tbl nx_tbl y_Ma_outline b_Ma_outline 1 (some (.object "CharOutlines$Outline")) ({ frames := 0, cells := 0, slots := 0, locals := 0 }) [.ref m] [(m, .inr (6, [.ref mstr, .ref mval, .ref mrec, .ref mout, .int z_run, .int z_steps, .int z_hints, .int z_pas, .int z_told, .int z_wid, .int z_mov]))] (fun v => v = .ref mout) := by
  refine Ro.intro (by decide +kernel) nx_ok (Nat.le_of_ble_eq_true rfl) ?_
  intro p_ e_ s_ m_ args_ below_ meth_ c_ A_ ls hx hb hml hown hts hr hlk hnm hZ hP hD hl
  have hl : lv_has ls 1 [(0, .ref m)] := hl
  refine lv_aload_n hx hb d_Ma_outline_0 rfl (lv_at hl 0 rfl) ?_
  refine va_get (D := D) (ci := 6) (v := .ref mout) (C := R_Ma) (T := F_Ma) (N := 11) hx hb hts i_Ma hown hZ.1 hP 0 rfl rfl 3 (by decide) (hts _ fl_Ma_35) (fun _ h9 => h9) rfl d_Ma_outline_1 ?_
  exact r_aret hx hb hr (Or.inl ⟨_, rfl⟩) hlk d_Ma_outline_4 rfl
set_option maxHeartbeats 1000000 in
set_option maxRecDepth 100000 in
theorem c_Sh_strings (l : Launch) (D : va_G) (cB cI cJ : ClassId) (h hb n : Nat) : Ro l D classes (TY cB cI cJ) gd_tbl nx_tbl y_Sh_strings b_Sh_strings 1 (some .int) ({ frames := 0, cells := 0, slots := 0, locals := 0 }) [.ref h] [(h, .inr (1, [.ref hb, .int (nI n)]))] (fun v => v = .int (nI n)) := by
  refine Ro.intro (by decide +kernel) nx_ok (Nat.le_of_ble_eq_true rfl) ?_
  intro p_ e_ s_ m_ args_ below_ meth_ c_ A_ ls hx hb hml hown hts hr hlk hnm hZ hP hD hl
  have hl : lv_has ls 1 [(0, .ref h)] := hl
  refine lv_aload_n hx hb d_Sh_strings_0 rfl (lv_at hl 0 rfl) ?_
  refine va_get (D := D) (ci := 1) (v := .int (nI n)) (C := R_Sh) (T := F_Sh) (N := 2) hx hb hts i_Sh hown hZ.1 hP 0 rfl rfl 1 (by decide) (hts _ fl_Sh_18) (fun _ h9 => h9) rfl d_Sh_strings_1 ?_
  exact r_iret hx hb hr hlk d_Sh_strings_4 rfl
set_option maxHeartbeats 1000000 in
set_option maxRecDepth 100000 in
theorem c_Sh_has (l : Launch) (D : va_G) (cB cI cJ : ClassId) (h hb n : Nat) (k : Int32) : Ro l D classes (TY cB cI cJ) gd_tbl nx_tbl y_Sh_has b_Sh_has 2 (some .boolean) ({ frames := 0, cells := 0, slots := 0, locals := 0 }) [.ref h, .int k] [(h, .inr (1, [.ref hb, .int (nI n)]))] (fun v => v = .int (hasS n k)) := by
  refine Ro.intro (by decide +kernel) nx_ok (Nat.le_of_ble_eq_true rfl) ?_
  intro p_ e_ s_ m_ args_ below_ meth_ c_ A_ ls hx hb hml hown hts hr hlk hnm hZ hP hD hl
  have hl : lv_has ls 2 [(0, .ref h), (1, .int k)] := hl
  refine lv_iload_n hx hb d_Sh_has_0 rfl (lv_at hl 1 rfl) ?_
  refine lv_if_lt (tgt := 16) hx hb d_Sh_has_1 (by decide) (fun c_1 => ?_) (fun c_1 => ?_)
  · refine lv_iconst (v := 0) hx hb d_Sh_has_16 (by decide) ?_
    exact r_zret hx hb hr hlk (by decide) d_Sh_has_17 (by simp [hasS, c_1])
  · refine lv_iload_n hx hb d_Sh_has_4 rfl (lv_at hl 1 rfl) ?_
    refine lv_aload_n hx hb d_Sh_has_5 rfl (lv_at hl 0 rfl) ?_
    refine va_get (D := D) (ci := 1) (v := .int (nI n)) (C := R_Sh) (T := F_Sh) (N := 2) hx hb hts i_Sh hown hZ.1 hP 0 rfl rfl 1 (by decide) (hts _ fl_Sh_18) (fun _ h9 => h9) rfl d_Sh_has_6 ?_
    refine lv_icmp_ge (tgt := 16) hx hb d_Sh_has_9 (by decide) (fun c_9 => ?_) (fun c_9 => ?_)
    · refine lv_iconst (v := 0) hx hb d_Sh_has_16 (by decide) ?_
      exact r_zret hx hb hr hlk (by decide) d_Sh_has_17 (by simp [hasS, c_1, c_9])
    · refine lv_iconst (v := 1) hx hb d_Sh_has_12 (by decide) ?_
      refine lv_goto (tgt := 17) hx hb d_Sh_has_13 (by decide) ?_
      exact r_zret hx hb hr hlk (by decide) d_Sh_has_17 (by simp [hasS, c_1, c_9])
set_option maxHeartbeats 1000000 in
set_option maxRecDepth 100000 in
theorem c_Sh_stringsIn_short (l : Launch) (D : va_G) (cB cI cJ : ClassId) (h a n cap : Nat) (f : Nat → Int32) (hn : n < 2) : Ro l D classes (TY cB cI cJ) gd_tbl nx_tbl y_Sh_stringsIn b_Sh_stringsIn 2 (some .int) ({ frames := 1, cells := 0, slots := 0, locals := 20 }) [.ref h] [(h, .inr (0, [.ref a, .int (nI n)])), (a, .inl (cB, cap, .inl f))] (fun v => v = .int (-2)) := by
  refine Ro.intro (by decide +kernel) nx_ok (Nat.le_of_ble_eq_true rfl) ?_
  intro p_ e_ s_ m_ args_ below_ meth_ c_ A_ ls hx hb hml hown hts hr hlk hnm hZ hP hD hl
  have hl : lv_has ls 2 [(0, .ref h)] := hl
  refine lv_aload_n hx hb d_Sh_stringsIn_0 rfl (lv_at hl 0 rfl) ?_
  refine roV (As := []) (rest := []) ⟨hx, hb, hml, hown, hts⟩ gd_good (c_By_length l D cB cI cJ h a n cap f) cal_By_length ml_Sh_38 ⟨Nat.le_of_ble_eq_true rfl, Nat.le_of_ble_eq_true rfl⟩ hZ hP hD (isC := [0, 1]) ⟨rfl, rfl⟩ 0 (ci := 0) rfl rfl rfl rfl hl.1 rfl (Nat.le_of_ble_eq_true rfl) d_Sh_stringsIn_1 ⟨Nat.le_of_ble_eq_true rfl, Nat.le_of_ble_eq_true rfl⟩ (fun v hv => ?_)
  subst hv
  refine lv_iconst (v := 2) hx hb d_Sh_stringsIn_4 (by decide) ?_
  refine lv_icmp_ge (tgt := 11) hx hb d_Sh_stringsIn_5 (by decide) (fun c_5 => absurd c_5 (nI_ge (b := 2) hn (by omega))) (fun c_5 => ?_)
  refine lv_bipush (v := (-2)) hx hb d_Sh_stringsIn_8 (by decide) ?_
  exact r_iret hx hb hr hlk d_Sh_stringsIn_10 rfl
set_option maxHeartbeats 1000000 in
set_option maxRecDepth 100000 in
theorem c_Sh_fill_short (l : Launch) (D : va_G) (cB cI cJ : ClassId) (e0 eb : Nat) (en : Int32) (h a n cap : Nat) (f : Nat → Int32) (hn : n < 2) : Ro l D classes (TY cB cI cJ) gd_tbl nx_tbl y_Sh_fill b_Sh_fill 3 (some .int) ({ frames := 2, cells := 0, slots := 0, locals := 41 }) [.ref e0, .ref h] [(e0, .inr (1, [.ref eb, .int en])), (h, .inr (0, [.ref a, .int (nI n)])), (a, .inl (cB, cap, .inl f))] (fun v => v = .int (-2)) := by
  refine Ro.intro (by decide +kernel) nx_ok (Nat.le_of_ble_eq_true rfl) ?_
  intro p_ e_ s_ m_ args_ below_ meth_ c_ A_ ls hx hb hml hown hts hr hlk hnm hZ hP hD hl
  have hl : lv_has ls 3 [(0, .ref e0), (1, .ref h)] := hl
  refine lv_aload_n hx hb d_Sh_fill_0 rfl (lv_at hl 1 rfl) ?_
  refine roS (As := [.ref h]) (rest := []) ⟨hx, hb, hml, hown, hts⟩ gd_good (c_Sh_stringsIn_short l D cB cI cJ h a n cap f (by omega)) cal_Sh_stringsIn ml_Sh_26 ⟨Nat.le_of_ble_eq_true rfl, Nat.le_of_ble_eq_true rfl⟩ hZ hP hD (isC := [1, 2]) ⟨rfl, rfl⟩ rfl hl.1 rfl (Nat.le_of_ble_eq_true rfl) d_Sh_fill_1 ⟨Nat.le_of_ble_eq_true rfl, Nat.le_of_ble_eq_true rfl⟩ (fun v hv => ?_)
  subst hv
  refine lv_istore_n (lv' := [(2, .int (-2)), (0, .ref e0), (1, .ref h)]) hx hb d_Sh_fill_4 rfl hl (by decide) rfl (fun ls hl => ?_)
  refine lv_iload_n hx hb d_Sh_fill_5 rfl (lv_at hl 0 rfl) ?_
  refine lv_bipush (v := (-2)) hx hb d_Sh_fill_6 (by decide) ?_
  refine lv_icmp_eq (tgt := 24) hx hb d_Sh_fill_8 (by decide) (fun c_8 => ?_) (fun c_8 => absurd (by decide) c_8)
  clear c_8
  refine lv_iload_n hx hb d_Sh_fill_24 rfl (lv_at hl 0 rfl) ?_
  exact r_iret hx hb hr hlk d_Sh_fill_25 rfl
set_option maxHeartbeats 1000000 in
set_option maxRecDepth 100000 in
theorem c_CO_take_short (l : Launch) (D : va_G) (cB cI cJ : ClassId) (hfl : l.flags = pinnedFlags ++ [noTraceFlag]) (ad : Nat → Nat) (o h a n cap : Nat) (f : Nat → Int32) (m mstr mval mrec mout : Nat) (z_run z_steps z_hints z_pas z_told z_wid z_mov : Int32) (p g q ki pl en pb gb qb n0 n1 n2 : Nat) (d1 d2 k : Int32) (hn : n < 2) : TrX l D classes (TY cB cI cJ) gd_tbl nx_tbl str_tbl ad y_CO_take b_CO_take 2 (some .int) ({ frames := 6, cells := 1, slots := 6, locals := 82 }) [.ref o, .int k] [(o, .inr (7, [.ref h, .ref m])), (h, .inr (0, [.ref a, .int (nI n)])), (a, .inl (cB, cap, .inl f)), (m, .inr (6, [.ref mstr, .ref mval, .ref mrec, .ref mout, .int z_run, .int z_steps, .int z_hints, .int z_pas, .int z_told, .int z_wid, .int z_mov])), (mstr, .inr (2, [.ref p, .ref g, .ref q, .ref ki, .ref pl, .ref en, .int d1, .int d2])), (p, .inr (1, [.ref pb, .int (nI n0)])), (g, .inr (1, [.ref gb, .int (nI n1)])), (q, .inr (1, [.ref qb, .int (nI n2)]))] (pI0 (fun r w => ¬ isK k = 0 ∧ r = -2 ∧ w = [(o, .inr (7, [.ref h, .ref m])), (h, .inr (0, [.ref a, .int (nI n)])), (a, .inl (cB, cap, .inl f)), (m, .inr (6, [.ref mstr, .ref mval, .ref mrec, .ref mout, .int z_run, .int z_steps, .int z_hints, .int z_pas, .int z_told, .int z_wid, .int z_mov])), (mstr, .inr (2, [.ref p, .ref g, .ref q, .ref ki, .ref pl, .ref en, .int d1, .int d2])), (p, .inr (1, [.ref pb, .int (nI n0)])), (g, .inr (1, [.ref gb, .int (nI n1)])), (q, .inr (1, [.ref qb, .int (nI n2)]))])) (fun X => X = "java/lang/IllegalArgumentException" ∧ isK k = 0) := by
  refine TrX.intro (by decide +kernel) nx_ok (Nat.le_of_ble_eq_true rfl) ?_
  intro p_ e_ s_ m_ args_ below_ meth_ c_ A_ ls hx hb hml hown hts hr hlk hnm hZ hP hD hS hl hXU hno
  have hl : lv_has ls 2 [(0, .ref o), (1, .int k)] := hl
  refine lv_iload_n hx hb d_CO_take_0 rfl (lv_at hl 1 rfl) ?_
  refine roS (As := [.int k]) (rest := []) ⟨hx, hb, hml, hown, hts⟩ gd_good (c_CO_isKind l D cB cI cJ k) cal_CO_isKind ml_CO_53 ⟨Nat.le_of_ble_eq_true rfl, Nat.le_of_ble_eq_true rfl⟩ hZ hP hD (isC := []) ⟨rfl, rfl⟩ rfl hl.1 rfl (Nat.le_of_ble_eq_true rfl) d_CO_take_1 ⟨Nat.le_of_ble_eq_true rfl, Nat.le_of_ble_eq_true rfl⟩ (fun v hv => ?_)
  subst hv
  refine lv_if_ne (tgt := 17) hx hb d_CO_take_4 (by decide) (fun c_4 => ?_) (fun c_4 => ?_)
  · by_cases hk1 : k = 1
    · subst hk1
      refine lv_aload_n hx hb d_CO_take_17 rfl (lv_at hl 0 rfl) ?_
      refine va_get (D := D) (ci := 7) (v := .ref m) (C := R_CO) (T := F_CO) (N := 2) hx hb hts i_CO hown hZ.1 hP 0 rfl rfl 1 (by decide) (hts _ fl_CO_19) (fun _ h9 => h9) rfl d_CO_take_18 ?_
      refine lv_iload_n hx hb d_CO_take_21 rfl (lv_at hl 1 rfl) ?_
      refine roV (As := [.int 1]) (rest := []) ⟨hx, hb, hml, hown, hts⟩ gd_good (c_Ma_shelf l D cB cI cJ m mstr mval mrec mout z_run z_steps z_hints z_pas z_told z_wid z_mov p g q ki pl en d1 d2 1) cal_Ma_shelf ml_CO_59 ⟨Nat.le_of_ble_eq_true rfl, Nat.le_of_ble_eq_true rfl⟩ hZ hP hD (isC := [3, 4]) ⟨rfl, rfl⟩ 3 (ci := 6) rfl rfl rfl rfl hl.1 rfl (Nat.le_of_ble_eq_true rfl) d_CO_take_22 ⟨Nat.le_of_ble_eq_true rfl, Nat.le_of_ble_eq_true rfl⟩ (fun v hv => ?_)
      have hv : v = .ref g := hv
      subst hv
      refine lv_aload_n hx hb d_CO_take_25 rfl (lv_at hl 0 rfl) ?_
      refine va_get (D := D) (ci := 7) (v := .ref h) (C := R_CO) (T := F_CO) (N := 2) hx hb hts i_CO hown hZ.1 hP 0 rfl rfl 0 (by decide) (hts _ fl_CO_10) (fun _ h9 => h9) rfl d_CO_take_26 ?_
      refine roV (As := [.ref h]) (rest := []) ⟨hx, hb, hml, hown, hts⟩ gd_good (c_Sh_fill_short l D cB cI cJ g gb (nI n1) h a n cap f (by omega)) cal_Sh_fill ml_CO_63 ⟨Nat.le_of_ble_eq_true rfl, Nat.le_of_ble_eq_true rfl⟩ hZ hP hD (isC := [6, 1, 2]) ⟨rfl, rfl⟩ 6 (ci := 1) rfl rfl rfl rfl hl.1 rfl (Nat.le_of_ble_eq_true rfl) d_CO_take_29 ⟨Nat.le_of_ble_eq_true rfl, Nat.le_of_ble_eq_true rfl⟩ (fun v hv => ?_)
      subst hv
      exact x_ret (t_iret hx hb hr hlk d_CO_take_32 hP hD hS ⟨_, rfl, rfl, rfl, c_4, rfl, rfl⟩)
    by_cases hk2 : k = 2
    · subst hk2
      refine lv_aload_n hx hb d_CO_take_17 rfl (lv_at hl 0 rfl) ?_
      refine va_get (D := D) (ci := 7) (v := .ref m) (C := R_CO) (T := F_CO) (N := 2) hx hb hts i_CO hown hZ.1 hP 0 rfl rfl 1 (by decide) (hts _ fl_CO_19) (fun _ h9 => h9) rfl d_CO_take_18 ?_
      refine lv_iload_n hx hb d_CO_take_21 rfl (lv_at hl 1 rfl) ?_
      refine roV (As := [.int 2]) (rest := []) ⟨hx, hb, hml, hown, hts⟩ gd_good (c_Ma_shelf l D cB cI cJ m mstr mval mrec mout z_run z_steps z_hints z_pas z_told z_wid z_mov p g q ki pl en d1 d2 2) cal_Ma_shelf ml_CO_59 ⟨Nat.le_of_ble_eq_true rfl, Nat.le_of_ble_eq_true rfl⟩ hZ hP hD (isC := [3, 4]) ⟨rfl, rfl⟩ 3 (ci := 6) rfl rfl rfl rfl hl.1 rfl (Nat.le_of_ble_eq_true rfl) d_CO_take_22 ⟨Nat.le_of_ble_eq_true rfl, Nat.le_of_ble_eq_true rfl⟩ (fun v hv => ?_)
      have hv : v = .ref q := hv
      subst hv
      refine lv_aload_n hx hb d_CO_take_25 rfl (lv_at hl 0 rfl) ?_
      refine va_get (D := D) (ci := 7) (v := .ref h) (C := R_CO) (T := F_CO) (N := 2) hx hb hts i_CO hown hZ.1 hP 0 rfl rfl 0 (by decide) (hts _ fl_CO_10) (fun _ h9 => h9) rfl d_CO_take_26 ?_
      refine roV (As := [.ref h]) (rest := []) ⟨hx, hb, hml, hown, hts⟩ gd_good (c_Sh_fill_short l D cB cI cJ q qb (nI n2) h a n cap f (by omega)) cal_Sh_fill ml_CO_63 ⟨Nat.le_of_ble_eq_true rfl, Nat.le_of_ble_eq_true rfl⟩ hZ hP hD (isC := [7, 1, 2]) ⟨rfl, rfl⟩ 7 (ci := 1) rfl rfl rfl rfl hl.1 rfl (Nat.le_of_ble_eq_true rfl) d_CO_take_29 ⟨Nat.le_of_ble_eq_true rfl, Nat.le_of_ble_eq_true rfl⟩ (fun v hv => ?_)
      subst hv
      exact x_ret (t_iret hx hb hr hlk d_CO_take_32 hP hD hS ⟨_, rfl, rfl, rfl, c_4, rfl, rfl⟩)
    obtain rfl := kind0 c_4 hk1 hk2
    refine lv_aload_n hx hb d_CO_take_17 rfl (lv_at hl 0 rfl) ?_
    refine va_get (D := D) (ci := 7) (v := .ref m) (C := R_CO) (T := F_CO) (N := 2) hx hb hts i_CO hown hZ.1 hP 0 rfl rfl 1 (by decide) (hts _ fl_CO_19) (fun _ h9 => h9) rfl d_CO_take_18 ?_
    refine lv_iload_n hx hb d_CO_take_21 rfl (lv_at hl 1 rfl) ?_
    refine roV (As := [.int 0]) (rest := []) ⟨hx, hb, hml, hown, hts⟩ gd_good (c_Ma_shelf l D cB cI cJ m mstr mval mrec mout z_run z_steps z_hints z_pas z_told z_wid z_mov p g q ki pl en d1 d2 0) cal_Ma_shelf ml_CO_59 ⟨Nat.le_of_ble_eq_true rfl, Nat.le_of_ble_eq_true rfl⟩ hZ hP hD (isC := [3, 4]) ⟨rfl, rfl⟩ 3 (ci := 6) rfl rfl rfl rfl hl.1 rfl (Nat.le_of_ble_eq_true rfl) d_CO_take_22 ⟨Nat.le_of_ble_eq_true rfl, Nat.le_of_ble_eq_true rfl⟩ (fun v hv => ?_)
    have hv : v = .ref p := hv
    subst hv
    refine lv_aload_n hx hb d_CO_take_25 rfl (lv_at hl 0 rfl) ?_
    refine va_get (D := D) (ci := 7) (v := .ref h) (C := R_CO) (T := F_CO) (N := 2) hx hb hts i_CO hown hZ.1 hP 0 rfl rfl 0 (by decide) (hts _ fl_CO_10) (fun _ h9 => h9) rfl d_CO_take_26 ?_
    refine roV (As := [.ref h]) (rest := []) ⟨hx, hb, hml, hown, hts⟩ gd_good (c_Sh_fill_short l D cB cI cJ p pb (nI n0) h a n cap f (by omega)) cal_Sh_fill ml_CO_63 ⟨Nat.le_of_ble_eq_true rfl, Nat.le_of_ble_eq_true rfl⟩ hZ hP hD (isC := [5, 1, 2]) ⟨rfl, rfl⟩ 5 (ci := 1) rfl rfl rfl rfl hl.1 rfl (Nat.le_of_ble_eq_true rfl) d_CO_take_29 ⟨Nat.le_of_ble_eq_true rfl, Nat.le_of_ble_eq_true rfl⟩ (fun v hv => ?_)
    subst hv
    exact x_ret (t_iret hx hb hr hlk d_CO_take_32 hP hD hS ⟨_, rfl, rfl, rfl, c_4, rfl, rfl⟩)
  · exact x_throw hfl hx hb (by rw [hml]; exact hl.1.symm) hlk hown (by decide +kernel) (by decide +kernel) (xat_IA hts hZ.2.1 hXU ml_CO_42) (hts _ cl_CO_38) (hts _ xin_IA) (hXU.2.2.1 _ (List.mem_of_getElem? (i := 3) rfl)) hno (Nat.le_of_ble_eq_true rfl) (Nat.le_of_ble_eq_true rfl) (Nat.le_of_ble_eq_true rfl) (Nat.le_of_ble_eq_true rfl) ⟨rfl, c_4⟩ d_CO_take_7 d_CO_take_10 d_CO_take_11 d_CO_take_13 d_CO_take_16
set_option maxHeartbeats 1000000 in
set_option maxRecDepth 100000 in
theorem c_CO_count (l : Launch) (D : va_G) (cB cI cJ : ClassId) (hfl : l.flags = pinnedFlags ++ [noTraceFlag]) (ad : Nat → Nat) (o h a n cap : Nat) (f : Nat → Int32) (m mstr mval mrec mout : Nat) (z_run z_steps z_hints z_pas z_told z_wid z_mov : Int32) (p g q ki pl en pb gb qb n0 n1 n2 : Nat) (d1 d2 k : Int32) : TrX l D classes (TY cB cI cJ) gd_tbl nx_tbl str_tbl ad y_CO_count b_CO_count 2 (some .int) ({ frames := 6, cells := 1, slots := 6, locals := 82 }) [.ref o, .int k] [(o, .inr (7, [.ref h, .ref m])), (h, .inr (0, [.ref a, .int (nI n)])), (a, .inl (cB, cap, .inl f)), (m, .inr (6, [.ref mstr, .ref mval, .ref mrec, .ref mout, .int z_run, .int z_steps, .int z_hints, .int z_pas, .int z_told, .int z_wid, .int z_mov])), (mstr, .inr (2, [.ref p, .ref g, .ref q, .ref ki, .ref pl, .ref en, .int d1, .int d2])), (p, .inr (1, [.ref pb, .int (nI n0)])), (g, .inr (1, [.ref gb, .int (nI n1)])), (q, .inr (1, [.ref qb, .int (nI n2)]))] (pI0 (fun r w => ¬ isK k = 0 ∧ r = nI (selK k n0 n1 n2) ∧ w = [(o, .inr (7, [.ref h, .ref m])), (h, .inr (0, [.ref a, .int (nI n)])), (a, .inl (cB, cap, .inl f)), (m, .inr (6, [.ref mstr, .ref mval, .ref mrec, .ref mout, .int z_run, .int z_steps, .int z_hints, .int z_pas, .int z_told, .int z_wid, .int z_mov])), (mstr, .inr (2, [.ref p, .ref g, .ref q, .ref ki, .ref pl, .ref en, .int d1, .int d2])), (p, .inr (1, [.ref pb, .int (nI n0)])), (g, .inr (1, [.ref gb, .int (nI n1)])), (q, .inr (1, [.ref qb, .int (nI n2)]))])) (fun X => X = "java/lang/IllegalArgumentException" ∧ isK k = 0) := by
  refine TrX.intro (by decide +kernel) nx_ok (Nat.le_of_ble_eq_true rfl) ?_
  intro p_ e_ s_ m_ args_ below_ meth_ c_ A_ ls hx hb hml hown hts hr hlk hnm hZ hP hD hS hl hXU hno
  have hl : lv_has ls 2 [(0, .ref o), (1, .int k)] := hl
  refine lv_iload_n hx hb d_CO_count_0 rfl (lv_at hl 1 rfl) ?_
  refine roS (As := [.int k]) (rest := []) ⟨hx, hb, hml, hown, hts⟩ gd_good (c_CO_isKind l D cB cI cJ k) cal_CO_isKind ml_CO_53 ⟨Nat.le_of_ble_eq_true rfl, Nat.le_of_ble_eq_true rfl⟩ hZ hP hD (isC := []) ⟨rfl, rfl⟩ rfl hl.1 rfl (Nat.le_of_ble_eq_true rfl) d_CO_count_1 ⟨Nat.le_of_ble_eq_true rfl, Nat.le_of_ble_eq_true rfl⟩ (fun v hv => ?_)
  subst hv
  refine lv_if_ne (tgt := 17) hx hb d_CO_count_4 (by decide) (fun c_4 => ?_) (fun c_4 => ?_)
  · by_cases hk1 : k = 1
    · subst hk1
      refine lv_aload_n hx hb d_CO_count_17 rfl (lv_at hl 0 rfl) ?_
      refine va_get (D := D) (ci := 7) (v := .ref m) (C := R_CO) (T := F_CO) (N := 2) hx hb hts i_CO hown hZ.1 hP 0 rfl rfl 1 (by decide) (hts _ fl_CO_19) (fun _ h9 => h9) rfl d_CO_count_18 ?_
      refine lv_iload_n hx hb d_CO_count_21 rfl (lv_at hl 1 rfl) ?_
      refine roV (As := [.int 1]) (rest := []) ⟨hx, hb, hml, hown, hts⟩ gd_good (c_Ma_shelf l D cB cI cJ m mstr mval mrec mout z_run z_steps z_hints z_pas z_told z_wid z_mov p g q ki pl en d1 d2 1) cal_Ma_shelf ml_CO_59 ⟨Nat.le_of_ble_eq_true rfl, Nat.le_of_ble_eq_true rfl⟩ hZ hP hD (isC := [3, 4]) ⟨rfl, rfl⟩ 3 (ci := 6) rfl rfl rfl rfl hl.1 rfl (Nat.le_of_ble_eq_true rfl) d_CO_count_22 ⟨Nat.le_of_ble_eq_true rfl, Nat.le_of_ble_eq_true rfl⟩ (fun v hv => ?_)
      have hv : v = .ref g := hv
      subst hv
      refine roV (As := []) (rest := []) ⟨hx, hb, hml, hown, hts⟩ gd_good (c_Sh_strings l D cB cI cJ g gb n1) cal_Sh_strings ml_CO_94 ⟨Nat.le_of_ble_eq_true rfl, Nat.le_of_ble_eq_true rfl⟩ hZ hP hD (isC := [6]) ⟨rfl, rfl⟩ 6 (ci := 1) rfl rfl rfl rfl hl.1 rfl (Nat.le_of_ble_eq_true rfl) d_CO_count_25 ⟨Nat.le_of_ble_eq_true rfl, Nat.le_of_ble_eq_true rfl⟩ (fun v hv => ?_)
      subst hv
      exact x_ret (t_iret hx hb hr hlk d_CO_count_28 hP hD hS ⟨_, rfl, rfl, rfl, c_4, rfl, rfl⟩)
    by_cases hk2 : k = 2
    · subst hk2
      refine lv_aload_n hx hb d_CO_count_17 rfl (lv_at hl 0 rfl) ?_
      refine va_get (D := D) (ci := 7) (v := .ref m) (C := R_CO) (T := F_CO) (N := 2) hx hb hts i_CO hown hZ.1 hP 0 rfl rfl 1 (by decide) (hts _ fl_CO_19) (fun _ h9 => h9) rfl d_CO_count_18 ?_
      refine lv_iload_n hx hb d_CO_count_21 rfl (lv_at hl 1 rfl) ?_
      refine roV (As := [.int 2]) (rest := []) ⟨hx, hb, hml, hown, hts⟩ gd_good (c_Ma_shelf l D cB cI cJ m mstr mval mrec mout z_run z_steps z_hints z_pas z_told z_wid z_mov p g q ki pl en d1 d2 2) cal_Ma_shelf ml_CO_59 ⟨Nat.le_of_ble_eq_true rfl, Nat.le_of_ble_eq_true rfl⟩ hZ hP hD (isC := [3, 4]) ⟨rfl, rfl⟩ 3 (ci := 6) rfl rfl rfl rfl hl.1 rfl (Nat.le_of_ble_eq_true rfl) d_CO_count_22 ⟨Nat.le_of_ble_eq_true rfl, Nat.le_of_ble_eq_true rfl⟩ (fun v hv => ?_)
      have hv : v = .ref q := hv
      subst hv
      refine roV (As := []) (rest := []) ⟨hx, hb, hml, hown, hts⟩ gd_good (c_Sh_strings l D cB cI cJ q qb n2) cal_Sh_strings ml_CO_94 ⟨Nat.le_of_ble_eq_true rfl, Nat.le_of_ble_eq_true rfl⟩ hZ hP hD (isC := [7]) ⟨rfl, rfl⟩ 7 (ci := 1) rfl rfl rfl rfl hl.1 rfl (Nat.le_of_ble_eq_true rfl) d_CO_count_25 ⟨Nat.le_of_ble_eq_true rfl, Nat.le_of_ble_eq_true rfl⟩ (fun v hv => ?_)
      subst hv
      exact x_ret (t_iret hx hb hr hlk d_CO_count_28 hP hD hS ⟨_, rfl, rfl, rfl, c_4, rfl, rfl⟩)
    obtain rfl := kind0 c_4 hk1 hk2
    refine lv_aload_n hx hb d_CO_count_17 rfl (lv_at hl 0 rfl) ?_
    refine va_get (D := D) (ci := 7) (v := .ref m) (C := R_CO) (T := F_CO) (N := 2) hx hb hts i_CO hown hZ.1 hP 0 rfl rfl 1 (by decide) (hts _ fl_CO_19) (fun _ h9 => h9) rfl d_CO_count_18 ?_
    refine lv_iload_n hx hb d_CO_count_21 rfl (lv_at hl 1 rfl) ?_
    refine roV (As := [.int 0]) (rest := []) ⟨hx, hb, hml, hown, hts⟩ gd_good (c_Ma_shelf l D cB cI cJ m mstr mval mrec mout z_run z_steps z_hints z_pas z_told z_wid z_mov p g q ki pl en d1 d2 0) cal_Ma_shelf ml_CO_59 ⟨Nat.le_of_ble_eq_true rfl, Nat.le_of_ble_eq_true rfl⟩ hZ hP hD (isC := [3, 4]) ⟨rfl, rfl⟩ 3 (ci := 6) rfl rfl rfl rfl hl.1 rfl (Nat.le_of_ble_eq_true rfl) d_CO_count_22 ⟨Nat.le_of_ble_eq_true rfl, Nat.le_of_ble_eq_true rfl⟩ (fun v hv => ?_)
    have hv : v = .ref p := hv
    subst hv
    refine roV (As := []) (rest := []) ⟨hx, hb, hml, hown, hts⟩ gd_good (c_Sh_strings l D cB cI cJ p pb n0) cal_Sh_strings ml_CO_94 ⟨Nat.le_of_ble_eq_true rfl, Nat.le_of_ble_eq_true rfl⟩ hZ hP hD (isC := [5]) ⟨rfl, rfl⟩ 5 (ci := 1) rfl rfl rfl rfl hl.1 rfl (Nat.le_of_ble_eq_true rfl) d_CO_count_25 ⟨Nat.le_of_ble_eq_true rfl, Nat.le_of_ble_eq_true rfl⟩ (fun v hv => ?_)
    subst hv
    exact x_ret (t_iret hx hb hr hlk d_CO_count_28 hP hD hS ⟨_, rfl, rfl, rfl, c_4, rfl, rfl⟩)
  · exact x_throw hfl hx hb (by rw [hml]; exact hl.1.symm) hlk hown (by decide +kernel) (by decide +kernel) (xat_IA hts hZ.2.1 hXU ml_CO_42) (hts _ cl_CO_38) (hts _ xin_IA) (hXU.2.2.1 _ (List.mem_of_getElem? (i := 3) rfl)) hno (Nat.le_of_ble_eq_true rfl) (Nat.le_of_ble_eq_true rfl) (Nat.le_of_ble_eq_true rfl) (Nat.le_of_ble_eq_true rfl) ⟨rfl, c_4⟩ d_CO_count_7 d_CO_count_10 d_CO_count_11 d_CO_count_13 d_CO_count_16
set_option maxHeartbeats 1000000 in
set_option maxRecDepth 100000 in
theorem c_CO_run_none (l : Launch) (D : va_G) (cB cI cJ : ClassId) (hfl : l.flags = pinnedFlags ++ [noTraceFlag]) (ad : Nat → Nat) (o h a n cap : Nat) (f : Nat → Int32) (m mstr mval mrec mout : Nat) (z_run z_steps z_hints z_pas z_told z_wid z_mov : Int32) (p g q ki pl en pb gb qb n0 n1 n2 : Nat) (d1 d2 k : Int32) (h0 : n0 = 0) : TrX l D classes (TY cB cI cJ) gd_tbl nx_tbl str_tbl ad y_CO_run b_CO_run 2 (some .int) ({ frames := 6, cells := 1, slots := 6, locals := 82 }) [.ref o, .int k] [(o, .inr (7, [.ref h, .ref m])), (h, .inr (0, [.ref a, .int (nI n)])), (a, .inl (cB, cap, .inl f)), (m, .inr (6, [.ref mstr, .ref mval, .ref mrec, .ref mout, .int z_run, .int z_steps, .int z_hints, .int z_pas, .int z_told, .int z_wid, .int z_mov])), (mstr, .inr (2, [.ref p, .ref g, .ref q, .ref ki, .ref pl, .ref en, .int d1, .int d2])), (p, .inr (1, [.ref pb, .int (nI n0)])), (g, .inr (1, [.ref gb, .int (nI n1)])), (q, .inr (1, [.ref qb, .int (nI n2)]))] (pI0 (fun r w => False)) (fun X => X = "java/lang/IndexOutOfBoundsException") := by
  refine TrX.intro (by decide +kernel) nx_ok (Nat.le_of_ble_eq_true rfl) ?_
  intro p_ e_ s_ m_ args_ below_ meth_ c_ A_ ls hx hb hml hown hts hr hlk hnm hZ hP hD hS hl hXU hno
  have hl : lv_has ls 2 [(0, .ref o), (1, .int k)] := hl
  refine lv_aload_n hx hb d_CO_run_0 rfl (lv_at hl 0 rfl) ?_
  refine va_get (D := D) (ci := 7) (v := .ref m) (C := R_CO) (T := F_CO) (N := 2) hx hb hts i_CO hown hZ.1 hP 0 rfl rfl 1 (by decide) (hts _ fl_CO_19) (fun _ h9 => h9) rfl d_CO_run_1 ?_
  refine lv_iconst (v := 0) hx hb d_CO_run_4 (by decide) ?_
  refine roV (As := [.int 0]) (rest := []) ⟨hx, hb, hml, hown, hts⟩ gd_good (c_Ma_shelf l D cB cI cJ m mstr mval mrec mout z_run z_steps z_hints z_pas z_told z_wid z_mov p g q ki pl en d1 d2 0) cal_Ma_shelf ml_CO_59 ⟨Nat.le_of_ble_eq_true rfl, Nat.le_of_ble_eq_true rfl⟩ hZ hP hD (isC := [3, 4]) ⟨rfl, rfl⟩ 3 (ci := 6) rfl rfl rfl rfl hl.1 rfl (Nat.le_of_ble_eq_true rfl) d_CO_run_5 ⟨Nat.le_of_ble_eq_true rfl, Nat.le_of_ble_eq_true rfl⟩ (fun v hv => ?_)
  have hv : v = .ref p := hv
  subst hv
  refine lv_iload_n hx hb d_CO_run_8 rfl (lv_at hl 1 rfl) ?_
  refine roV (As := [.int k]) (rest := []) ⟨hx, hb, hml, hown, hts⟩ gd_good (c_Sh_has l D cB cI cJ p pb n0 k) cal_Sh_has ml_CO_69 ⟨Nat.le_of_ble_eq_true rfl, Nat.le_of_ble_eq_true rfl⟩ hZ hP hD (isC := [5]) ⟨rfl, rfl⟩ 5 (ci := 1) rfl rfl rfl rfl hl.1 rfl (Nat.le_of_ble_eq_true rfl) d_CO_run_9 ⟨Nat.le_of_ble_eq_true rfl, Nat.le_of_ble_eq_true rfl⟩ (fun v hv => ?_)
  subst hv
  refine lv_if_ne (tgt := 25) hx hb d_CO_run_12 (by decide) (fun c_12 => absurd c_12 (fun z => z (hasS0 h0))) (fun c_12 => ?_)
  exact x_throw hfl hx hb (by rw [hml]; exact hl.1.symm) hlk hown (by decide +kernel) (by decide +kernel) (xat_IO hts hZ.2.1 hXU ml_CO_35) (hts _ cl_CO_31) (hts _ xin_IO) (hXU.2.2.1 _ (List.mem_of_getElem? (i := 4) rfl)) hno (Nat.le_of_ble_eq_true rfl) (Nat.le_of_ble_eq_true rfl) (Nat.le_of_ble_eq_true rfl) (Nat.le_of_ble_eq_true rfl) rfl d_CO_run_15 d_CO_run_18 d_CO_run_19 d_CO_run_21 d_CO_run_24
set_option maxHeartbeats 1000000 in
set_option maxRecDepth 100000 in
theorem c_Ou_has (l : Launch) (D : va_G) (cB cI cJ : ClassId) (h ra n : Nat) (x y : Int32) (i w : Int32) : Ro l D classes (TY cB cI cJ) gd_tbl nx_tbl y_Ou_has b_Ou_has 3 (some .boolean) ({ frames := 0, cells := 0, slots := 0, locals := 0 }) [.ref h, .int i, .int w] [(h, .inr (4, [.ref ra, .int (nI n), .int x, .int y]))] (fun v => v = .int (hasO n i w)) := by
  refine Ro.intro (by decide +kernel) nx_ok (Nat.le_of_ble_eq_true rfl) ?_
  intro p_ e_ s_ m_ args_ below_ meth_ c_ A_ ls hx hb hml hown hts hr hlk hnm hZ hP hD hl
  have hl : lv_has ls 3 [(0, .ref h), (1, .int i), (2, .int w)] := hl
  refine lv_iload_n hx hb d_Ou_has_0 rfl (lv_at hl 1 rfl) ?_
  refine lv_if_lt (tgt := 26) hx hb d_Ou_has_1 (by decide) (fun c_1 => ?_) (fun c_1 => ?_)
  · refine lv_iconst (v := 0) hx hb d_Ou_has_26 (by decide) ?_
    exact r_zret hx hb hr hlk (by decide) d_Ou_has_27 (by simp [hasO, c_1])
  · refine lv_iload_n hx hb d_Ou_has_4 rfl (lv_at hl 1 rfl) ?_
    refine lv_aload_n hx hb d_Ou_has_5 rfl (lv_at hl 0 rfl) ?_
    refine va_get (D := D) (ci := 4) (v := .int (nI n)) (C := R_Ou) (T := F_Ou) (N := 4) hx hb hts i_Ou hown hZ.1 hP 0 rfl rfl 1 (by decide) (hts _ fl_Ou_15) (fun _ h9 => h9) rfl d_Ou_has_6 ?_
    refine lv_icmp_ge (tgt := 26) hx hb d_Ou_has_9 (by decide) (fun c_9 => ?_) (fun c_9 => ?_)
    · refine lv_iconst (v := 0) hx hb d_Ou_has_26 (by decide) ?_
      exact r_zret hx hb hr hlk (by decide) d_Ou_has_27 (by simp [hasO, c_1, c_9])
    · refine lv_iload_n hx hb d_Ou_has_12 rfl (lv_at hl 2 rfl) ?_
      refine lv_if_lt (tgt := 26) hx hb d_Ou_has_13 (by decide) (fun c_13 => ?_) (fun c_13 => ?_)
      · refine lv_iconst (v := 0) hx hb d_Ou_has_26 (by decide) ?_
        exact r_zret hx hb hr hlk (by decide) d_Ou_has_27 (by simp [hasO, c_1, c_9, c_13])
      · refine lv_iload_n hx hb d_Ou_has_16 rfl (lv_at hl 2 rfl) ?_
        refine lv_bipush (v := 7) hx hb d_Ou_has_17 (by decide) ?_
        refine lv_icmp_ge (tgt := 26) hx hb d_Ou_has_19 (by decide) (fun c_19 => ?_) (fun c_19 => ?_)
        · refine lv_iconst (v := 0) hx hb d_Ou_has_26 (by decide) ?_
          exact r_zret hx hb hr hlk (by decide) d_Ou_has_27 (by simp [hasO, c_1, c_9, c_13, c_19])
        · refine lv_iconst (v := 1) hx hb d_Ou_has_22 (by decide) ?_
          refine lv_goto (tgt := 27) hx hb d_Ou_has_23 (by decide) ?_
          exact r_zret hx hb hr hlk (by decide) d_Ou_has_27 (by simp [hasO, c_1, c_9, c_13, c_19])
set_option maxHeartbeats 1000000 in
set_option maxRecDepth 100000 in
theorem c_CO_mark_none (l : Launch) (D : va_G) (cB cI cJ : ClassId) (hfl : l.flags = pinnedFlags ++ [noTraceFlag]) (ad : Nat → Nat) (o h : Nat) (m mstr mval mrec mout : Nat) (z_run z_steps z_hints z_pas z_told z_wid z_mov : Int32) (ra n : Nat) (x y i w : Int32) (h0 : n = 0) : TrX l D classes (TY cB cI cJ) gd_tbl nx_tbl str_tbl ad y_CO_mark b_CO_mark 3 (some .int) ({ frames := 6, cells := 1, slots := 6, locals := 82 }) [.ref o, .int i, .int w] [(o, .inr (7, [.ref h, .ref m])), (m, .inr (6, [.ref mstr, .ref mval, .ref mrec, .ref mout, .int z_run, .int z_steps, .int z_hints, .int z_pas, .int z_told, .int z_wid, .int z_mov])), (mout, .inr (4, [.ref ra, .int (nI n), .int x, .int y]))] (pI0 (fun r w => False)) (fun X => X = "java/lang/IndexOutOfBoundsException") := by
  refine TrX.intro (by decide +kernel) nx_ok (Nat.le_of_ble_eq_true rfl) ?_
  intro p_ e_ s_ m_ args_ below_ meth_ c_ A_ ls hx hb hml hown hts hr hlk hnm hZ hP hD hS hl hXU hno
  have hl : lv_has ls 3 [(0, .ref o), (1, .int i), (2, .int w)] := hl
  refine lv_aload_n hx hb d_CO_mark_0 rfl (lv_at hl 0 rfl) ?_
  refine va_get (D := D) (ci := 7) (v := .ref m) (C := R_CO) (T := F_CO) (N := 2) hx hb hts i_CO hown hZ.1 hP 0 rfl rfl 1 (by decide) (hts _ fl_CO_19) (fun _ h9 => h9) rfl d_CO_mark_1 ?_
  refine roV (As := []) (rest := []) ⟨hx, hb, hml, hown, hts⟩ gd_good (c_Ma_outline l D cB cI cJ m mstr mval mrec mout z_run z_steps z_hints z_pas z_told z_wid z_mov) cal_Ma_outline ml_CO_77 ⟨Nat.le_of_ble_eq_true rfl, Nat.le_of_ble_eq_true rfl⟩ hZ hP hD (isC := [1]) ⟨rfl, rfl⟩ 1 (ci := 6) rfl rfl rfl rfl hl.1 rfl (Nat.le_of_ble_eq_true rfl) d_CO_mark_4 ⟨Nat.le_of_ble_eq_true rfl, Nat.le_of_ble_eq_true rfl⟩ (fun v hv => ?_)
  subst hv
  refine lv_iload_n hx hb d_CO_mark_7 rfl (lv_at hl 1 rfl) ?_
  refine lv_iload_n hx hb d_CO_mark_8 rfl (lv_at hl 2 rfl) ?_
  refine roV (As := [.int i, .int w]) (rest := []) ⟨hx, hb, hml, hown, hts⟩ gd_good (c_Ou_has l D cB cI cJ mout ra n x y i w) cal_Ou_has ml_CO_81 ⟨Nat.le_of_ble_eq_true rfl, Nat.le_of_ble_eq_true rfl⟩ hZ hP hD (isC := [2]) ⟨rfl, rfl⟩ 2 (ci := 4) rfl rfl rfl rfl hl.1 rfl (Nat.le_of_ble_eq_true rfl) d_CO_mark_9 ⟨Nat.le_of_ble_eq_true rfl, Nat.le_of_ble_eq_true rfl⟩ (fun v hv => ?_)
  subst hv
  refine lv_if_ne (tgt := 25) hx hb d_CO_mark_12 (by decide) (fun c_12 => absurd c_12 (fun z => z (hasO0 h0))) (fun c_12 => ?_)
  exact x_throw hfl hx hb (by rw [hml]; exact hl.1.symm) hlk hown (by decide +kernel) (by decide +kernel) (xat_IO hts hZ.2.1 hXU ml_CO_35) (hts _ cl_CO_31) (hts _ xin_IO) (hXU.2.2.1 _ (List.mem_of_getElem? (i := 5) rfl)) hno (Nat.le_of_ble_eq_true rfl) (Nat.le_of_ble_eq_true rfl) (Nat.le_of_ble_eq_true rfl) (Nat.le_of_ble_eq_true rfl) rfl d_CO_mark_15 d_CO_mark_18 d_CO_mark_19 d_CO_mark_21 d_CO_mark_24
set_option maxHeartbeats 1000000 in
set_option maxRecDepth 100000 in
theorem c_Ma_told_none (l : Launch) (D : va_G) (cB cI cJ : ClassId) (m mstr mval mrec mout : Nat) (z_steps z_hints z_pas z_told z_wid z_mov : Int32) (w : Int32) : Ro l D classes (TY cB cI cJ) gd_tbl nx_tbl y_Ma_told b_Ma_told 2 (some .int) ({ frames := 0, cells := 0, slots := 0, locals := 0 }) [.ref m, .int w] [(m, .inr (6, [.ref mstr, .ref mval, .ref mrec, .ref mout, .int 0, .int z_steps, .int z_hints, .int z_pas, .int z_told, .int z_wid, .int z_mov]))] (fun v => v = .int (-1)) := by
  refine Ro.intro (by decide +kernel) nx_ok (Nat.le_of_ble_eq_true rfl) ?_
  intro p_ e_ s_ m_ args_ below_ meth_ c_ A_ ls hx hb hml hown hts hr hlk hnm hZ hP hD hl
  have hl : lv_has ls 2 [(0, .ref m), (1, .int w)] := hl
  refine lv_aload_n hx hb d_Ma_told_0 rfl (lv_at hl 0 rfl) ?_
  refine va_get (D := D) (ci := 6) (v := .int 0) (C := R_Ma) (T := F_Ma) (N := 11) hx hb hts i_Ma hown hZ.1 hP 0 rfl rfl 4 (by decide) (hts _ fl_Ma_43) (fun _ h9 => h9) rfl d_Ma_told_1 ?_
  refine lv_if_ne (tgt := 9) hx hb d_Ma_told_4 (by decide) (fun c_4 => absurd c_4 (by decide)) (fun c_4 => ?_)
  clear c_4
  refine lv_iconst (v := (-1)) hx hb d_Ma_told_7 (by decide) ?_
  exact r_iret hx hb hr hlk d_Ma_told_8 rfl
set_option maxHeartbeats 1000000 in
set_option maxRecDepth 100000 in
theorem c_CO_last_none (l : Launch) (D : va_G) (cB cI cJ : ClassId) (o h : Nat) (m mstr mval mrec mout : Nat) (z_steps z_hints z_pas z_told z_wid z_mov : Int32) (w : Int32) : Ro l D classes (TY cB cI cJ) gd_tbl nx_tbl y_CO_last b_CO_last 2 (some .int) ({ frames := 1, cells := 0, slots := 0, locals := 21 }) [.ref o, .int w] [(o, .inr (7, [.ref h, .ref m])), (m, .inr (6, [.ref mstr, .ref mval, .ref mrec, .ref mout, .int 0, .int z_steps, .int z_hints, .int z_pas, .int z_told, .int z_wid, .int z_mov]))] (fun v => v = .int (-1)) := by
  refine Ro.intro (by decide +kernel) nx_ok (Nat.le_of_ble_eq_true rfl) ?_
  intro p_ e_ s_ m_ args_ below_ meth_ c_ A_ ls hx hb hml hown hts hr hlk hnm hZ hP hD hl
  have hl : lv_has ls 2 [(0, .ref o), (1, .int w)] := hl
  refine lv_aload_n hx hb d_CO_last_0 rfl (lv_at hl 0 rfl) ?_
  refine va_get (D := D) (ci := 7) (v := .ref m) (C := R_CO) (T := F_CO) (N := 2) hx hb hts i_CO hown hZ.1 hP 0 rfl rfl 1 (by decide) (hts _ fl_CO_19) (fun _ h9 => h9) rfl d_CO_last_1 ?_
  refine lv_iload_n hx hb d_CO_last_4 rfl (lv_at hl 1 rfl) ?_
  refine roV (As := [.int w]) (rest := []) ⟨hx, hb, hml, hown, hts⟩ gd_good (c_Ma_told_none l D cB cI cJ m mstr mval mrec mout z_steps z_hints z_pas z_told z_wid z_mov w) cal_Ma_told ml_CO_91 ⟨Nat.le_of_ble_eq_true rfl, Nat.le_of_ble_eq_true rfl⟩ hZ hP hD (isC := [1]) ⟨rfl, rfl⟩ 1 (ci := 6) rfl rfl rfl rfl hl.1 rfl (Nat.le_of_ble_eq_true rfl) d_CO_last_5 ⟨Nat.le_of_ble_eq_true rfl, Nat.le_of_ble_eq_true rfl⟩ (fun v hv => ?_)
  subst hv
  exact r_iret hx hb hr hlk d_CO_last_8 rfl
end
section
theorem pk_m0 (x : Int32) : x - 0 = x := by simp
theorem pk_s2 {n j : Nat} (h : j ≤ n) : nI n - nI (n - j) = nI j := by
  rw [pk_sub (by omega)]
  congr 1
  omega
theorem isK_hi {k : Int32} (h : ¬ k ≤ 2) : isK k = 0 := by
  unfold isK
  rw [if_pos (Int32.not_le.mp h)]
  simp
theorem isK_ok {k : Int32} (h1 : ¬ k < 0) (h2 : k ≤ 2) : ¬ isK k = 0 := by
  unfold isK
  rw [if_neg h1, if_neg (Int32.not_lt.mpr h2)]
  decide
theorem in_3 {k : Int32} (h1 : ¬ k < 0) (h2 : k ≤ 2) : vp_in k 3 := by
  obtain ⟨j, hj, rfl⟩ := nI_of h1
  have : j ≤ 2 := (nI_leI hj (by omega : 2 < 2 ^ 31)).mp h2
  exact vp_in_nI (by omega) (by omega)
abbrev b_Mo_thrown : ByteArray := prog_12_method_2_code
abbrev y_Mo_thrown : MethodName := ⟨"CharOutlinesModel", "thrown", "()I"⟩
set_option maxRecDepth 100000 in
theorem cal_Mo_thrown : CalV gd_tbl "CharOutlinesModel" y_Mo_thrown b_Mo_thrown 1 (some .int) 0 := ⟨⟨List.mem_filter.mpr ⟨List.mem_of_getElem? (i := 842) rfl, rfl⟩, List.mem_filter.mpr ⟨List.mem_of_getElem? (i := 68) rfl, rfl⟩, ⟨by decide, by decide⟩, by decide +kernel⟩, List.mem_filter.mpr ⟨List.mem_of_getElem? (i := 840) rfl, rfl⟩, List.mem_filter.mpr ⟨List.mem_of_getElem? (i := 841) rfl, rfl⟩⟩
theorem d_Mo_thrown_0 : decode b_Mo_thrown 0 = .ok (.aload_n 0, 1) := by decide +kernel
theorem d_Mo_thrown_1 : decode b_Mo_thrown 1 = .ok (.getfield 44, 3) := by decide +kernel
theorem d_Mo_thrown_4 : decode b_Mo_thrown 4 = .ok (.ireturn, 1) := by decide +kernel
abbrev b_Mo_refused : ByteArray := prog_12_method_3_code
abbrev y_Mo_refused : MethodName := ⟨"CharOutlinesModel", "refused", "(I)Z"⟩
set_option maxRecDepth 100000 in
theorem cal_Mo_refused : CalV gd_tbl "CharOutlinesModel" y_Mo_refused b_Mo_refused 2 (some .boolean) 1 := ⟨⟨List.mem_filter.mpr ⟨List.mem_of_getElem? (i := 854) rfl, rfl⟩, List.mem_filter.mpr ⟨List.mem_of_getElem? (i := 68) rfl, rfl⟩, ⟨by decide, by decide⟩, by decide +kernel⟩, List.mem_filter.mpr ⟨List.mem_of_getElem? (i := 853) rfl, rfl⟩, List.mem_filter.mpr ⟨List.mem_of_getElem? (i := 18) rfl, rfl⟩⟩
theorem d_Mo_refused_0 : decode b_Mo_refused 0 = .ok (.aload_n 0, 1) := by decide +kernel
theorem d_Mo_refused_1 : decode b_Mo_refused 1 = .ok (.iload_n 1, 1) := by decide +kernel
theorem d_Mo_refused_2 : decode b_Mo_refused 2 = .ok (.putfield 44, 3) := by decide +kernel
theorem d_Mo_refused_5 : decode b_Mo_refused 5 = .ok (.iload_n 1, 1) := by decide +kernel
theorem d_Mo_refused_6 : decode b_Mo_refused 6 = .ok (.ifCond .le 7, 3) := by decide +kernel
theorem d_Mo_refused_9 : decode b_Mo_refused 9 = .ok (.iconst 1, 1) := by decide +kernel
theorem d_Mo_refused_10 : decode b_Mo_refused 10 = .ok (.goto 4, 3) := by decide +kernel
theorem d_Mo_refused_13 : decode b_Mo_refused 13 = .ok (.iconst 0, 1) := by decide +kernel
theorem d_Mo_refused_14 : decode b_Mo_refused 14 = .ok (.ireturn, 1) := by decide +kernel
abbrev b_Mo_feed : ByteArray := prog_12_method_4_code
abbrev y_Mo_feed : MethodName := ⟨"CharOutlinesModel", "feed", "(IIIII)I"⟩
set_option maxRecDepth 100000 in
theorem cal_Mo_feed : CalV gd_tbl "CharOutlinesModel" y_Mo_feed b_Mo_feed 8 (some .int) 5 := ⟨⟨List.mem_filter.mpr ⟨List.mem_of_getElem? (i := 846) rfl, rfl⟩, List.mem_filter.mpr ⟨List.mem_of_getElem? (i := 68) rfl, rfl⟩, ⟨by decide, by decide⟩, by decide +kernel⟩, List.mem_filter.mpr ⟨List.mem_of_getElem? (i := 844) rfl, rfl⟩, List.mem_filter.mpr ⟨List.mem_of_getElem? (i := 845) rfl, rfl⟩⟩
theorem d_Mo_feed_0 : decode b_Mo_feed 0 = .ok (.aload_n 0, 1) := by decide +kernel
theorem d_Mo_feed_1 : decode b_Mo_feed 1 = .ok (.iconst 0, 1) := by decide +kernel
theorem d_Mo_feed_2 : decode b_Mo_feed 2 = .ok (.putfield 44, 3) := by decide +kernel
theorem d_Mo_feed_5 : decode b_Mo_feed 5 = .ok (.aload_n 0, 1) := by decide +kernel
theorem d_Mo_feed_6 : decode b_Mo_feed 6 = .ok (.getfield 48, 3) := by decide +kernel
theorem d_Mo_feed_9 : decode b_Mo_feed 9 = .ok (.bipush 20, 2) := by decide +kernel
theorem d_Mo_feed_11 : decode b_Mo_feed 11 = .ok (.iadd, 1) := by decide +kernel
theorem d_Mo_feed_12 : decode b_Mo_feed 12 = .ok (.sipush 16384, 3) := by decide +kernel
theorem d_Mo_feed_15 : decode b_Mo_feed 15 = .ok (.if_icmp .le 5, 3) := by decide +kernel
theorem d_Mo_feed_18 : decode b_Mo_feed 18 = .ok (.iconst (-1), 1) := by decide +kernel
theorem d_Mo_feed_19 : decode b_Mo_feed 19 = .ok (.ireturn, 1) := by decide +kernel
theorem d_Mo_feed_20 : decode b_Mo_feed 20 = .ok (.iconst 0, 1) := by decide +kernel
theorem d_Mo_feed_21 : decode b_Mo_feed 21 = .ok (.istore 6, 2) := by decide +kernel
theorem d_Mo_feed_23 : decode b_Mo_feed 23 = .ok (.iload 6, 2) := by decide +kernel
theorem d_Mo_feed_25 : decode b_Mo_feed 25 = .ok (.bipush 20, 2) := by decide +kernel
theorem d_Mo_feed_27 : decode b_Mo_feed 27 = .ok (.if_icmp .ge 93, 3) := by decide +kernel
theorem d_Mo_feed_30 : decode b_Mo_feed 30 = .ok (.iload 6, 2) := by decide +kernel
theorem d_Mo_feed_32 : decode b_Mo_feed 32 = .ok (.iconst 4, 1) := by decide +kernel
theorem d_Mo_feed_33 : decode b_Mo_feed 33 = .ok (.if_icmp .ge 7, 3) := by decide +kernel
theorem d_Mo_feed_36 : decode b_Mo_feed 36 = .ok (.iload_n 1, 1) := by decide +kernel
theorem d_Mo_feed_37 : decode b_Mo_feed 37 = .ok (.goto 39, 3) := by decide +kernel
theorem d_Mo_feed_40 : decode b_Mo_feed 40 = .ok (.iload 6, 2) := by decide +kernel
theorem d_Mo_feed_42 : decode b_Mo_feed 42 = .ok (.bipush 8, 2) := by decide +kernel
theorem d_Mo_feed_44 : decode b_Mo_feed 44 = .ok (.if_icmp .ge 7, 3) := by decide +kernel
theorem d_Mo_feed_47 : decode b_Mo_feed 47 = .ok (.iload_n 2, 1) := by decide +kernel
theorem d_Mo_feed_48 : decode b_Mo_feed 48 = .ok (.goto 28, 3) := by decide +kernel
theorem d_Mo_feed_51 : decode b_Mo_feed 51 = .ok (.iload 6, 2) := by decide +kernel
theorem d_Mo_feed_53 : decode b_Mo_feed 53 = .ok (.bipush 12, 2) := by decide +kernel
theorem d_Mo_feed_55 : decode b_Mo_feed 55 = .ok (.if_icmp .ge 7, 3) := by decide +kernel
theorem d_Mo_feed_58 : decode b_Mo_feed 58 = .ok (.iload_n 3, 1) := by decide +kernel
theorem d_Mo_feed_59 : decode b_Mo_feed 59 = .ok (.goto 17, 3) := by decide +kernel
theorem d_Mo_feed_62 : decode b_Mo_feed 62 = .ok (.iload 6, 2) := by decide +kernel
theorem d_Mo_feed_64 : decode b_Mo_feed 64 = .ok (.bipush 16, 2) := by decide +kernel
theorem d_Mo_feed_66 : decode b_Mo_feed 66 = .ok (.if_icmp .ge 8, 3) := by decide +kernel
theorem d_Mo_feed_69 : decode b_Mo_feed 69 = .ok (.iload 4, 2) := by decide +kernel
theorem d_Mo_feed_71 : decode b_Mo_feed 71 = .ok (.goto 5, 3) := by decide +kernel
theorem d_Mo_feed_74 : decode b_Mo_feed 74 = .ok (.iload 5, 2) := by decide +kernel
theorem d_Mo_feed_76 : decode b_Mo_feed 76 = .ok (.istore 7, 2) := by decide +kernel
theorem d_Mo_feed_78 : decode b_Mo_feed 78 = .ok (.aload_n 0, 1) := by decide +kernel
theorem d_Mo_feed_79 : decode b_Mo_feed 79 = .ok (.getfield 7, 3) := by decide +kernel
theorem d_Mo_feed_82 : decode b_Mo_feed 82 = .ok (.aload_n 0, 1) := by decide +kernel
theorem d_Mo_feed_83 : decode b_Mo_feed 83 = .ok (.getfield 48, 3) := by decide +kernel
theorem d_Mo_feed_86 : decode b_Mo_feed 86 = .ok (.iload 7, 2) := by decide +kernel
theorem d_Mo_feed_88 : decode b_Mo_feed 88 = .ok (.bipush 24, 2) := by decide +kernel
theorem d_Mo_feed_90 : decode b_Mo_feed 90 = .ok (.bipush 8, 2) := by decide +kernel
theorem d_Mo_feed_92 : decode b_Mo_feed 92 = .ok (.iload 6, 2) := by decide +kernel
theorem d_Mo_feed_94 : decode b_Mo_feed 94 = .ok (.iconst 4, 1) := by decide +kernel
theorem d_Mo_feed_95 : decode b_Mo_feed 95 = .ok (.irem, 1) := by decide +kernel
theorem d_Mo_feed_96 : decode b_Mo_feed 96 = .ok (.imul, 1) := by decide +kernel
theorem d_Mo_feed_97 : decode b_Mo_feed 97 = .ok (.isub, 1) := by decide +kernel
theorem d_Mo_feed_98 : decode b_Mo_feed 98 = .ok (.ishr, 1) := by decide +kernel
theorem d_Mo_feed_99 : decode b_Mo_feed 99 = .ok (.sipush 255, 3) := by decide +kernel
theorem d_Mo_feed_102 : decode b_Mo_feed 102 = .ok (.iand, 1) := by decide +kernel
theorem d_Mo_feed_103 : decode b_Mo_feed 103 = .ok (.iastore, 1) := by decide +kernel
theorem d_Mo_feed_104 : decode b_Mo_feed 104 = .ok (.aload_n 0, 1) := by decide +kernel
theorem d_Mo_feed_105 : decode b_Mo_feed 105 = .ok (.dup, 1) := by decide +kernel
theorem d_Mo_feed_106 : decode b_Mo_feed 106 = .ok (.getfield 48, 3) := by decide +kernel
theorem d_Mo_feed_109 : decode b_Mo_feed 109 = .ok (.iconst 1, 1) := by decide +kernel
theorem d_Mo_feed_110 : decode b_Mo_feed 110 = .ok (.iadd, 1) := by decide +kernel
theorem d_Mo_feed_111 : decode b_Mo_feed 111 = .ok (.putfield 48, 3) := by decide +kernel
theorem d_Mo_feed_114 : decode b_Mo_feed 114 = .ok (.iinc 6 1, 3) := by decide +kernel
theorem d_Mo_feed_117 : decode b_Mo_feed 117 = .ok (.goto (-94), 3) := by decide +kernel
theorem d_Mo_feed_120 : decode b_Mo_feed 120 = .ok (.aload_n 0, 1) := by decide +kernel
theorem d_Mo_feed_121 : decode b_Mo_feed 121 = .ok (.getfield 48, 3) := by decide +kernel
theorem d_Mo_feed_124 : decode b_Mo_feed 124 = .ok (.ireturn, 1) := by decide +kernel
abbrev b_Mo_cut : ByteArray := prog_12_method_6_code
abbrev y_Mo_cut : MethodName := ⟨"CharOutlinesModel", "cut", "(I)I"⟩
set_option maxRecDepth 100000 in
theorem cal_Mo_cut : CalV gd_tbl "CharOutlinesModel" y_Mo_cut b_Mo_cut 3 (some .int) 1 := ⟨⟨List.mem_filter.mpr ⟨List.mem_of_getElem? (i := 858) rfl, rfl⟩, List.mem_filter.mpr ⟨List.mem_of_getElem? (i := 68) rfl, rfl⟩, ⟨by decide, by decide⟩, by decide +kernel⟩, List.mem_filter.mpr ⟨List.mem_of_getElem? (i := 856) rfl, rfl⟩, List.mem_filter.mpr ⟨List.mem_of_getElem? (i := 857) rfl, rfl⟩⟩
theorem d_Mo_cut_0 : decode b_Mo_cut 0 = .ok (.aload_n 0, 1) := by decide +kernel
theorem d_Mo_cut_1 : decode b_Mo_cut 1 = .ok (.iload_n 1, 1) := by decide +kernel
theorem d_Mo_cut_2 : decode b_Mo_cut 2 = .ok (.ifCond .ge 7, 3) := by decide +kernel
theorem d_Mo_cut_5 : decode b_Mo_cut 5 = .ok (.iconst 1, 1) := by decide +kernel
theorem d_Mo_cut_6 : decode b_Mo_cut 6 = .ok (.goto 4, 3) := by decide +kernel
theorem d_Mo_cut_9 : decode b_Mo_cut 9 = .ok (.iconst 0, 1) := by decide +kernel
theorem d_Mo_cut_10 : decode b_Mo_cut 10 = .ok (.invokevirtual 51, 3) := by decide +kernel
theorem d_Mo_cut_13 : decode b_Mo_cut 13 = .ok (.ifCond .eq 5, 3) := by decide +kernel
theorem d_Mo_cut_16 : decode b_Mo_cut 16 = .ok (.iconst 0, 1) := by decide +kernel
theorem d_Mo_cut_17 : decode b_Mo_cut 17 = .ok (.ireturn, 1) := by decide +kernel
theorem d_Mo_cut_18 : decode b_Mo_cut 18 = .ok (.aload_n 0, 1) := by decide +kernel
theorem d_Mo_cut_19 : decode b_Mo_cut 19 = .ok (.getfield 48, 3) := by decide +kernel
theorem d_Mo_cut_22 : decode b_Mo_cut 22 = .ok (.iload_n 1, 1) := by decide +kernel
theorem d_Mo_cut_23 : decode b_Mo_cut 23 = .ok (.if_icmp .le 12, 3) := by decide +kernel
theorem d_Mo_cut_26 : decode b_Mo_cut 26 = .ok (.aload_n 0, 1) := by decide +kernel
theorem d_Mo_cut_27 : decode b_Mo_cut 27 = .ok (.getfield 48, 3) := by decide +kernel
theorem d_Mo_cut_30 : decode b_Mo_cut 30 = .ok (.iload_n 1, 1) := by decide +kernel
theorem d_Mo_cut_31 : decode b_Mo_cut 31 = .ok (.isub, 1) := by decide +kernel
theorem d_Mo_cut_32 : decode b_Mo_cut 32 = .ok (.goto 4, 3) := by decide +kernel
theorem d_Mo_cut_35 : decode b_Mo_cut 35 = .ok (.iconst 0, 1) := by decide +kernel
theorem d_Mo_cut_36 : decode b_Mo_cut 36 = .ok (.istore_n 2, 1) := by decide +kernel
theorem d_Mo_cut_37 : decode b_Mo_cut 37 = .ok (.aload_n 0, 1) := by decide +kernel
theorem d_Mo_cut_38 : decode b_Mo_cut 38 = .ok (.aload_n 0, 1) := by decide +kernel
theorem d_Mo_cut_39 : decode b_Mo_cut 39 = .ok (.getfield 48, 3) := by decide +kernel
theorem d_Mo_cut_42 : decode b_Mo_cut 42 = .ok (.iload_n 2, 1) := by decide +kernel
theorem d_Mo_cut_43 : decode b_Mo_cut 43 = .ok (.isub, 1) := by decide +kernel
theorem d_Mo_cut_44 : decode b_Mo_cut 44 = .ok (.putfield 48, 3) := by decide +kernel
theorem d_Mo_cut_47 : decode b_Mo_cut 47 = .ok (.iload_n 2, 1) := by decide +kernel
theorem d_Mo_cut_48 : decode b_Mo_cut 48 = .ok (.ireturn, 1) := by decide +kernel
abbrev b_Mo_put : ByteArray := prog_12_method_5_code
abbrev y_Mo_put : MethodName := ⟨"CharOutlinesModel", "put", "(II)I"⟩
set_option maxRecDepth 100000 in
theorem cal_Mo_put : CalV gd_tbl "CharOutlinesModel" y_Mo_put b_Mo_put 4 (some .int) 2 := ⟨⟨List.mem_filter.mpr ⟨List.mem_of_getElem? (i := 850) rfl, rfl⟩, List.mem_filter.mpr ⟨List.mem_of_getElem? (i := 68) rfl, rfl⟩, ⟨by decide, by decide⟩, by decide +kernel⟩, List.mem_filter.mpr ⟨List.mem_of_getElem? (i := 848) rfl, rfl⟩, List.mem_filter.mpr ⟨List.mem_of_getElem? (i := 849) rfl, rfl⟩⟩
theorem d_Mo_put_0 : decode b_Mo_put 0 = .ok (.aload_n 0, 1) := by decide +kernel
theorem d_Mo_put_1 : decode b_Mo_put 1 = .ok (.iload_n 1, 1) := by decide +kernel
theorem d_Mo_put_2 : decode b_Mo_put 2 = .ok (.ifCond .lt 11, 3) := by decide +kernel
theorem d_Mo_put_5 : decode b_Mo_put 5 = .ok (.iload_n 1, 1) := by decide +kernel
theorem d_Mo_put_6 : decode b_Mo_put 6 = .ok (.aload_n 0, 1) := by decide +kernel
theorem d_Mo_put_7 : decode b_Mo_put 7 = .ok (.getfield 48, 3) := by decide +kernel
theorem d_Mo_put_10 : decode b_Mo_put 10 = .ok (.if_icmp .lt 7, 3) := by decide +kernel
theorem d_Mo_put_13 : decode b_Mo_put 13 = .ok (.iconst 1, 1) := by decide +kernel
theorem d_Mo_put_14 : decode b_Mo_put 14 = .ok (.goto 19, 3) := by decide +kernel
theorem d_Mo_put_17 : decode b_Mo_put 17 = .ok (.iload_n 2, 1) := by decide +kernel
theorem d_Mo_put_18 : decode b_Mo_put 18 = .ok (.ifCond .lt 10, 3) := by decide +kernel
theorem d_Mo_put_21 : decode b_Mo_put 21 = .ok (.iload_n 2, 1) := by decide +kernel
theorem d_Mo_put_22 : decode b_Mo_put 22 = .ok (.sipush 255, 3) := by decide +kernel
theorem d_Mo_put_25 : decode b_Mo_put 25 = .ok (.if_icmp .le 7, 3) := by decide +kernel
theorem d_Mo_put_28 : decode b_Mo_put 28 = .ok (.iconst 2, 1) := by decide +kernel
theorem d_Mo_put_29 : decode b_Mo_put 29 = .ok (.goto 4, 3) := by decide +kernel
theorem d_Mo_put_32 : decode b_Mo_put 32 = .ok (.iconst 0, 1) := by decide +kernel
theorem d_Mo_put_33 : decode b_Mo_put 33 = .ok (.invokevirtual 51, 3) := by decide +kernel
theorem d_Mo_put_36 : decode b_Mo_put 36 = .ok (.ifCond .eq 5, 3) := by decide +kernel
theorem d_Mo_put_39 : decode b_Mo_put 39 = .ok (.iconst 0, 1) := by decide +kernel
theorem d_Mo_put_40 : decode b_Mo_put 40 = .ok (.ireturn, 1) := by decide +kernel
theorem d_Mo_put_41 : decode b_Mo_put 41 = .ok (.aload_n 0, 1) := by decide +kernel
theorem d_Mo_put_42 : decode b_Mo_put 42 = .ok (.getfield 7, 3) := by decide +kernel
theorem d_Mo_put_45 : decode b_Mo_put 45 = .ok (.iload_n 1, 1) := by decide +kernel
theorem d_Mo_put_46 : decode b_Mo_put 46 = .ok (.iaload, 1) := by decide +kernel
theorem d_Mo_put_47 : decode b_Mo_put 47 = .ok (.istore_n 3, 1) := by decide +kernel
theorem d_Mo_put_48 : decode b_Mo_put 48 = .ok (.aload_n 0, 1) := by decide +kernel
theorem d_Mo_put_49 : decode b_Mo_put 49 = .ok (.getfield 7, 3) := by decide +kernel
theorem d_Mo_put_52 : decode b_Mo_put 52 = .ok (.iload_n 1, 1) := by decide +kernel
theorem d_Mo_put_53 : decode b_Mo_put 53 = .ok (.iload_n 2, 1) := by decide +kernel
theorem d_Mo_put_54 : decode b_Mo_put 54 = .ok (.iastore, 1) := by decide +kernel
theorem d_Mo_put_55 : decode b_Mo_put 55 = .ok (.iload_n 3, 1) := by decide +kernel
theorem d_Mo_put_56 : decode b_Mo_put 56 = .ok (.ireturn, 1) := by decide +kernel
abbrev b_Mo_isShelf : ByteArray := prog_12_method_8_code
abbrev y_Mo_isShelf : MethodName := ⟨"CharOutlinesModel", "isShelf", "()Z"⟩
set_option maxRecDepth 100000 in
theorem cal_Mo_isShelf : CalV gd_tbl "CharOutlinesModel" y_Mo_isShelf b_Mo_isShelf 5 (some .boolean) 0 := ⟨⟨List.mem_filter.mpr ⟨List.mem_of_getElem? (i := 866) rfl, rfl⟩, List.mem_filter.mpr ⟨List.mem_of_getElem? (i := 68) rfl, rfl⟩, ⟨by decide, by decide⟩, by decide +kernel⟩, List.mem_filter.mpr ⟨List.mem_of_getElem? (i := 865) rfl, rfl⟩, List.mem_filter.mpr ⟨List.mem_of_getElem? (i := 19) rfl, rfl⟩⟩
theorem d_Mo_isShelf_0 : decode b_Mo_isShelf 0 = .ok (.aload_n 0, 1) := by decide +kernel
theorem d_Mo_isShelf_1 : decode b_Mo_isShelf 1 = .ok (.getfield 48, 3) := by decide +kernel
theorem d_Mo_isShelf_4 : decode b_Mo_isShelf 4 = .ok (.iconst 2, 1) := by decide +kernel
theorem d_Mo_isShelf_5 : decode b_Mo_isShelf 5 = .ok (.if_icmp .ge 5, 3) := by decide +kernel
theorem d_Mo_isShelf_8 : decode b_Mo_isShelf 8 = .ok (.iconst 0, 1) := by decide +kernel
theorem d_Mo_isShelf_9 : decode b_Mo_isShelf 9 = .ok (.ireturn, 1) := by decide +kernel
theorem d_Mo_isShelf_10 : decode b_Mo_isShelf 10 = .ok (.sipush 256, 3) := by decide +kernel
theorem d_Mo_isShelf_13 : decode b_Mo_isShelf 13 = .ok (.aload_n 0, 1) := by decide +kernel
theorem d_Mo_isShelf_14 : decode b_Mo_isShelf 14 = .ok (.getfield 7, 3) := by decide +kernel
theorem d_Mo_isShelf_17 : decode b_Mo_isShelf 17 = .ok (.iconst 0, 1) := by decide +kernel
theorem d_Mo_isShelf_18 : decode b_Mo_isShelf 18 = .ok (.iaload, 1) := by decide +kernel
theorem d_Mo_isShelf_19 : decode b_Mo_isShelf 19 = .ok (.imul, 1) := by decide +kernel
theorem d_Mo_isShelf_20 : decode b_Mo_isShelf 20 = .ok (.aload_n 0, 1) := by decide +kernel
theorem d_Mo_isShelf_21 : decode b_Mo_isShelf 21 = .ok (.getfield 7, 3) := by decide +kernel
theorem d_Mo_isShelf_24 : decode b_Mo_isShelf 24 = .ok (.iconst 1, 1) := by decide +kernel
theorem d_Mo_isShelf_25 : decode b_Mo_isShelf 25 = .ok (.iaload, 1) := by decide +kernel
theorem d_Mo_isShelf_26 : decode b_Mo_isShelf 26 = .ok (.iadd, 1) := by decide +kernel
theorem d_Mo_isShelf_27 : decode b_Mo_isShelf 27 = .ok (.istore_n 1, 1) := by decide +kernel
theorem d_Mo_isShelf_28 : decode b_Mo_isShelf 28 = .ok (.iload_n 1, 1) := by decide +kernel
theorem d_Mo_isShelf_29 : decode b_Mo_isShelf 29 = .ok (.ifCond .ne 5, 3) := by decide +kernel
theorem d_Mo_isShelf_32 : decode b_Mo_isShelf 32 = .ok (.iconst 1, 1) := by decide +kernel
theorem d_Mo_isShelf_33 : decode b_Mo_isShelf 33 = .ok (.ireturn, 1) := by decide +kernel
theorem d_Mo_isShelf_34 : decode b_Mo_isShelf 34 = .ok (.iload_n 1, 1) := by decide +kernel
theorem d_Mo_isShelf_35 : decode b_Mo_isShelf 35 = .ok (.sipush 2000, 3) := by decide +kernel
theorem d_Mo_isShelf_38 : decode b_Mo_isShelf 38 = .ok (.if_icmp .gt 31, 3) := by decide +kernel
theorem d_Mo_isShelf_41 : decode b_Mo_isShelf 41 = .ok (.aload_n 0, 1) := by decide +kernel
theorem d_Mo_isShelf_42 : decode b_Mo_isShelf 42 = .ok (.getfield 48, 3) := by decide +kernel
theorem d_Mo_isShelf_45 : decode b_Mo_isShelf 45 = .ok (.iconst 3, 1) := by decide +kernel
theorem d_Mo_isShelf_46 : decode b_Mo_isShelf 46 = .ok (.if_icmp .lt 23, 3) := by decide +kernel
theorem d_Mo_isShelf_49 : decode b_Mo_isShelf 49 = .ok (.aload_n 0, 1) := by decide +kernel
theorem d_Mo_isShelf_50 : decode b_Mo_isShelf 50 = .ok (.getfield 7, 3) := by decide +kernel
theorem d_Mo_isShelf_53 : decode b_Mo_isShelf 53 = .ok (.iconst 2, 1) := by decide +kernel
theorem d_Mo_isShelf_54 : decode b_Mo_isShelf 54 = .ok (.iaload, 1) := by decide +kernel
theorem d_Mo_isShelf_55 : decode b_Mo_isShelf 55 = .ok (.iconst 1, 1) := by decide +kernel
theorem d_Mo_isShelf_56 : decode b_Mo_isShelf 56 = .ok (.if_icmp .lt 13, 3) := by decide +kernel
theorem d_Mo_isShelf_59 : decode b_Mo_isShelf 59 = .ok (.aload_n 0, 1) := by decide +kernel
theorem d_Mo_isShelf_60 : decode b_Mo_isShelf 60 = .ok (.getfield 7, 3) := by decide +kernel
theorem d_Mo_isShelf_63 : decode b_Mo_isShelf 63 = .ok (.iconst 2, 1) := by decide +kernel
theorem d_Mo_isShelf_64 : decode b_Mo_isShelf 64 = .ok (.iaload, 1) := by decide +kernel
theorem d_Mo_isShelf_65 : decode b_Mo_isShelf 65 = .ok (.iconst 4, 1) := by decide +kernel
theorem d_Mo_isShelf_66 : decode b_Mo_isShelf 66 = .ok (.if_icmp .le 5, 3) := by decide +kernel
theorem d_Mo_isShelf_69 : decode b_Mo_isShelf 69 = .ok (.iconst 0, 1) := by decide +kernel
theorem d_Mo_isShelf_70 : decode b_Mo_isShelf 70 = .ok (.ireturn, 1) := by decide +kernel
theorem d_Mo_isShelf_71 : decode b_Mo_isShelf 71 = .ok (.aload_n 0, 1) := by decide +kernel
theorem d_Mo_isShelf_72 : decode b_Mo_isShelf 72 = .ok (.getfield 7, 3) := by decide +kernel
theorem d_Mo_isShelf_75 : decode b_Mo_isShelf 75 = .ok (.iconst 2, 1) := by decide +kernel
theorem d_Mo_isShelf_76 : decode b_Mo_isShelf 76 = .ok (.iaload, 1) := by decide +kernel
theorem d_Mo_isShelf_77 : decode b_Mo_isShelf 77 = .ok (.istore_n 2, 1) := by decide +kernel
theorem d_Mo_isShelf_78 : decode b_Mo_isShelf 78 = .ok (.iconst 3, 1) := by decide +kernel
theorem d_Mo_isShelf_79 : decode b_Mo_isShelf 79 = .ok (.iload_n 1, 1) := by decide +kernel
theorem d_Mo_isShelf_80 : decode b_Mo_isShelf 80 = .ok (.iconst 1, 1) := by decide +kernel
theorem d_Mo_isShelf_81 : decode b_Mo_isShelf 81 = .ok (.iadd, 1) := by decide +kernel
theorem d_Mo_isShelf_82 : decode b_Mo_isShelf 82 = .ok (.iload_n 2, 1) := by decide +kernel
theorem d_Mo_isShelf_83 : decode b_Mo_isShelf 83 = .ok (.imul, 1) := by decide +kernel
theorem d_Mo_isShelf_84 : decode b_Mo_isShelf 84 = .ok (.iadd, 1) := by decide +kernel
theorem d_Mo_isShelf_85 : decode b_Mo_isShelf 85 = .ok (.istore_n 3, 1) := by decide +kernel
theorem d_Mo_isShelf_86 : decode b_Mo_isShelf 86 = .ok (.iload_n 3, 1) := by decide +kernel
theorem d_Mo_isShelf_87 : decode b_Mo_isShelf 87 = .ok (.aload_n 0, 1) := by decide +kernel
theorem d_Mo_isShelf_88 : decode b_Mo_isShelf 88 = .ok (.getfield 48, 3) := by decide +kernel
theorem d_Mo_isShelf_91 : decode b_Mo_isShelf 91 = .ok (.if_icmp .gt 14, 3) := by decide +kernel
theorem d_Mo_isShelf_94 : decode b_Mo_isShelf 94 = .ok (.aload_n 0, 1) := by decide +kernel
theorem d_Mo_isShelf_95 : decode b_Mo_isShelf 95 = .ok (.iconst 3, 1) := by decide +kernel
theorem d_Mo_isShelf_96 : decode b_Mo_isShelf 96 = .ok (.iload_n 2, 1) := by decide +kernel
theorem d_Mo_isShelf_97 : decode b_Mo_isShelf 97 = .ok (.invokevirtual 57, 3) := by decide +kernel
theorem d_Mo_isShelf_100 : decode b_Mo_isShelf 100 = .ok (.lconst 1, 1) := by decide +kernel
theorem d_Mo_isShelf_101 : decode b_Mo_isShelf 101 = .ok (.lcmp, 1) := by decide +kernel
theorem d_Mo_isShelf_102 : decode b_Mo_isShelf 102 = .ok (.ifCond .eq 5, 3) := by decide +kernel
theorem d_Mo_isShelf_105 : decode b_Mo_isShelf 105 = .ok (.iconst 0, 1) := by decide +kernel
theorem d_Mo_isShelf_106 : decode b_Mo_isShelf 106 = .ok (.ireturn, 1) := by decide +kernel
theorem d_Mo_isShelf_107 : decode b_Mo_isShelf 107 = .ok (.iconst 1, 1) := by decide +kernel
theorem d_Mo_isShelf_108 : decode b_Mo_isShelf 108 = .ok (.istore 4, 2) := by decide +kernel
theorem d_Mo_isShelf_110 : decode b_Mo_isShelf 110 = .ok (.iload 4, 2) := by decide +kernel
theorem d_Mo_isShelf_112 : decode b_Mo_isShelf 112 = .ok (.iload_n 1, 1) := by decide +kernel
theorem d_Mo_isShelf_113 : decode b_Mo_isShelf 113 = .ok (.if_icmp .gt 39, 3) := by decide +kernel
theorem d_Mo_isShelf_116 : decode b_Mo_isShelf 116 = .ok (.aload_n 0, 1) := by decide +kernel
theorem d_Mo_isShelf_117 : decode b_Mo_isShelf 117 = .ok (.iconst 3, 1) := by decide +kernel
theorem d_Mo_isShelf_118 : decode b_Mo_isShelf 118 = .ok (.iload 4, 2) := by decide +kernel
theorem d_Mo_isShelf_120 : decode b_Mo_isShelf 120 = .ok (.iload_n 2, 1) := by decide +kernel
theorem d_Mo_isShelf_121 : decode b_Mo_isShelf 121 = .ok (.imul, 1) := by decide +kernel
theorem d_Mo_isShelf_122 : decode b_Mo_isShelf 122 = .ok (.iadd, 1) := by decide +kernel
theorem d_Mo_isShelf_123 : decode b_Mo_isShelf 123 = .ok (.iload_n 2, 1) := by decide +kernel
theorem d_Mo_isShelf_124 : decode b_Mo_isShelf 124 = .ok (.invokevirtual 57, 3) := by decide +kernel
theorem d_Mo_isShelf_127 : decode b_Mo_isShelf 127 = .ok (.aload_n 0, 1) := by decide +kernel
theorem d_Mo_isShelf_128 : decode b_Mo_isShelf 128 = .ok (.iconst 3, 1) := by decide +kernel
theorem d_Mo_isShelf_129 : decode b_Mo_isShelf 129 = .ok (.iload 4, 2) := by decide +kernel
theorem d_Mo_isShelf_131 : decode b_Mo_isShelf 131 = .ok (.iconst 1, 1) := by decide +kernel
theorem d_Mo_isShelf_132 : decode b_Mo_isShelf 132 = .ok (.isub, 1) := by decide +kernel
theorem d_Mo_isShelf_133 : decode b_Mo_isShelf 133 = .ok (.iload_n 2, 1) := by decide +kernel
theorem d_Mo_isShelf_134 : decode b_Mo_isShelf 134 = .ok (.imul, 1) := by decide +kernel
theorem d_Mo_isShelf_135 : decode b_Mo_isShelf 135 = .ok (.iadd, 1) := by decide +kernel
theorem d_Mo_isShelf_136 : decode b_Mo_isShelf 136 = .ok (.iload_n 2, 1) := by decide +kernel
theorem d_Mo_isShelf_137 : decode b_Mo_isShelf 137 = .ok (.invokevirtual 57, 3) := by decide +kernel
theorem d_Mo_isShelf_140 : decode b_Mo_isShelf 140 = .ok (.lcmp, 1) := by decide +kernel
theorem d_Mo_isShelf_141 : decode b_Mo_isShelf 141 = .ok (.ifCond .ge 5, 3) := by decide +kernel
theorem d_Mo_isShelf_144 : decode b_Mo_isShelf 144 = .ok (.iconst 0, 1) := by decide +kernel
theorem d_Mo_isShelf_145 : decode b_Mo_isShelf 145 = .ok (.ireturn, 1) := by decide +kernel
theorem d_Mo_isShelf_146 : decode b_Mo_isShelf 146 = .ok (.iinc 4 1, 3) := by decide +kernel
theorem d_Mo_isShelf_149 : decode b_Mo_isShelf 149 = .ok (.goto (-39), 3) := by decide +kernel
theorem d_Mo_isShelf_152 : decode b_Mo_isShelf 152 = .ok (.iload_n 3, 1) := by decide +kernel
theorem d_Mo_isShelf_153 : decode b_Mo_isShelf 153 = .ok (.i2l, 1) := by decide +kernel
theorem d_Mo_isShelf_154 : decode b_Mo_isShelf 154 = .ok (.aload_n 0, 1) := by decide +kernel
theorem d_Mo_isShelf_155 : decode b_Mo_isShelf 155 = .ok (.iconst 3, 1) := by decide +kernel
theorem d_Mo_isShelf_156 : decode b_Mo_isShelf 156 = .ok (.iload_n 1, 1) := by decide +kernel
theorem d_Mo_isShelf_157 : decode b_Mo_isShelf 157 = .ok (.iload_n 2, 1) := by decide +kernel
theorem d_Mo_isShelf_158 : decode b_Mo_isShelf 158 = .ok (.imul, 1) := by decide +kernel
theorem d_Mo_isShelf_159 : decode b_Mo_isShelf 159 = .ok (.iadd, 1) := by decide +kernel
theorem d_Mo_isShelf_160 : decode b_Mo_isShelf 160 = .ok (.iload_n 2, 1) := by decide +kernel
theorem d_Mo_isShelf_161 : decode b_Mo_isShelf 161 = .ok (.invokevirtual 57, 3) := by decide +kernel
theorem d_Mo_isShelf_164 : decode b_Mo_isShelf 164 = .ok (.ladd, 1) := by decide +kernel
theorem d_Mo_isShelf_165 : decode b_Mo_isShelf 165 = .ok (.lconst 1, 1) := by decide +kernel
theorem d_Mo_isShelf_166 : decode b_Mo_isShelf 166 = .ok (.lsub, 1) := by decide +kernel
theorem d_Mo_isShelf_167 : decode b_Mo_isShelf 167 = .ok (.aload_n 0, 1) := by decide +kernel
theorem d_Mo_isShelf_168 : decode b_Mo_isShelf 168 = .ok (.getfield 48, 3) := by decide +kernel
theorem d_Mo_isShelf_171 : decode b_Mo_isShelf 171 = .ok (.i2l, 1) := by decide +kernel
theorem d_Mo_isShelf_172 : decode b_Mo_isShelf 172 = .ok (.lcmp, 1) := by decide +kernel
theorem d_Mo_isShelf_173 : decode b_Mo_isShelf 173 = .ok (.ifCond .gt 7, 3) := by decide +kernel
theorem d_Mo_isShelf_176 : decode b_Mo_isShelf 176 = .ok (.iconst 1, 1) := by decide +kernel
theorem d_Mo_isShelf_177 : decode b_Mo_isShelf 177 = .ok (.goto 4, 3) := by decide +kernel
theorem d_Mo_isShelf_180 : decode b_Mo_isShelf 180 = .ok (.iconst 0, 1) := by decide +kernel
theorem d_Mo_isShelf_181 : decode b_Mo_isShelf 181 = .ok (.ireturn, 1) := by decide +kernel
abbrev b_Mo_take : ByteArray := prog_12_method_9_code
abbrev y_Mo_take : MethodName := ⟨"CharOutlinesModel", "take", "(I)I"⟩
set_option maxRecDepth 100000 in
theorem cal_Mo_take : CalV gd_tbl "CharOutlinesModel" y_Mo_take b_Mo_take 3 (some .int) 1 := ⟨⟨List.mem_filter.mpr ⟨List.mem_of_getElem? (i := 862) rfl, rfl⟩, List.mem_filter.mpr ⟨List.mem_of_getElem? (i := 68) rfl, rfl⟩, ⟨by decide, by decide⟩, by decide +kernel⟩, List.mem_filter.mpr ⟨List.mem_of_getElem? (i := 860) rfl, rfl⟩, List.mem_filter.mpr ⟨List.mem_of_getElem? (i := 861) rfl, rfl⟩⟩
theorem d_Mo_take_0 : decode b_Mo_take 0 = .ok (.aload_n 0, 1) := by decide +kernel
theorem d_Mo_take_1 : decode b_Mo_take 1 = .ok (.iload_n 1, 1) := by decide +kernel
theorem d_Mo_take_2 : decode b_Mo_take 2 = .ok (.ifCond .lt 8, 3) := by decide +kernel
theorem d_Mo_take_5 : decode b_Mo_take 5 = .ok (.iload_n 1, 1) := by decide +kernel
theorem d_Mo_take_6 : decode b_Mo_take 6 = .ok (.iconst 2, 1) := by decide +kernel
theorem d_Mo_take_7 : decode b_Mo_take 7 = .ok (.if_icmp .le 7, 3) := by decide +kernel
theorem d_Mo_take_10 : decode b_Mo_take 10 = .ok (.iconst 1, 1) := by decide +kernel
theorem d_Mo_take_11 : decode b_Mo_take 11 = .ok (.goto 4, 3) := by decide +kernel
theorem d_Mo_take_14 : decode b_Mo_take 14 = .ok (.iconst 0, 1) := by decide +kernel
theorem d_Mo_take_15 : decode b_Mo_take 15 = .ok (.invokevirtual 51, 3) := by decide +kernel
theorem d_Mo_take_18 : decode b_Mo_take 18 = .ok (.ifCond .eq 5, 3) := by decide +kernel
theorem d_Mo_take_21 : decode b_Mo_take 21 = .ok (.iconst 0, 1) := by decide +kernel
theorem d_Mo_take_22 : decode b_Mo_take 22 = .ok (.ireturn, 1) := by decide +kernel
theorem d_Mo_take_23 : decode b_Mo_take 23 = .ok (.aload_n 0, 1) := by decide +kernel
theorem d_Mo_take_24 : decode b_Mo_take 24 = .ok (.invokevirtual 61, 3) := by decide +kernel
theorem d_Mo_take_27 : decode b_Mo_take 27 = .ok (.ifCond .ne 6, 3) := by decide +kernel
theorem d_Mo_take_30 : decode b_Mo_take 30 = .ok (.bipush (-2), 2) := by decide +kernel
theorem d_Mo_take_32 : decode b_Mo_take 32 = .ok (.ireturn, 1) := by decide +kernel
theorem d_Mo_take_33 : decode b_Mo_take 33 = .ok (.iconst 0, 1) := by decide +kernel
theorem d_Mo_take_34 : decode b_Mo_take 34 = .ok (.istore_n 2, 1) := by decide +kernel
theorem d_Mo_take_35 : decode b_Mo_take 35 = .ok (.iload_n 2, 1) := by decide +kernel
theorem d_Mo_take_36 : decode b_Mo_take 36 = .ok (.aload_n 0, 1) := by decide +kernel
theorem d_Mo_take_37 : decode b_Mo_take 37 = .ok (.getfield 48, 3) := by decide +kernel
theorem d_Mo_take_40 : decode b_Mo_take 40 = .ok (.if_icmp .ge 27, 3) := by decide +kernel
theorem d_Mo_take_43 : decode b_Mo_take 43 = .ok (.aload_n 0, 1) := by decide +kernel
theorem d_Mo_take_44 : decode b_Mo_take 44 = .ok (.getfield 14, 3) := by decide +kernel
theorem d_Mo_take_47 : decode b_Mo_take 47 = .ok (.sipush 16384, 3) := by decide +kernel
theorem d_Mo_take_50 : decode b_Mo_take 50 = .ok (.iload_n 1, 1) := by decide +kernel
theorem d_Mo_take_51 : decode b_Mo_take 51 = .ok (.imul, 1) := by decide +kernel
theorem d_Mo_take_52 : decode b_Mo_take 52 = .ok (.iload_n 2, 1) := by decide +kernel
theorem d_Mo_take_53 : decode b_Mo_take 53 = .ok (.iadd, 1) := by decide +kernel
theorem d_Mo_take_54 : decode b_Mo_take 54 = .ok (.aload_n 0, 1) := by decide +kernel
theorem d_Mo_take_55 : decode b_Mo_take 55 = .ok (.getfield 7, 3) := by decide +kernel
theorem d_Mo_take_58 : decode b_Mo_take 58 = .ok (.iload_n 2, 1) := by decide +kernel
theorem d_Mo_take_59 : decode b_Mo_take 59 = .ok (.iaload, 1) := by decide +kernel
theorem d_Mo_take_60 : decode b_Mo_take 60 = .ok (.iastore, 1) := by decide +kernel
theorem d_Mo_take_61 : decode b_Mo_take 61 = .ok (.iinc 2 1, 3) := by decide +kernel
theorem d_Mo_take_64 : decode b_Mo_take 64 = .ok (.goto (-29), 3) := by decide +kernel
theorem d_Mo_take_67 : decode b_Mo_take 67 = .ok (.aload_n 0, 1) := by decide +kernel
theorem d_Mo_take_68 : decode b_Mo_take 68 = .ok (.getfield 17, 3) := by decide +kernel
theorem d_Mo_take_71 : decode b_Mo_take 71 = .ok (.iload_n 1, 1) := by decide +kernel
theorem d_Mo_take_72 : decode b_Mo_take 72 = .ok (.sipush 256, 3) := by decide +kernel
theorem d_Mo_take_75 : decode b_Mo_take 75 = .ok (.aload_n 0, 1) := by decide +kernel
theorem d_Mo_take_76 : decode b_Mo_take 76 = .ok (.getfield 7, 3) := by decide +kernel
theorem d_Mo_take_79 : decode b_Mo_take 79 = .ok (.iconst 0, 1) := by decide +kernel
theorem d_Mo_take_80 : decode b_Mo_take 80 = .ok (.iaload, 1) := by decide +kernel
theorem d_Mo_take_81 : decode b_Mo_take 81 = .ok (.imul, 1) := by decide +kernel
theorem d_Mo_take_82 : decode b_Mo_take 82 = .ok (.aload_n 0, 1) := by decide +kernel
theorem d_Mo_take_83 : decode b_Mo_take 83 = .ok (.getfield 7, 3) := by decide +kernel
theorem d_Mo_take_86 : decode b_Mo_take 86 = .ok (.iconst 1, 1) := by decide +kernel
theorem d_Mo_take_87 : decode b_Mo_take 87 = .ok (.iaload, 1) := by decide +kernel
theorem d_Mo_take_88 : decode b_Mo_take 88 = .ok (.iadd, 1) := by decide +kernel
theorem d_Mo_take_89 : decode b_Mo_take 89 = .ok (.iastore, 1) := by decide +kernel
theorem d_Mo_take_90 : decode b_Mo_take 90 = .ok (.aload_n 0, 1) := by decide +kernel
theorem d_Mo_take_91 : decode b_Mo_take 91 = .ok (.getfield 20, 3) := by decide +kernel
theorem d_Mo_take_94 : decode b_Mo_take 94 = .ok (.iload_n 1, 1) := by decide +kernel
theorem d_Mo_take_95 : decode b_Mo_take 95 = .ok (.aload_n 0, 1) := by decide +kernel
theorem d_Mo_take_96 : decode b_Mo_take 96 = .ok (.getfield 17, 3) := by decide +kernel
theorem d_Mo_take_99 : decode b_Mo_take 99 = .ok (.iload_n 1, 1) := by decide +kernel
theorem d_Mo_take_100 : decode b_Mo_take 100 = .ok (.iaload, 1) := by decide +kernel
theorem d_Mo_take_101 : decode b_Mo_take 101 = .ok (.ifCond .le 12, 3) := by decide +kernel
theorem d_Mo_take_104 : decode b_Mo_take 104 = .ok (.aload_n 0, 1) := by decide +kernel
theorem d_Mo_take_105 : decode b_Mo_take 105 = .ok (.getfield 7, 3) := by decide +kernel
theorem d_Mo_take_108 : decode b_Mo_take 108 = .ok (.iconst 2, 1) := by decide +kernel
theorem d_Mo_take_109 : decode b_Mo_take 109 = .ok (.iaload, 1) := by decide +kernel
theorem d_Mo_take_110 : decode b_Mo_take 110 = .ok (.goto 4, 3) := by decide +kernel
theorem d_Mo_take_113 : decode b_Mo_take 113 = .ok (.iconst 0, 1) := by decide +kernel
theorem d_Mo_take_114 : decode b_Mo_take 114 = .ok (.iastore, 1) := by decide +kernel
theorem d_Mo_take_115 : decode b_Mo_take 115 = .ok (.aload_n 0, 1) := by decide +kernel
theorem d_Mo_take_116 : decode b_Mo_take 116 = .ok (.getfield 17, 3) := by decide +kernel
theorem d_Mo_take_119 : decode b_Mo_take 119 = .ok (.iload_n 1, 1) := by decide +kernel
theorem d_Mo_take_120 : decode b_Mo_take 120 = .ok (.iaload, 1) := by decide +kernel
theorem d_Mo_take_121 : decode b_Mo_take 121 = .ok (.ireturn, 1) := by decide +kernel
abbrev b_Mo_count : ByteArray := prog_12_method_11_code
abbrev y_Mo_count : MethodName := ⟨"CharOutlinesModel", "count", "(I)I"⟩
set_option maxRecDepth 100000 in
theorem cal_Mo_count : CalV gd_tbl "CharOutlinesModel" y_Mo_count b_Mo_count 2 (some .int) 1 := ⟨⟨List.mem_filter.mpr ⟨List.mem_of_getElem? (i := 875) rfl, rfl⟩, List.mem_filter.mpr ⟨List.mem_of_getElem? (i := 68) rfl, rfl⟩, ⟨by decide, by decide⟩, by decide +kernel⟩, List.mem_filter.mpr ⟨List.mem_of_getElem? (i := 873) rfl, rfl⟩, List.mem_filter.mpr ⟨List.mem_of_getElem? (i := 874) rfl, rfl⟩⟩
theorem d_Mo_count_0 : decode b_Mo_count 0 = .ok (.aload_n 0, 1) := by decide +kernel
theorem d_Mo_count_1 : decode b_Mo_count 1 = .ok (.iload_n 1, 1) := by decide +kernel
theorem d_Mo_count_2 : decode b_Mo_count 2 = .ok (.ifCond .lt 8, 3) := by decide +kernel
theorem d_Mo_count_5 : decode b_Mo_count 5 = .ok (.iload_n 1, 1) := by decide +kernel
theorem d_Mo_count_6 : decode b_Mo_count 6 = .ok (.iconst 2, 1) := by decide +kernel
theorem d_Mo_count_7 : decode b_Mo_count 7 = .ok (.if_icmp .le 7, 3) := by decide +kernel
theorem d_Mo_count_10 : decode b_Mo_count 10 = .ok (.iconst 1, 1) := by decide +kernel
theorem d_Mo_count_11 : decode b_Mo_count 11 = .ok (.goto 4, 3) := by decide +kernel
theorem d_Mo_count_14 : decode b_Mo_count 14 = .ok (.iconst 0, 1) := by decide +kernel
theorem d_Mo_count_15 : decode b_Mo_count 15 = .ok (.invokevirtual 51, 3) := by decide +kernel
theorem d_Mo_count_18 : decode b_Mo_count 18 = .ok (.ifCond .eq 7, 3) := by decide +kernel
theorem d_Mo_count_21 : decode b_Mo_count 21 = .ok (.iconst 0, 1) := by decide +kernel
theorem d_Mo_count_22 : decode b_Mo_count 22 = .ok (.goto 9, 3) := by decide +kernel
theorem d_Mo_count_25 : decode b_Mo_count 25 = .ok (.aload_n 0, 1) := by decide +kernel
theorem d_Mo_count_26 : decode b_Mo_count 26 = .ok (.getfield 17, 3) := by decide +kernel
theorem d_Mo_count_29 : decode b_Mo_count 29 = .ok (.iload_n 1, 1) := by decide +kernel
theorem d_Mo_count_30 : decode b_Mo_count 30 = .ok (.iaload, 1) := by decide +kernel
theorem d_Mo_count_31 : decode b_Mo_count 31 = .ok (.ireturn, 1) := by decide +kernel
abbrev b_Mo_run : ByteArray := prog_12_method_18_code
abbrev y_Mo_run : MethodName := ⟨"CharOutlinesModel", "run", "(I)I"⟩
set_option maxRecDepth 100000 in
theorem cal_Mo_run : CalV gd_tbl "CharOutlinesModel" y_Mo_run b_Mo_run 3 (some .int) 1 := ⟨⟨List.mem_filter.mpr ⟨List.mem_of_getElem? (i := 879) rfl, rfl⟩, List.mem_filter.mpr ⟨List.mem_of_getElem? (i := 68) rfl, rfl⟩, ⟨by decide, by decide⟩, by decide +kernel⟩, List.mem_filter.mpr ⟨List.mem_of_getElem? (i := 877) rfl, rfl⟩, List.mem_filter.mpr ⟨List.mem_of_getElem? (i := 878) rfl, rfl⟩⟩
theorem d_Mo_run_0 : decode b_Mo_run 0 = .ok (.aload_n 0, 1) := by decide +kernel
theorem d_Mo_run_1 : decode b_Mo_run 1 = .ok (.iload_n 1, 1) := by decide +kernel
theorem d_Mo_run_2 : decode b_Mo_run 2 = .ok (.ifCond .lt 13, 3) := by decide +kernel
theorem d_Mo_run_5 : decode b_Mo_run 5 = .ok (.iload_n 1, 1) := by decide +kernel
theorem d_Mo_run_6 : decode b_Mo_run 6 = .ok (.aload_n 0, 1) := by decide +kernel
theorem d_Mo_run_7 : decode b_Mo_run 7 = .ok (.getfield 17, 3) := by decide +kernel
theorem d_Mo_run_10 : decode b_Mo_run 10 = .ok (.iconst 0, 1) := by decide +kernel
theorem d_Mo_run_11 : decode b_Mo_run 11 = .ok (.iaload, 1) := by decide +kernel
theorem d_Mo_run_12 : decode b_Mo_run 12 = .ok (.if_icmp .lt 7, 3) := by decide +kernel
theorem d_Mo_run_15 : decode b_Mo_run 15 = .ok (.iconst 1, 1) := by decide +kernel
theorem d_Mo_run_16 : decode b_Mo_run 16 = .ok (.goto 4, 3) := by decide +kernel
theorem d_Mo_run_19 : decode b_Mo_run 19 = .ok (.iconst 0, 1) := by decide +kernel
theorem d_Mo_run_20 : decode b_Mo_run 20 = .ok (.invokevirtual 51, 3) := by decide +kernel
theorem d_Mo_run_23 : decode b_Mo_run 23 = .ok (.ifCond .eq 5, 3) := by decide +kernel
theorem d_Mo_run_26 : decode b_Mo_run 26 = .ok (.iconst 0, 1) := by decide +kernel
theorem d_Mo_run_27 : decode b_Mo_run 27 = .ok (.ireturn, 1) := by decide +kernel
theorem d_Mo_run_28 : decode b_Mo_run 28 = .ok (.aload_n 0, 1) := by decide +kernel
theorem d_Mo_run_29 : decode b_Mo_run 29 = .ok (.iconst 1, 1) := by decide +kernel
theorem d_Mo_run_30 : decode b_Mo_run 30 = .ok (.putfield 85, 3) := by decide +kernel
theorem d_Mo_run_33 : decode b_Mo_run 33 = .ok (.aload_n 0, 1) := by decide +kernel
theorem d_Mo_run_34 : decode b_Mo_run 34 = .ok (.iconst 0, 1) := by decide +kernel
theorem d_Mo_run_35 : decode b_Mo_run 35 = .ok (.putfield 75, 3) := by decide +kernel
theorem d_Mo_run_38 : decode b_Mo_run 38 = .ok (.aload_n 0, 1) := by decide +kernel
theorem d_Mo_run_39 : decode b_Mo_run 39 = .ok (.iconst 0, 1) := by decide +kernel
theorem d_Mo_run_40 : decode b_Mo_run 40 = .ok (.putfield 89, 3) := by decide +kernel
theorem d_Mo_run_43 : decode b_Mo_run 43 = .ok (.aload_n 0, 1) := by decide +kernel
theorem d_Mo_run_44 : decode b_Mo_run 44 = .ok (.iconst 0, 1) := by decide +kernel
theorem d_Mo_run_45 : decode b_Mo_run 45 = .ok (.putfield 92, 3) := by decide +kernel
theorem d_Mo_run_48 : decode b_Mo_run 48 = .ok (.aload_n 0, 1) := by decide +kernel
theorem d_Mo_run_49 : decode b_Mo_run 49 = .ok (.iconst 0, 1) := by decide +kernel
theorem d_Mo_run_50 : decode b_Mo_run 50 = .ok (.putfield 95, 3) := by decide +kernel
theorem d_Mo_run_53 : decode b_Mo_run 53 = .ok (.aload_n 0, 1) := by decide +kernel
theorem d_Mo_run_54 : decode b_Mo_run 54 = .ok (.iconst 0, 1) := by decide +kernel
theorem d_Mo_run_55 : decode b_Mo_run 55 = .ok (.putfield 98, 3) := by decide +kernel
theorem d_Mo_run_58 : decode b_Mo_run 58 = .ok (.aload_n 0, 1) := by decide +kernel
theorem d_Mo_run_59 : decode b_Mo_run 59 = .ok (.iconst 0, 1) := by decide +kernel
theorem d_Mo_run_60 : decode b_Mo_run 60 = .ok (.putfield 101, 3) := by decide +kernel
theorem d_Mo_run_63 : decode b_Mo_run 63 = .ok (.aload_n 0, 1) := by decide +kernel
theorem d_Mo_run_64 : decode b_Mo_run 64 = .ok (.iconst 1, 1) := by decide +kernel
theorem d_Mo_run_65 : decode b_Mo_run 65 = .ok (.putfield 104, 3) := by decide +kernel
theorem d_Mo_run_68 : decode b_Mo_run 68 = .ok (.aload_n 0, 1) := by decide +kernel
theorem d_Mo_run_69 : decode b_Mo_run 69 = .ok (.iconst 0, 1) := by decide +kernel
theorem d_Mo_run_70 : decode b_Mo_run 70 = .ok (.putfield 107, 3) := by decide +kernel
theorem d_Mo_run_73 : decode b_Mo_run 73 = .ok (.aload_n 0, 1) := by decide +kernel
theorem d_Mo_run_74 : decode b_Mo_run 74 = .ok (.iconst 0, 1) := by decide +kernel
theorem d_Mo_run_75 : decode b_Mo_run 75 = .ok (.putfield 72, 3) := by decide +kernel
theorem d_Mo_run_78 : decode b_Mo_run 78 = .ok (.aload_n 0, 1) := by decide +kernel
theorem d_Mo_run_79 : decode b_Mo_run 79 = .ok (.iconst 0, 1) := by decide +kernel
theorem d_Mo_run_80 : decode b_Mo_run 80 = .ok (.putfield 110, 3) := by decide +kernel
theorem d_Mo_run_83 : decode b_Mo_run 83 = .ok (.aload_n 0, 1) := by decide +kernel
theorem d_Mo_run_84 : decode b_Mo_run 84 = .ok (.iconst 0, 1) := by decide +kernel
theorem d_Mo_run_85 : decode b_Mo_run 85 = .ok (.putfield 113, 3) := by decide +kernel
theorem d_Mo_run_88 : decode b_Mo_run 88 = .ok (.aload_n 0, 1) := by decide +kernel
theorem d_Mo_run_89 : decode b_Mo_run 89 = .ok (.iconst 0, 1) := by decide +kernel
theorem d_Mo_run_90 : decode b_Mo_run 90 = .ok (.putfield 82, 3) := by decide +kernel
theorem d_Mo_run_93 : decode b_Mo_run 93 = .ok (.aload_n 0, 1) := by decide +kernel
theorem d_Mo_run_94 : decode b_Mo_run 94 = .ok (.iconst 0, 1) := by decide +kernel
theorem d_Mo_run_95 : decode b_Mo_run 95 = .ok (.putfield 65, 3) := by decide +kernel
theorem d_Mo_run_98 : decode b_Mo_run 98 = .ok (.aload_n 0, 1) := by decide +kernel
theorem d_Mo_run_99 : decode b_Mo_run 99 = .ok (.iconst 0, 1) := by decide +kernel
theorem d_Mo_run_100 : decode b_Mo_run 100 = .ok (.putfield 116, 3) := by decide +kernel
theorem d_Mo_run_103 : decode b_Mo_run 103 = .ok (.iconst 0, 1) := by decide +kernel
theorem d_Mo_run_104 : decode b_Mo_run 104 = .ok (.istore_n 2, 1) := by decide +kernel
theorem d_Mo_run_105 : decode b_Mo_run 105 = .ok (.iload_n 2, 1) := by decide +kernel
theorem d_Mo_run_106 : decode b_Mo_run 106 = .ok (.bipush 32, 2) := by decide +kernel
theorem d_Mo_run_108 : decode b_Mo_run 108 = .ok (.if_icmp .ge 16, 3) := by decide +kernel
theorem d_Mo_run_111 : decode b_Mo_run 111 = .ok (.aload_n 0, 1) := by decide +kernel
theorem d_Mo_run_112 : decode b_Mo_run 112 = .ok (.getfield 32, 3) := by decide +kernel
theorem d_Mo_run_115 : decode b_Mo_run 115 = .ok (.iload_n 2, 1) := by decide +kernel
theorem d_Mo_run_116 : decode b_Mo_run 116 = .ok (.iconst 0, 1) := by decide +kernel
theorem d_Mo_run_117 : decode b_Mo_run 117 = .ok (.iastore, 1) := by decide +kernel
theorem d_Mo_run_118 : decode b_Mo_run 118 = .ok (.iinc 2 1, 3) := by decide +kernel
theorem d_Mo_run_121 : decode b_Mo_run 121 = .ok (.goto (-16), 3) := by decide +kernel
theorem d_Mo_run_124 : decode b_Mo_run 124 = .ok (.aload_n 0, 1) := by decide +kernel
theorem d_Mo_run_125 : decode b_Mo_run 125 = .ok (.iconst 0, 1) := by decide +kernel
theorem d_Mo_run_126 : decode b_Mo_run 126 = .ok (.iload_n 1, 1) := by decide +kernel
theorem d_Mo_run_127 : decode b_Mo_run 127 = .ok (.invokevirtual 119, 3) := by decide +kernel
theorem d_Mo_run_130 : decode b_Mo_run 130 = .ok (.aload_n 0, 1) := by decide +kernel
theorem d_Mo_run_131 : decode b_Mo_run 131 = .ok (.getfield 75, 3) := by decide +kernel
theorem d_Mo_run_134 : decode b_Mo_run 134 = .ok (.ifCond .ne 17, 3) := by decide +kernel
theorem d_Mo_run_137 : decode b_Mo_run 137 = .ok (.aload_n 0, 1) := by decide +kernel
theorem d_Mo_run_138 : decode b_Mo_run 138 = .ok (.getfield 89, 3) := by decide +kernel
theorem d_Mo_run_141 : decode b_Mo_run 141 = .ok (.ifCond .ne 10, 3) := by decide +kernel
theorem d_Mo_run_144 : decode b_Mo_run 144 = .ok (.aload_n 0, 1) := by decide +kernel
theorem d_Mo_run_145 : decode b_Mo_run 145 = .ok (.invokevirtual 123, 3) := by decide +kernel
theorem d_Mo_run_148 : decode b_Mo_run 148 = .ok (.goto (-18), 3) := by decide +kernel
theorem d_Mo_run_151 : decode b_Mo_run 151 = .ok (.aload_n 0, 1) := by decide +kernel
theorem d_Mo_run_152 : decode b_Mo_run 152 = .ok (.getfield 75, 3) := by decide +kernel
theorem d_Mo_run_155 : decode b_Mo_run 155 = .ok (.ifCond .eq 13, 3) := by decide +kernel
theorem d_Mo_run_158 : decode b_Mo_run 158 = .ok (.aload_n 0, 1) := by decide +kernel
theorem d_Mo_run_159 : decode b_Mo_run 159 = .ok (.iconst 0, 1) := by decide +kernel
theorem d_Mo_run_160 : decode b_Mo_run 160 = .ok (.putfield 126, 3) := by decide +kernel
theorem d_Mo_run_163 : decode b_Mo_run 163 = .ok (.aload_n 0, 1) := by decide +kernel
theorem d_Mo_run_164 : decode b_Mo_run 164 = .ok (.getfield 75, 3) := by decide +kernel
theorem d_Mo_run_167 : decode b_Mo_run 167 = .ok (.ireturn, 1) := by decide +kernel
theorem d_Mo_run_168 : decode b_Mo_run 168 = .ok (.aload_n 0, 1) := by decide +kernel
theorem d_Mo_run_169 : decode b_Mo_run 169 = .ok (.aload_n 0, 1) := by decide +kernel
theorem d_Mo_run_170 : decode b_Mo_run 170 = .ok (.getfield 116, 3) := by decide +kernel
theorem d_Mo_run_173 : decode b_Mo_run 173 = .ok (.putfield 126, 3) := by decide +kernel
theorem d_Mo_run_176 : decode b_Mo_run 176 = .ok (.iconst 0, 1) := by decide +kernel
theorem d_Mo_run_177 : decode b_Mo_run 177 = .ok (.istore_n 2, 1) := by decide +kernel
theorem d_Mo_run_178 : decode b_Mo_run 178 = .ok (.iload_n 2, 1) := by decide +kernel
theorem d_Mo_run_179 : decode b_Mo_run 179 = .ok (.bipush 7, 2) := by decide +kernel
theorem d_Mo_run_181 : decode b_Mo_run 181 = .ok (.aload_n 0, 1) := by decide +kernel
theorem d_Mo_run_182 : decode b_Mo_run 182 = .ok (.getfield 116, 3) := by decide +kernel
theorem d_Mo_run_185 : decode b_Mo_run 185 = .ok (.imul, 1) := by decide +kernel
theorem d_Mo_run_186 : decode b_Mo_run 186 = .ok (.if_icmp .ge 21, 3) := by decide +kernel
theorem d_Mo_run_189 : decode b_Mo_run 189 = .ok (.aload_n 0, 1) := by decide +kernel
theorem d_Mo_run_190 : decode b_Mo_run 190 = .ok (.getfield 26, 3) := by decide +kernel
theorem d_Mo_run_193 : decode b_Mo_run 193 = .ok (.iload_n 2, 1) := by decide +kernel
theorem d_Mo_run_194 : decode b_Mo_run 194 = .ok (.aload_n 0, 1) := by decide +kernel
theorem d_Mo_run_195 : decode b_Mo_run 195 = .ok (.getfield 23, 3) := by decide +kernel
theorem d_Mo_run_198 : decode b_Mo_run 198 = .ok (.iload_n 2, 1) := by decide +kernel
theorem d_Mo_run_199 : decode b_Mo_run 199 = .ok (.iaload, 1) := by decide +kernel
theorem d_Mo_run_200 : decode b_Mo_run 200 = .ok (.iastore, 1) := by decide +kernel
theorem d_Mo_run_201 : decode b_Mo_run 201 = .ok (.iinc 2 1, 3) := by decide +kernel
theorem d_Mo_run_204 : decode b_Mo_run 204 = .ok (.goto (-26), 3) := by decide +kernel
theorem d_Mo_run_207 : decode b_Mo_run 207 = .ok (.aload_n 0, 1) := by decide +kernel
theorem d_Mo_run_208 : decode b_Mo_run 208 = .ok (.getfield 116, 3) := by decide +kernel
theorem d_Mo_run_211 : decode b_Mo_run 211 = .ok (.ireturn, 1) := by decide +kernel
abbrev b_Mo_mark : ByteArray := prog_12_method_55_code
abbrev y_Mo_mark : MethodName := ⟨"CharOutlinesModel", "mark", "(II)I"⟩
set_option maxRecDepth 100000 in
theorem cal_Mo_mark : CalV gd_tbl "CharOutlinesModel" y_Mo_mark b_Mo_mark 4 (some .int) 2 := ⟨⟨List.mem_filter.mpr ⟨List.mem_of_getElem? (i := 1054) rfl, rfl⟩, List.mem_filter.mpr ⟨List.mem_of_getElem? (i := 68) rfl, rfl⟩, ⟨by decide, by decide⟩, by decide +kernel⟩, List.mem_filter.mpr ⟨List.mem_of_getElem? (i := 1052) rfl, rfl⟩, List.mem_filter.mpr ⟨List.mem_of_getElem? (i := 1053) rfl, rfl⟩⟩
theorem d_Mo_mark_0 : decode b_Mo_mark 0 = .ok (.iload_n 1, 1) := by decide +kernel
theorem d_Mo_mark_1 : decode b_Mo_mark 1 = .ok (.ifCond .lt 25, 3) := by decide +kernel
theorem d_Mo_mark_4 : decode b_Mo_mark 4 = .ok (.iload_n 1, 1) := by decide +kernel
theorem d_Mo_mark_5 : decode b_Mo_mark 5 = .ok (.aload_n 0, 1) := by decide +kernel
theorem d_Mo_mark_6 : decode b_Mo_mark 6 = .ok (.getfield 126, 3) := by decide +kernel
theorem d_Mo_mark_9 : decode b_Mo_mark 9 = .ok (.if_icmp .ge 17, 3) := by decide +kernel
theorem d_Mo_mark_12 : decode b_Mo_mark 12 = .ok (.iload_n 2, 1) := by decide +kernel
theorem d_Mo_mark_13 : decode b_Mo_mark 13 = .ok (.ifCond .lt 13, 3) := by decide +kernel
theorem d_Mo_mark_16 : decode b_Mo_mark 16 = .ok (.iload_n 2, 1) := by decide +kernel
theorem d_Mo_mark_17 : decode b_Mo_mark 17 = .ok (.bipush 6, 2) := by decide +kernel
theorem d_Mo_mark_19 : decode b_Mo_mark 19 = .ok (.if_icmp .gt 7, 3) := by decide +kernel
theorem d_Mo_mark_22 : decode b_Mo_mark 22 = .ok (.iconst 1, 1) := by decide +kernel
theorem d_Mo_mark_23 : decode b_Mo_mark 23 = .ok (.goto 4, 3) := by decide +kernel
theorem d_Mo_mark_26 : decode b_Mo_mark 26 = .ok (.iconst 0, 1) := by decide +kernel
theorem d_Mo_mark_27 : decode b_Mo_mark 27 = .ok (.istore_n 3, 1) := by decide +kernel
theorem d_Mo_mark_28 : decode b_Mo_mark 28 = .ok (.aload_n 0, 1) := by decide +kernel
theorem d_Mo_mark_29 : decode b_Mo_mark 29 = .ok (.iload_n 3, 1) := by decide +kernel
theorem d_Mo_mark_30 : decode b_Mo_mark 30 = .ok (.ifCond .eq 7, 3) := by decide +kernel
theorem d_Mo_mark_33 : decode b_Mo_mark 33 = .ok (.iconst 0, 1) := by decide +kernel
theorem d_Mo_mark_34 : decode b_Mo_mark 34 = .ok (.goto 4, 3) := by decide +kernel
theorem d_Mo_mark_37 : decode b_Mo_mark 37 = .ok (.iconst 1, 1) := by decide +kernel
theorem d_Mo_mark_38 : decode b_Mo_mark 38 = .ok (.invokevirtual 51, 3) := by decide +kernel
theorem d_Mo_mark_41 : decode b_Mo_mark 41 = .ok (.ifCond .eq 7, 3) := by decide +kernel
theorem d_Mo_mark_44 : decode b_Mo_mark 44 = .ok (.iconst 0, 1) := by decide +kernel
theorem d_Mo_mark_45 : decode b_Mo_mark 45 = .ok (.goto 14, 3) := by decide +kernel
theorem d_Mo_mark_48 : decode b_Mo_mark 48 = .ok (.aload_n 0, 1) := by decide +kernel
theorem d_Mo_mark_49 : decode b_Mo_mark 49 = .ok (.getfield 26, 3) := by decide +kernel
theorem d_Mo_mark_52 : decode b_Mo_mark 52 = .ok (.bipush 7, 2) := by decide +kernel
theorem d_Mo_mark_54 : decode b_Mo_mark 54 = .ok (.iload_n 1, 1) := by decide +kernel
theorem d_Mo_mark_55 : decode b_Mo_mark 55 = .ok (.imul, 1) := by decide +kernel
theorem d_Mo_mark_56 : decode b_Mo_mark 56 = .ok (.iload_n 2, 1) := by decide +kernel
theorem d_Mo_mark_57 : decode b_Mo_mark 57 = .ok (.iadd, 1) := by decide +kernel
theorem d_Mo_mark_58 : decode b_Mo_mark 58 = .ok (.iaload, 1) := by decide +kernel
theorem d_Mo_mark_59 : decode b_Mo_mark 59 = .ok (.ireturn, 1) := by decide +kernel
abbrev b_Mo_last : ByteArray := prog_12_method_56_code
abbrev y_Mo_last : MethodName := ⟨"CharOutlinesModel", "last", "(I)I"⟩
set_option maxRecDepth 100000 in
theorem cal_Mo_last : CalV gd_tbl "CharOutlinesModel" y_Mo_last b_Mo_last 2 (some .int) 1 := ⟨⟨List.mem_filter.mpr ⟨List.mem_of_getElem? (i := 1058) rfl, rfl⟩, List.mem_filter.mpr ⟨List.mem_of_getElem? (i := 68) rfl, rfl⟩, ⟨by decide, by decide⟩, by decide +kernel⟩, List.mem_filter.mpr ⟨List.mem_of_getElem? (i := 1056) rfl, rfl⟩, List.mem_filter.mpr ⟨List.mem_of_getElem? (i := 1057) rfl, rfl⟩⟩
theorem d_Mo_last_0 : decode b_Mo_last 0 = .ok (.aload_n 0, 1) := by decide +kernel
theorem d_Mo_last_1 : decode b_Mo_last 1 = .ok (.iconst 0, 1) := by decide +kernel
theorem d_Mo_last_2 : decode b_Mo_last 2 = .ok (.putfield 44, 3) := by decide +kernel
theorem d_Mo_last_5 : decode b_Mo_last 5 = .ok (.aload_n 0, 1) := by decide +kernel
theorem d_Mo_last_6 : decode b_Mo_last 6 = .ok (.getfield 85, 3) := by decide +kernel
theorem d_Mo_last_9 : decode b_Mo_last 9 = .ok (.ifCond .ne 5, 3) := by decide +kernel
theorem d_Mo_last_12 : decode b_Mo_last 12 = .ok (.iconst (-1), 1) := by decide +kernel
theorem d_Mo_last_13 : decode b_Mo_last 13 = .ok (.ireturn, 1) := by decide +kernel
theorem d_Mo_last_14 : decode b_Mo_last 14 = .ok (.iload_n 1, 1) := by decide +kernel
theorem d_Mo_last_15 : decode b_Mo_last 15 = .ok (.tableswitch 75 0 5 #[37, 42, 47, 60, 65, 70], 37) := by decide +kernel
theorem d_Mo_last_52 : decode b_Mo_last 52 = .ok (.aload_n 0, 1) := by decide +kernel
theorem d_Mo_last_53 : decode b_Mo_last 53 = .ok (.getfield 92, 3) := by decide +kernel
theorem d_Mo_last_56 : decode b_Mo_last 56 = .ok (.ireturn, 1) := by decide +kernel
theorem d_Mo_last_57 : decode b_Mo_last 57 = .ok (.aload_n 0, 1) := by decide +kernel
theorem d_Mo_last_58 : decode b_Mo_last 58 = .ok (.getfield 95, 3) := by decide +kernel
theorem d_Mo_last_61 : decode b_Mo_last 61 = .ok (.ireturn, 1) := by decide +kernel
theorem d_Mo_last_62 : decode b_Mo_last 62 = .ok (.aload_n 0, 1) := by decide +kernel
theorem d_Mo_last_63 : decode b_Mo_last 63 = .ok (.getfield 98, 3) := by decide +kernel
theorem d_Mo_last_66 : decode b_Mo_last 66 = .ok (.ifCond .eq 7, 3) := by decide +kernel
theorem d_Mo_last_69 : decode b_Mo_last 69 = .ok (.iconst 1, 1) := by decide +kernel
theorem d_Mo_last_70 : decode b_Mo_last 70 = .ok (.goto 4, 3) := by decide +kernel
theorem d_Mo_last_73 : decode b_Mo_last 73 = .ok (.iconst 0, 1) := by decide +kernel
theorem d_Mo_last_74 : decode b_Mo_last 74 = .ok (.ireturn, 1) := by decide +kernel
theorem d_Mo_last_75 : decode b_Mo_last 75 = .ok (.aload_n 0, 1) := by decide +kernel
theorem d_Mo_last_76 : decode b_Mo_last 76 = .ok (.getfield 101, 3) := by decide +kernel
theorem d_Mo_last_79 : decode b_Mo_last 79 = .ok (.ireturn, 1) := by decide +kernel
theorem d_Mo_last_80 : decode b_Mo_last 80 = .ok (.aload_n 0, 1) := by decide +kernel
theorem d_Mo_last_81 : decode b_Mo_last 81 = .ok (.getfield 82, 3) := by decide +kernel
theorem d_Mo_last_84 : decode b_Mo_last 84 = .ok (.ireturn, 1) := by decide +kernel
theorem d_Mo_last_85 : decode b_Mo_last 85 = .ok (.aload_n 0, 1) := by decide +kernel
theorem d_Mo_last_86 : decode b_Mo_last 86 = .ok (.getfield 72, 3) := by decide +kernel
theorem d_Mo_last_89 : decode b_Mo_last 89 = .ok (.ireturn, 1) := by decide +kernel
theorem d_Mo_last_90 : decode b_Mo_last 90 = .ok (.iconst (-1), 1) := by decide +kernel
theorem d_Mo_last_91 : decode b_Mo_last 91 = .ok (.ireturn, 1) := by decide +kernel
set_option maxRecDepth 100000 in
theorem fl_Mo_126 : (Jvm.Cond.fieldLink "CharOutlinesModel" (126 : Nat) "CharOutlinesModel" "shown" "I") ∈ gd_tbl := List.mem_filter.mpr ⟨List.mem_of_getElem? (i := 759) rfl, rfl⟩
set_option maxRecDepth 100000 in
theorem fl_Mo_44 : (Jvm.Cond.fieldLink "CharOutlinesModel" (44 : Nat) "CharOutlinesModel" "fault" "I") ∈ gd_tbl := List.mem_filter.mpr ⟨List.mem_of_getElem? (i := 751) rfl, rfl⟩
set_option maxRecDepth 100000 in
theorem fl_Mo_48 : (Jvm.Cond.fieldLink "CharOutlinesModel" (48 : Nat) "CharOutlinesModel" "size" "I") ∈ gd_tbl := List.mem_filter.mpr ⟨List.mem_of_getElem? (i := 752) rfl, rfl⟩
set_option maxRecDepth 100000 in
theorem fl_Mo_85 : (Jvm.Cond.fieldLink "CharOutlinesModel" (85 : Nat) "CharOutlinesModel" "wasRun" "Z") ∈ gd_tbl := List.mem_filter.mpr ⟨List.mem_of_getElem? (i := 761) rfl, rfl⟩
set_option maxRecDepth 100000 in
theorem ml_Mo_51 : (Jvm.Cond.methodLink "CharOutlinesModel" (51 : Nat) ({ cls := "CharOutlinesModel", name := "refused", desc := "(I)Z" } : Jvm.MethodName)) ∈ gd_tbl := List.mem_filter.mpr ⟨List.mem_of_getElem? (i := 851) rfl, rfl⟩
set_option maxRecDepth 100000 in
theorem ml_Mo_61 : (Jvm.Cond.methodLink "CharOutlinesModel" (61 : Nat) ({ cls := "CharOutlinesModel", name := "isShelf", desc := "()Z" } : Jvm.MethodName)) ∈ gd_tbl := List.mem_filter.mpr ⟨List.mem_of_getElem? (i := 863) rfl, rfl⟩
set_option maxHeartbeats 1000000 in
set_option maxRecDepth 100000 in
theorem c_Mo_thrown (l : Launch) (D : va_G) (cB cI cJ : ClassId) (mo m_row m_shelves m_many m_widths m_mark m_shownMark m_stack m_places m_kinds m_ats m_ends : Nat) (z_fault z_size z_marks z_shown z_wasRun z_wrong z_ended z_steps z_hints z_hasWidth z_width z_first z_moved z_deepest z_x z_y z_top z_depth : Int32) : Ro l D classes (TY cB cI cJ) gd_tbl nx_tbl y_Mo_thrown b_Mo_thrown 1 (some .int) ({ frames := 0, cells := 0, slots := 0, locals := 0 }) [.ref mo] [(mo, .inr (8, [.int z_fault, .int z_size, .ref m_row, .ref m_shelves, .ref m_many, .ref m_widths, .int z_marks, .ref m_mark, .int z_shown, .ref m_shownMark, .int z_wasRun, .int z_wrong, .int z_ended, .int z_steps, .int z_hints, .int z_hasWidth, .int z_width, .int z_first, .int z_moved, .int z_deepest, .int z_x, .int z_y, .int z_top, .ref m_stack, .ref m_places, .int z_depth, .ref m_kinds, .ref m_ats, .ref m_ends]))] (fun v => v = .int z_fault) := by
  refine Ro.intro (by decide +kernel) nx_ok (Nat.le_of_ble_eq_true rfl) ?_
  intro p_ e_ s_ m_ args_ below_ meth_ c_ A_ ls hx hb hml hown hts hr hlk hnm hZ hP hD hl
  have hl : lv_has ls 1 [(0, .ref mo)] := hl
  refine lv_aload_n hx hb d_Mo_thrown_0 rfl (lv_at hl 0 rfl) ?_
  refine va_get (D := D) (ci := 8) (v := .int z_fault) (C := R_Mo) (T := F_Mo) (N := 29) hx hb hts i_Mo hown hZ.1 hP 0 rfl rfl 0 (by decide) (hts _ fl_Mo_44) (fun _ h9 => h9) rfl d_Mo_thrown_1 ?_
  exact r_iret hx hb hr hlk d_Mo_thrown_4 rfl
set_option maxHeartbeats 1000000 in
set_option maxRecDepth 100000 in
theorem c_Mo_refused (l : Launch) (D : va_G) (cB cI cJ : ClassId) (mo m_row m_shelves m_many m_widths m_mark m_shownMark m_stack m_places m_kinds m_ats m_ends : Nat) (z_fault z_size z_marks z_shown z_wasRun z_wrong z_ended z_steps z_hints z_hasWidth z_width z_first z_moved z_deepest z_x z_y z_top z_depth : Int32) (x : Int32) : Tr l D classes (TY cB cI cJ) gd_tbl nx_tbl y_Mo_refused b_Mo_refused 2 (some .boolean) ({ frames := 0, cells := 0, slots := 0, locals := 0 }) [.ref mo, .int x] [(mo, .inr (8, [.int z_fault, .int z_size, .ref m_row, .ref m_shelves, .ref m_many, .ref m_widths, .int z_marks, .ref m_mark, .int z_shown, .ref m_shownMark, .int z_wasRun, .int z_wrong, .int z_ended, .int z_steps, .int z_hints, .int z_hasWidth, .int z_width, .int z_first, .int z_moved, .int z_deepest, .int z_x, .int z_y, .int z_top, .ref m_stack, .ref m_places, .int z_depth, .ref m_kinds, .ref m_ats, .ref m_ends]))] (pI0 (fun r w => r = (if 0 < x then 1 else 0) ∧ w = [(mo, .inr (8, [.int x, .int z_size, .ref m_row, .ref m_shelves, .ref m_many, .ref m_widths, .int z_marks, .ref m_mark, .int z_shown, .ref m_shownMark, .int z_wasRun, .int z_wrong, .int z_ended, .int z_steps, .int z_hints, .int z_hasWidth, .int z_width, .int z_first, .int z_moved, .int z_deepest, .int z_x, .int z_y, .int z_top, .ref m_stack, .ref m_places, .int z_depth, .ref m_kinds, .ref m_ats, .ref m_ends]))])) := by
  refine Tr.intro (by decide +kernel) nx_ok (Nat.le_of_ble_eq_true rfl) ?_
  intro p_ e_ s_ m_ args_ below_ meth_ c_ A_ ls hx hb hml hown hts hr hlk hnm hZ hP hD hS hl
  have hl : lv_has ls 2 [(0, .ref mo), (1, .int x)] := hl
  refine lv_aload_n hx hb d_Mo_refused_0 rfl (lv_at hl 0 rfl) ?_
  refine lv_iload_n hx hb d_Mo_refused_1 rfl (lv_at hl 1 rfl) ?_
  refine va_put (D := D) (ci := 8) (v := .int x) (ty := .int) (C := R_Mo) (T := F_Mo) (N := 29) hx hb hts i_Mo t_Mo t_Mo_ok n_Mo hown hZ.1 hP hD hS 0 rfl rfl 0 (by decide) (hts _ fl_Mo_44) (fun _ h9 => h9) rfl (by decide +kernel) rfl rfl (Nat.le_of_ble_eq_true rfl) d_Mo_refused_2 (fun H locs hP hD hS => ?_)
  have hP : va_P D classes [(mo, .inr (8, [.int x, .int z_size, .ref m_row, .ref m_shelves, .ref m_many, .ref m_widths, .int z_marks, .ref m_mark, .int z_shown, .ref m_shownMark, .int z_wasRun, .int z_wrong, .int z_ended, .int z_steps, .int z_hints, .int z_hasWidth, .int z_width, .int z_first, .int z_moved, .int z_deepest, .int z_x, .int z_y, .int z_top, .ref m_stack, .ref m_places, .int z_depth, .ref m_kinds, .ref m_ats, .ref m_ends]))] H := hP
  have hD : va_D A_ [(mo, .inr (8, [.int x, .int z_size, .ref m_row, .ref m_shelves, .ref m_many, .ref m_widths, .int z_marks, .ref m_mark, .int z_shown, .ref m_shownMark, .int z_wasRun, .int z_wrong, .int z_ended, .int z_steps, .int z_hints, .int z_hasWidth, .int z_width, .int z_first, .int z_moved, .int z_deepest, .int z_x, .int z_y, .int z_top, .ref m_stack, .ref m_places, .int z_depth, .ref m_kinds, .ref m_ats, .ref m_ends]))] := hD
  refine lv_iload_n hx hb d_Mo_refused_5 rfl (lv_at hl 1 rfl) ?_
  refine lv_if_le (tgt := 13) hx hb d_Mo_refused_6 (by decide) (fun c_6 => ?_) (fun c_6 => ?_)
  · refine lv_iconst (v := 0) hx hb d_Mo_refused_13 (by decide) ?_
    exact t_zret hx hb hr hlk (by decide) d_Mo_refused_14 hP hD hS ⟨_, rfl, rfl, rfl, by simp [c_6, Int32.not_lt, Int32.not_le], rfl⟩
  · refine lv_iconst (v := 1) hx hb d_Mo_refused_9 (by decide) ?_
    refine lv_goto (tgt := 14) hx hb d_Mo_refused_10 (by decide) ?_
    exact t_zret hx hb hr hlk (by decide) d_Mo_refused_14 hP hD hS ⟨_, rfl, rfl, rfl, by simp [c_6, Int32.not_lt, Int32.not_le], rfl⟩
set_option maxHeartbeats 1000000 in
set_option maxRecDepth 100000 in
theorem c_Mo_feed (l : Launch) (D : va_G) (cB cI cJ : ClassId) (mo m_row m_shelves m_many m_widths m_mark m_shownMark m_stack m_places m_kinds m_ats m_ends : Nat) (z_fault z_marks z_shown z_wasRun z_wrong z_ended z_steps z_hints z_hasWidth z_width z_first z_moved z_deepest z_x z_y z_top z_depth : Int32) (g_row : Nat → Int32) (n : Nat) (x1 x2 x3 x4 x5 : Int32) (hn : n + 20 ≤ 16384) : Tr l D classes (TY cB cI cJ) gd_tbl nx_tbl y_Mo_feed b_Mo_feed 8 (some .int) ({ frames := 0, cells := 0, slots := 0, locals := 0 }) [.ref mo, .int x1, .int x2, .int x3, .int x4, .int x5] [(mo, .inr (8, [.int z_fault, .int (nI n), .ref m_row, .ref m_shelves, .ref m_many, .ref m_widths, .int z_marks, .ref m_mark, .int z_shown, .ref m_shownMark, .int z_wasRun, .int z_wrong, .int z_ended, .int z_steps, .int z_hints, .int z_hasWidth, .int z_width, .int z_first, .int z_moved, .int z_deepest, .int z_x, .int z_y, .int z_top, .ref m_stack, .ref m_places, .int z_depth, .ref m_kinds, .ref m_ats, .ref m_ends])), (m_row, .inl (cI, 16384, .inl g_row))] (pI0 (fun r w => r = nI (n + 20) ∧ ∃ g : Nat → Int32, w = [(mo, .inr (8, [.int 0, .int (nI (n + 20)), .ref m_row, .ref m_shelves, .ref m_many, .ref m_widths, .int z_marks, .ref m_mark, .int z_shown, .ref m_shownMark, .int z_wasRun, .int z_wrong, .int z_ended, .int z_steps, .int z_hints, .int z_hasWidth, .int z_width, .int z_first, .int z_moved, .int z_deepest, .int z_x, .int z_y, .int z_top, .ref m_stack, .ref m_places, .int z_depth, .ref m_kinds, .ref m_ats, .ref m_ends])), (m_row, .inl (cI, 16384, .inl g))])) := by
  refine Tr.intro (by decide +kernel) nx_ok (Nat.le_of_ble_eq_true rfl) ?_
  intro p_ e_ s_ m_ args_ below_ meth_ c_ A_ ls hx hb hml hown hts hr hlk hnm hZ hP hD hS hl
  have hl : lv_has ls 8 [(0, .ref mo), (1, .int x1), (2, .int x2), (3, .int x3), (4, .int x4), (5, .int x5)] := hl
  refine lv_aload_n hx hb d_Mo_feed_0 rfl (lv_at hl 0 rfl) ?_
  refine lv_iconst (v := 0) hx hb d_Mo_feed_1 (by decide) ?_
  refine va_put (D := D) (ci := 8) (v := .int 0) (ty := .int) (C := R_Mo) (T := F_Mo) (N := 29) hx hb hts i_Mo t_Mo t_Mo_ok n_Mo hown hZ.1 hP hD hS 0 rfl rfl 0 (by decide) (hts _ fl_Mo_44) (fun _ h9 => h9) rfl (by decide +kernel) rfl rfl (Nat.le_of_ble_eq_true rfl) d_Mo_feed_2 (fun H locs hP hD hS => ?_)
  have hP : va_P D classes [(mo, .inr (8, [.int 0, .int (nI n), .ref m_row, .ref m_shelves, .ref m_many, .ref m_widths, .int z_marks, .ref m_mark, .int z_shown, .ref m_shownMark, .int z_wasRun, .int z_wrong, .int z_ended, .int z_steps, .int z_hints, .int z_hasWidth, .int z_width, .int z_first, .int z_moved, .int z_deepest, .int z_x, .int z_y, .int z_top, .ref m_stack, .ref m_places, .int z_depth, .ref m_kinds, .ref m_ats, .ref m_ends])), (m_row, .inl (cI, 16384, .inl g_row))] H := hP
  have hD : va_D A_ [(mo, .inr (8, [.int 0, .int (nI n), .ref m_row, .ref m_shelves, .ref m_many, .ref m_widths, .int z_marks, .ref m_mark, .int z_shown, .ref m_shownMark, .int z_wasRun, .int z_wrong, .int z_ended, .int z_steps, .int z_hints, .int z_hasWidth, .int z_width, .int z_first, .int z_moved, .int z_deepest, .int z_x, .int z_y, .int z_top, .ref m_stack, .ref m_places, .int z_depth, .ref m_kinds, .ref m_ats, .ref m_ends])), (m_row, .inl (cI, 16384, .inl g_row))] := hD
  refine lv_aload_n hx hb d_Mo_feed_5 rfl (lv_at hl 0 rfl) ?_
  refine va_get (D := D) (ci := 8) (v := .int (nI n)) (C := R_Mo) (T := F_Mo) (N := 29) hx hb hts i_Mo hown hZ.1 hP 0 rfl rfl 1 (by decide) (hts _ fl_Mo_48) (fun _ h9 => h9) rfl d_Mo_feed_6 ?_
  refine lv_bipush (v := 20) hx hb d_Mo_feed_9 (by decide) ?_
  refine lv_iadd hx hb d_Mo_feed_11 ?_
  refine lv_tv (y := nI (n + 20)) (nI_add n 20) ?_
  refine lv_sipush (v := 16384) hx hb d_Mo_feed_12 (by decide) ?_
  refine lv_icmp_le (tgt := 20) hx hb d_Mo_feed_15 (by decide) (fun c_15 => ?_) (fun c_15 => absurd (nI_le (b := 16384) (by omega) (by omega)) c_15)
  refine lv_iconst (v := 0) hx hb d_Mo_feed_20 (by decide) ?_
  refine lv_istore (lv' := [(6, .int 0), (0, .ref mo), (1, .int x1), (2, .int x2), (3, .int x3), (4, .int x4), (5, .int x5)]) hx hb d_Mo_feed_21 hl (by decide) rfl (fun ls hl => ?_)
  refine lv_iload hx hb d_Mo_feed_23 (lv_at hl 0 rfl) ?_
  refine lv_bipush (v := 20) hx hb d_Mo_feed_25 (by decide) ?_
  refine lv_icmp_ge (tgt := 120) hx hb d_Mo_feed_27 (by decide) (fun c_27 => absurd c_27 (by decide)) (fun c_27 => ?_)
  clear c_27
  refine lv_iload hx hb d_Mo_feed_30 (lv_at hl 0 rfl) ?_
  refine lv_iconst (v := 4) hx hb d_Mo_feed_32 (by decide) ?_
  refine lv_icmp_ge (tgt := 40) hx hb d_Mo_feed_33 (by decide) (fun c_33 => absurd c_33 (by decide)) (fun c_33 => ?_)
  clear c_33
  refine lv_iload_n hx hb d_Mo_feed_36 rfl (lv_at hl 2 rfl) ?_
  refine lv_goto (tgt := 76) hx hb d_Mo_feed_37 (by decide) ?_
  refine lv_istore (lv' := [(7, .int x1), (6, .int 0), (0, .ref mo), (1, .int x1), (2, .int x2), (3, .int x3), (4, .int x4), (5, .int x5)]) hx hb d_Mo_feed_76 hl (by decide) rfl (fun ls hl => ?_)
  refine lv_aload_n hx hb d_Mo_feed_78 rfl (lv_at hl 2 rfl) ?_
  refine va_get (D := D) (ci := 8) (v := .ref m_row) (C := R_Mo) (T := F_Mo) (N := 29) hx hb hts i_Mo hown hZ.1 hP 0 rfl rfl 2 (by decide) (hts _ fl_Mo_7) (fun _ h9 => h9) rfl d_Mo_feed_79 ?_
  refine lv_aload_n hx hb d_Mo_feed_82 rfl (lv_at hl 2 rfl) ?_
  refine va_get (D := D) (ci := 8) (v := .int (nI n)) (C := R_Mo) (T := F_Mo) (N := 29) hx hb hts i_Mo hown hZ.1 hP 0 rfl rfl 1 (by decide) (hts _ fl_Mo_48) (fun _ h9 => h9) rfl d_Mo_feed_83 ?_
  refine lv_iload hx hb d_Mo_feed_86 (lv_at hl 0 rfl) ?_
  refine lv_bipush (v := 24) hx hb d_Mo_feed_88 (by decide) ?_
  refine lv_bipush (v := 8) hx hb d_Mo_feed_90 (by decide) ?_
  refine lv_iload hx hb d_Mo_feed_92 (lv_at hl 1 rfl) ?_
  refine lv_iconst (v := 4) hx hb d_Mo_feed_94 (by decide) ?_
  refine lv_irem hx hb d_Mo_feed_95 (by decide) ?_
  refine lv_tv (y := 0) (by decide) ?_
  refine lv_imul hx hb d_Mo_feed_96 ?_
  refine lv_tv (y := 0) (by decide) ?_
  refine lv_isub hx hb d_Mo_feed_97 ?_
  refine lv_tv (y := 24) (by decide) ?_
  refine lv_ishr hx hb d_Mo_feed_98 ?_
  refine lv_sipush (v := 255) hx hb d_Mo_feed_99 (by decide) ?_
  refine lv_iand hx hb d_Mo_feed_102 ?_
  refine va_iast hx hb hZ.1 hP hD hS 1 1 rfl rfl (vp_in_nI (by omega) (by omega)) d_Mo_feed_103 (fun H locs hP hD hS => ?_)
  rw [show ((nI n).toNatClampNeg) = n from nI_clamp (by omega)] at hP hD
  have hP : va_P D classes [(mo, .inr (8, [.int 0, .int (nI n), .ref m_row, .ref m_shelves, .ref m_many, .ref m_widths, .int z_marks, .ref m_mark, .int z_shown, .ref m_shownMark, .int z_wasRun, .int z_wrong, .int z_ended, .int z_steps, .int z_hints, .int z_hasWidth, .int z_width, .int z_first, .int z_moved, .int z_deepest, .int z_x, .int z_y, .int z_top, .ref m_stack, .ref m_places, .int z_depth, .ref m_kinds, .ref m_ats, .ref m_ends])), (m_row, .inl (cI, 16384, .inl (upd g_row n ((x1 >>> (24 &&& 31)) &&& 255))))] H := hP
  have hD : va_D A_ [(mo, .inr (8, [.int 0, .int (nI n), .ref m_row, .ref m_shelves, .ref m_many, .ref m_widths, .int z_marks, .ref m_mark, .int z_shown, .ref m_shownMark, .int z_wasRun, .int z_wrong, .int z_ended, .int z_steps, .int z_hints, .int z_hasWidth, .int z_width, .int z_first, .int z_moved, .int z_deepest, .int z_x, .int z_y, .int z_top, .ref m_stack, .ref m_places, .int z_depth, .ref m_kinds, .ref m_ats, .ref m_ends])), (m_row, .inl (cI, 16384, .inl (upd g_row n ((x1 >>> (24 &&& 31)) &&& 255))))] := hD
  refine lv_aload_n hx hb d_Mo_feed_104 rfl (lv_at hl 2 rfl) ?_
  refine lv_dup hx hb d_Mo_feed_105 rfl ?_
  refine va_get (D := D) (ci := 8) (v := .int (nI n)) (C := R_Mo) (T := F_Mo) (N := 29) hx hb hts i_Mo hown hZ.1 hP 0 rfl rfl 1 (by decide) (hts _ fl_Mo_48) (fun _ h9 => h9) rfl d_Mo_feed_106 ?_
  refine lv_iconst (v := 1) hx hb d_Mo_feed_109 (by decide) ?_
  refine lv_iadd hx hb d_Mo_feed_110 ?_
  refine lv_tv (y := nI (n + 1)) (nI_add n 1) ?_
  refine va_put (D := D) (ci := 8) (v := .int (nI (n + 1))) (ty := .int) (C := R_Mo) (T := F_Mo) (N := 29) hx hb hts i_Mo t_Mo t_Mo_ok n_Mo hown hZ.1 hP hD hS 0 rfl rfl 1 (by decide) (hts _ fl_Mo_48) (fun _ h9 => h9) rfl (by decide +kernel) rfl rfl (Nat.le_of_ble_eq_true rfl) d_Mo_feed_111 (fun H locs hP hD hS => ?_)
  have hP : va_P D classes [(mo, .inr (8, [.int 0, .int (nI (n + 1)), .ref m_row, .ref m_shelves, .ref m_many, .ref m_widths, .int z_marks, .ref m_mark, .int z_shown, .ref m_shownMark, .int z_wasRun, .int z_wrong, .int z_ended, .int z_steps, .int z_hints, .int z_hasWidth, .int z_width, .int z_first, .int z_moved, .int z_deepest, .int z_x, .int z_y, .int z_top, .ref m_stack, .ref m_places, .int z_depth, .ref m_kinds, .ref m_ats, .ref m_ends])), (m_row, .inl (cI, 16384, .inl (upd g_row n ((x1 >>> (24 &&& 31)) &&& 255))))] H := hP
  have hD : va_D A_ [(mo, .inr (8, [.int 0, .int (nI (n + 1)), .ref m_row, .ref m_shelves, .ref m_many, .ref m_widths, .int z_marks, .ref m_mark, .int z_shown, .ref m_shownMark, .int z_wasRun, .int z_wrong, .int z_ended, .int z_steps, .int z_hints, .int z_hasWidth, .int z_width, .int z_first, .int z_moved, .int z_deepest, .int z_x, .int z_y, .int z_top, .ref m_stack, .ref m_places, .int z_depth, .ref m_kinds, .ref m_ats, .ref m_ends])), (m_row, .inl (cI, 16384, .inl (upd g_row n ((x1 >>> (24 &&& 31)) &&& 255))))] := hD
  refine lv_iinc (v := 1) (lv' := [(6, .int 1), (7, .int x1), (0, .ref mo), (1, .int x1), (2, .int x2), (3, .int x3), (4, .int x4), (5, .int x5)]) hx hb d_Mo_feed_114 hl (k := 1) rfl (by decide) (by decide) rfl (fun ls hl => ?_)
  refine lv_goto (tgt := 23) hx hb d_Mo_feed_117 (by decide) ?_
  refine lv_iload hx hb d_Mo_feed_23 (lv_at hl 0 rfl) ?_
  refine lv_bipush (v := 20) hx hb d_Mo_feed_25 (by decide) ?_
  refine lv_icmp_ge (tgt := 120) hx hb d_Mo_feed_27 (by decide) (fun c_27 => absurd c_27 (by decide)) (fun c_27 => ?_)
  clear c_27
  refine lv_iload hx hb d_Mo_feed_30 (lv_at hl 0 rfl) ?_
  refine lv_iconst (v := 4) hx hb d_Mo_feed_32 (by decide) ?_
  refine lv_icmp_ge (tgt := 40) hx hb d_Mo_feed_33 (by decide) (fun c_33 => absurd c_33 (by decide)) (fun c_33 => ?_)
  clear c_33
  refine lv_iload_n hx hb d_Mo_feed_36 rfl (lv_at hl 3 rfl) ?_
  refine lv_goto (tgt := 76) hx hb d_Mo_feed_37 (by decide) ?_
  refine lv_istore (lv' := [(7, .int x1), (6, .int 1), (0, .ref mo), (1, .int x1), (2, .int x2), (3, .int x3), (4, .int x4), (5, .int x5)]) hx hb d_Mo_feed_76 hl (by decide) rfl (fun ls hl => ?_)
  refine lv_aload_n hx hb d_Mo_feed_78 rfl (lv_at hl 2 rfl) ?_
  refine va_get (D := D) (ci := 8) (v := .ref m_row) (C := R_Mo) (T := F_Mo) (N := 29) hx hb hts i_Mo hown hZ.1 hP 0 rfl rfl 2 (by decide) (hts _ fl_Mo_7) (fun _ h9 => h9) rfl d_Mo_feed_79 ?_
  refine lv_aload_n hx hb d_Mo_feed_82 rfl (lv_at hl 2 rfl) ?_
  refine va_get (D := D) (ci := 8) (v := .int (nI (n + 1))) (C := R_Mo) (T := F_Mo) (N := 29) hx hb hts i_Mo hown hZ.1 hP 0 rfl rfl 1 (by decide) (hts _ fl_Mo_48) (fun _ h9 => h9) rfl d_Mo_feed_83 ?_
  refine lv_iload hx hb d_Mo_feed_86 (lv_at hl 0 rfl) ?_
  refine lv_bipush (v := 24) hx hb d_Mo_feed_88 (by decide) ?_
  refine lv_bipush (v := 8) hx hb d_Mo_feed_90 (by decide) ?_
  refine lv_iload hx hb d_Mo_feed_92 (lv_at hl 1 rfl) ?_
  refine lv_iconst (v := 4) hx hb d_Mo_feed_94 (by decide) ?_
  refine lv_irem hx hb d_Mo_feed_95 (by decide) ?_
  refine lv_tv (y := 1) (by decide) ?_
  refine lv_imul hx hb d_Mo_feed_96 ?_
  refine lv_tv (y := 8) (by decide) ?_
  refine lv_isub hx hb d_Mo_feed_97 ?_
  refine lv_tv (y := 16) (by decide) ?_
  refine lv_ishr hx hb d_Mo_feed_98 ?_
  refine lv_sipush (v := 255) hx hb d_Mo_feed_99 (by decide) ?_
  refine lv_iand hx hb d_Mo_feed_102 ?_
  refine va_iast hx hb hZ.1 hP hD hS 1 1 rfl rfl (vp_in_nI (by omega) (by omega)) d_Mo_feed_103 (fun H locs hP hD hS => ?_)
  rw [show ((nI (n + 1)).toNatClampNeg) = n + 1 from nI_clamp (by omega)] at hP hD
  have hP : va_P D classes [(mo, .inr (8, [.int 0, .int (nI (n + 1)), .ref m_row, .ref m_shelves, .ref m_many, .ref m_widths, .int z_marks, .ref m_mark, .int z_shown, .ref m_shownMark, .int z_wasRun, .int z_wrong, .int z_ended, .int z_steps, .int z_hints, .int z_hasWidth, .int z_width, .int z_first, .int z_moved, .int z_deepest, .int z_x, .int z_y, .int z_top, .ref m_stack, .ref m_places, .int z_depth, .ref m_kinds, .ref m_ats, .ref m_ends])), (m_row, .inl (cI, 16384, .inl (upd (upd g_row n ((x1 >>> (24 &&& 31)) &&& 255)) (n + 1) ((x1 >>> (16 &&& 31)) &&& 255))))] H := hP
  have hD : va_D A_ [(mo, .inr (8, [.int 0, .int (nI (n + 1)), .ref m_row, .ref m_shelves, .ref m_many, .ref m_widths, .int z_marks, .ref m_mark, .int z_shown, .ref m_shownMark, .int z_wasRun, .int z_wrong, .int z_ended, .int z_steps, .int z_hints, .int z_hasWidth, .int z_width, .int z_first, .int z_moved, .int z_deepest, .int z_x, .int z_y, .int z_top, .ref m_stack, .ref m_places, .int z_depth, .ref m_kinds, .ref m_ats, .ref m_ends])), (m_row, .inl (cI, 16384, .inl (upd (upd g_row n ((x1 >>> (24 &&& 31)) &&& 255)) (n + 1) ((x1 >>> (16 &&& 31)) &&& 255))))] := hD
  refine lv_aload_n hx hb d_Mo_feed_104 rfl (lv_at hl 2 rfl) ?_
  refine lv_dup hx hb d_Mo_feed_105 rfl ?_
  refine va_get (D := D) (ci := 8) (v := .int (nI (n + 1))) (C := R_Mo) (T := F_Mo) (N := 29) hx hb hts i_Mo hown hZ.1 hP 0 rfl rfl 1 (by decide) (hts _ fl_Mo_48) (fun _ h9 => h9) rfl d_Mo_feed_106 ?_
  refine lv_iconst (v := 1) hx hb d_Mo_feed_109 (by decide) ?_
  refine lv_iadd hx hb d_Mo_feed_110 ?_
  refine lv_tv (y := nI (n + 1 + 1)) (nI_add (n + 1) 1) ?_
  refine va_put (D := D) (ci := 8) (v := .int (nI (n + 1 + 1))) (ty := .int) (C := R_Mo) (T := F_Mo) (N := 29) hx hb hts i_Mo t_Mo t_Mo_ok n_Mo hown hZ.1 hP hD hS 0 rfl rfl 1 (by decide) (hts _ fl_Mo_48) (fun _ h9 => h9) rfl (by decide +kernel) rfl rfl (Nat.le_of_ble_eq_true rfl) d_Mo_feed_111 (fun H locs hP hD hS => ?_)
  have hP : va_P D classes [(mo, .inr (8, [.int 0, .int (nI (n + 1 + 1)), .ref m_row, .ref m_shelves, .ref m_many, .ref m_widths, .int z_marks, .ref m_mark, .int z_shown, .ref m_shownMark, .int z_wasRun, .int z_wrong, .int z_ended, .int z_steps, .int z_hints, .int z_hasWidth, .int z_width, .int z_first, .int z_moved, .int z_deepest, .int z_x, .int z_y, .int z_top, .ref m_stack, .ref m_places, .int z_depth, .ref m_kinds, .ref m_ats, .ref m_ends])), (m_row, .inl (cI, 16384, .inl (upd (upd g_row n ((x1 >>> (24 &&& 31)) &&& 255)) (n + 1) ((x1 >>> (16 &&& 31)) &&& 255))))] H := hP
  have hD : va_D A_ [(mo, .inr (8, [.int 0, .int (nI (n + 1 + 1)), .ref m_row, .ref m_shelves, .ref m_many, .ref m_widths, .int z_marks, .ref m_mark, .int z_shown, .ref m_shownMark, .int z_wasRun, .int z_wrong, .int z_ended, .int z_steps, .int z_hints, .int z_hasWidth, .int z_width, .int z_first, .int z_moved, .int z_deepest, .int z_x, .int z_y, .int z_top, .ref m_stack, .ref m_places, .int z_depth, .ref m_kinds, .ref m_ats, .ref m_ends])), (m_row, .inl (cI, 16384, .inl (upd (upd g_row n ((x1 >>> (24 &&& 31)) &&& 255)) (n + 1) ((x1 >>> (16 &&& 31)) &&& 255))))] := hD
  refine lv_iinc (v := 2) (lv' := [(6, .int 2), (7, .int x1), (0, .ref mo), (1, .int x1), (2, .int x2), (3, .int x3), (4, .int x4), (5, .int x5)]) hx hb d_Mo_feed_114 hl (k := 1) rfl (by decide) (by decide) rfl (fun ls hl => ?_)
  refine lv_goto (tgt := 23) hx hb d_Mo_feed_117 (by decide) ?_
  refine lv_iload hx hb d_Mo_feed_23 (lv_at hl 0 rfl) ?_
  refine lv_bipush (v := 20) hx hb d_Mo_feed_25 (by decide) ?_
  refine lv_icmp_ge (tgt := 120) hx hb d_Mo_feed_27 (by decide) (fun c_27 => absurd c_27 (by decide)) (fun c_27 => ?_)
  clear c_27
  refine lv_iload hx hb d_Mo_feed_30 (lv_at hl 0 rfl) ?_
  refine lv_iconst (v := 4) hx hb d_Mo_feed_32 (by decide) ?_
  refine lv_icmp_ge (tgt := 40) hx hb d_Mo_feed_33 (by decide) (fun c_33 => absurd c_33 (by decide)) (fun c_33 => ?_)
  clear c_33
  refine lv_iload_n hx hb d_Mo_feed_36 rfl (lv_at hl 3 rfl) ?_
  refine lv_goto (tgt := 76) hx hb d_Mo_feed_37 (by decide) ?_
  refine lv_istore (lv' := [(7, .int x1), (6, .int 2), (0, .ref mo), (1, .int x1), (2, .int x2), (3, .int x3), (4, .int x4), (5, .int x5)]) hx hb d_Mo_feed_76 hl (by decide) rfl (fun ls hl => ?_)
  refine lv_aload_n hx hb d_Mo_feed_78 rfl (lv_at hl 2 rfl) ?_
  refine va_get (D := D) (ci := 8) (v := .ref m_row) (C := R_Mo) (T := F_Mo) (N := 29) hx hb hts i_Mo hown hZ.1 hP 0 rfl rfl 2 (by decide) (hts _ fl_Mo_7) (fun _ h9 => h9) rfl d_Mo_feed_79 ?_
  refine lv_aload_n hx hb d_Mo_feed_82 rfl (lv_at hl 2 rfl) ?_
  refine va_get (D := D) (ci := 8) (v := .int (nI (n + 1 + 1))) (C := R_Mo) (T := F_Mo) (N := 29) hx hb hts i_Mo hown hZ.1 hP 0 rfl rfl 1 (by decide) (hts _ fl_Mo_48) (fun _ h9 => h9) rfl d_Mo_feed_83 ?_
  refine lv_iload hx hb d_Mo_feed_86 (lv_at hl 0 rfl) ?_
  refine lv_bipush (v := 24) hx hb d_Mo_feed_88 (by decide) ?_
  refine lv_bipush (v := 8) hx hb d_Mo_feed_90 (by decide) ?_
  refine lv_iload hx hb d_Mo_feed_92 (lv_at hl 1 rfl) ?_
  refine lv_iconst (v := 4) hx hb d_Mo_feed_94 (by decide) ?_
  refine lv_irem hx hb d_Mo_feed_95 (by decide) ?_
  refine lv_tv (y := 2) (by decide) ?_
  refine lv_imul hx hb d_Mo_feed_96 ?_
  refine lv_tv (y := 16) (by decide) ?_
  refine lv_isub hx hb d_Mo_feed_97 ?_
  refine lv_tv (y := 8) (by decide) ?_
  refine lv_ishr hx hb d_Mo_feed_98 ?_
  refine lv_sipush (v := 255) hx hb d_Mo_feed_99 (by decide) ?_
  refine lv_iand hx hb d_Mo_feed_102 ?_
  refine va_iast hx hb hZ.1 hP hD hS 1 1 rfl rfl (vp_in_nI (by omega) (by omega)) d_Mo_feed_103 (fun H locs hP hD hS => ?_)
  rw [show ((nI (n + 1 + 1)).toNatClampNeg) = n + 1 + 1 from nI_clamp (by omega)] at hP hD
  have hP : va_P D classes [(mo, .inr (8, [.int 0, .int (nI (n + 1 + 1)), .ref m_row, .ref m_shelves, .ref m_many, .ref m_widths, .int z_marks, .ref m_mark, .int z_shown, .ref m_shownMark, .int z_wasRun, .int z_wrong, .int z_ended, .int z_steps, .int z_hints, .int z_hasWidth, .int z_width, .int z_first, .int z_moved, .int z_deepest, .int z_x, .int z_y, .int z_top, .ref m_stack, .ref m_places, .int z_depth, .ref m_kinds, .ref m_ats, .ref m_ends])), (m_row, .inl (cI, 16384, .inl (upd (upd (upd g_row n ((x1 >>> (24 &&& 31)) &&& 255)) (n + 1) ((x1 >>> (16 &&& 31)) &&& 255)) (n + 1 + 1) ((x1 >>> (8 &&& 31)) &&& 255))))] H := hP
  have hD : va_D A_ [(mo, .inr (8, [.int 0, .int (nI (n + 1 + 1)), .ref m_row, .ref m_shelves, .ref m_many, .ref m_widths, .int z_marks, .ref m_mark, .int z_shown, .ref m_shownMark, .int z_wasRun, .int z_wrong, .int z_ended, .int z_steps, .int z_hints, .int z_hasWidth, .int z_width, .int z_first, .int z_moved, .int z_deepest, .int z_x, .int z_y, .int z_top, .ref m_stack, .ref m_places, .int z_depth, .ref m_kinds, .ref m_ats, .ref m_ends])), (m_row, .inl (cI, 16384, .inl (upd (upd (upd g_row n ((x1 >>> (24 &&& 31)) &&& 255)) (n + 1) ((x1 >>> (16 &&& 31)) &&& 255)) (n + 1 + 1) ((x1 >>> (8 &&& 31)) &&& 255))))] := hD
  refine lv_aload_n hx hb d_Mo_feed_104 rfl (lv_at hl 2 rfl) ?_
  refine lv_dup hx hb d_Mo_feed_105 rfl ?_
  refine va_get (D := D) (ci := 8) (v := .int (nI (n + 1 + 1))) (C := R_Mo) (T := F_Mo) (N := 29) hx hb hts i_Mo hown hZ.1 hP 0 rfl rfl 1 (by decide) (hts _ fl_Mo_48) (fun _ h9 => h9) rfl d_Mo_feed_106 ?_
  refine lv_iconst (v := 1) hx hb d_Mo_feed_109 (by decide) ?_
  refine lv_iadd hx hb d_Mo_feed_110 ?_
  refine lv_tv (y := nI (n + 1 + 1 + 1)) (nI_add (n + 1 + 1) 1) ?_
  refine va_put (D := D) (ci := 8) (v := .int (nI (n + 1 + 1 + 1))) (ty := .int) (C := R_Mo) (T := F_Mo) (N := 29) hx hb hts i_Mo t_Mo t_Mo_ok n_Mo hown hZ.1 hP hD hS 0 rfl rfl 1 (by decide) (hts _ fl_Mo_48) (fun _ h9 => h9) rfl (by decide +kernel) rfl rfl (Nat.le_of_ble_eq_true rfl) d_Mo_feed_111 (fun H locs hP hD hS => ?_)
  have hP : va_P D classes [(mo, .inr (8, [.int 0, .int (nI (n + 1 + 1 + 1)), .ref m_row, .ref m_shelves, .ref m_many, .ref m_widths, .int z_marks, .ref m_mark, .int z_shown, .ref m_shownMark, .int z_wasRun, .int z_wrong, .int z_ended, .int z_steps, .int z_hints, .int z_hasWidth, .int z_width, .int z_first, .int z_moved, .int z_deepest, .int z_x, .int z_y, .int z_top, .ref m_stack, .ref m_places, .int z_depth, .ref m_kinds, .ref m_ats, .ref m_ends])), (m_row, .inl (cI, 16384, .inl (upd (upd (upd g_row n ((x1 >>> (24 &&& 31)) &&& 255)) (n + 1) ((x1 >>> (16 &&& 31)) &&& 255)) (n + 1 + 1) ((x1 >>> (8 &&& 31)) &&& 255))))] H := hP
  have hD : va_D A_ [(mo, .inr (8, [.int 0, .int (nI (n + 1 + 1 + 1)), .ref m_row, .ref m_shelves, .ref m_many, .ref m_widths, .int z_marks, .ref m_mark, .int z_shown, .ref m_shownMark, .int z_wasRun, .int z_wrong, .int z_ended, .int z_steps, .int z_hints, .int z_hasWidth, .int z_width, .int z_first, .int z_moved, .int z_deepest, .int z_x, .int z_y, .int z_top, .ref m_stack, .ref m_places, .int z_depth, .ref m_kinds, .ref m_ats, .ref m_ends])), (m_row, .inl (cI, 16384, .inl (upd (upd (upd g_row n ((x1 >>> (24 &&& 31)) &&& 255)) (n + 1) ((x1 >>> (16 &&& 31)) &&& 255)) (n + 1 + 1) ((x1 >>> (8 &&& 31)) &&& 255))))] := hD
  refine lv_iinc (v := 3) (lv' := [(6, .int 3), (7, .int x1), (0, .ref mo), (1, .int x1), (2, .int x2), (3, .int x3), (4, .int x4), (5, .int x5)]) hx hb d_Mo_feed_114 hl (k := 1) rfl (by decide) (by decide) rfl (fun ls hl => ?_)
  refine lv_goto (tgt := 23) hx hb d_Mo_feed_117 (by decide) ?_
  refine lv_iload hx hb d_Mo_feed_23 (lv_at hl 0 rfl) ?_
  refine lv_bipush (v := 20) hx hb d_Mo_feed_25 (by decide) ?_
  refine lv_icmp_ge (tgt := 120) hx hb d_Mo_feed_27 (by decide) (fun c_27 => absurd c_27 (by decide)) (fun c_27 => ?_)
  clear c_27
  refine lv_iload hx hb d_Mo_feed_30 (lv_at hl 0 rfl) ?_
  refine lv_iconst (v := 4) hx hb d_Mo_feed_32 (by decide) ?_
  refine lv_icmp_ge (tgt := 40) hx hb d_Mo_feed_33 (by decide) (fun c_33 => absurd c_33 (by decide)) (fun c_33 => ?_)
  clear c_33
  refine lv_iload_n hx hb d_Mo_feed_36 rfl (lv_at hl 3 rfl) ?_
  refine lv_goto (tgt := 76) hx hb d_Mo_feed_37 (by decide) ?_
  refine lv_istore (lv' := [(7, .int x1), (6, .int 3), (0, .ref mo), (1, .int x1), (2, .int x2), (3, .int x3), (4, .int x4), (5, .int x5)]) hx hb d_Mo_feed_76 hl (by decide) rfl (fun ls hl => ?_)
  refine lv_aload_n hx hb d_Mo_feed_78 rfl (lv_at hl 2 rfl) ?_
  refine va_get (D := D) (ci := 8) (v := .ref m_row) (C := R_Mo) (T := F_Mo) (N := 29) hx hb hts i_Mo hown hZ.1 hP 0 rfl rfl 2 (by decide) (hts _ fl_Mo_7) (fun _ h9 => h9) rfl d_Mo_feed_79 ?_
  refine lv_aload_n hx hb d_Mo_feed_82 rfl (lv_at hl 2 rfl) ?_
  refine va_get (D := D) (ci := 8) (v := .int (nI (n + 1 + 1 + 1))) (C := R_Mo) (T := F_Mo) (N := 29) hx hb hts i_Mo hown hZ.1 hP 0 rfl rfl 1 (by decide) (hts _ fl_Mo_48) (fun _ h9 => h9) rfl d_Mo_feed_83 ?_
  refine lv_iload hx hb d_Mo_feed_86 (lv_at hl 0 rfl) ?_
  refine lv_bipush (v := 24) hx hb d_Mo_feed_88 (by decide) ?_
  refine lv_bipush (v := 8) hx hb d_Mo_feed_90 (by decide) ?_
  refine lv_iload hx hb d_Mo_feed_92 (lv_at hl 1 rfl) ?_
  refine lv_iconst (v := 4) hx hb d_Mo_feed_94 (by decide) ?_
  refine lv_irem hx hb d_Mo_feed_95 (by decide) ?_
  refine lv_tv (y := 3) (by decide) ?_
  refine lv_imul hx hb d_Mo_feed_96 ?_
  refine lv_tv (y := 24) (by decide) ?_
  refine lv_isub hx hb d_Mo_feed_97 ?_
  refine lv_tv (y := 0) (by decide) ?_
  refine lv_ishr hx hb d_Mo_feed_98 ?_
  refine lv_sipush (v := 255) hx hb d_Mo_feed_99 (by decide) ?_
  refine lv_iand hx hb d_Mo_feed_102 ?_
  refine va_iast hx hb hZ.1 hP hD hS 1 1 rfl rfl (vp_in_nI (by omega) (by omega)) d_Mo_feed_103 (fun H locs hP hD hS => ?_)
  rw [show ((nI (n + 1 + 1 + 1)).toNatClampNeg) = n + 1 + 1 + 1 from nI_clamp (by omega)] at hP hD
  have hP : va_P D classes [(mo, .inr (8, [.int 0, .int (nI (n + 1 + 1 + 1)), .ref m_row, .ref m_shelves, .ref m_many, .ref m_widths, .int z_marks, .ref m_mark, .int z_shown, .ref m_shownMark, .int z_wasRun, .int z_wrong, .int z_ended, .int z_steps, .int z_hints, .int z_hasWidth, .int z_width, .int z_first, .int z_moved, .int z_deepest, .int z_x, .int z_y, .int z_top, .ref m_stack, .ref m_places, .int z_depth, .ref m_kinds, .ref m_ats, .ref m_ends])), (m_row, .inl (cI, 16384, .inl (upd (upd (upd (upd g_row n ((x1 >>> (24 &&& 31)) &&& 255)) (n + 1) ((x1 >>> (16 &&& 31)) &&& 255)) (n + 1 + 1) ((x1 >>> (8 &&& 31)) &&& 255)) (n + 1 + 1 + 1) ((x1 >>> (0 &&& 31)) &&& 255))))] H := hP
  have hD : va_D A_ [(mo, .inr (8, [.int 0, .int (nI (n + 1 + 1 + 1)), .ref m_row, .ref m_shelves, .ref m_many, .ref m_widths, .int z_marks, .ref m_mark, .int z_shown, .ref m_shownMark, .int z_wasRun, .int z_wrong, .int z_ended, .int z_steps, .int z_hints, .int z_hasWidth, .int z_width, .int z_first, .int z_moved, .int z_deepest, .int z_x, .int z_y, .int z_top, .ref m_stack, .ref m_places, .int z_depth, .ref m_kinds, .ref m_ats, .ref m_ends])), (m_row, .inl (cI, 16384, .inl (upd (upd (upd (upd g_row n ((x1 >>> (24 &&& 31)) &&& 255)) (n + 1) ((x1 >>> (16 &&& 31)) &&& 255)) (n + 1 + 1) ((x1 >>> (8 &&& 31)) &&& 255)) (n + 1 + 1 + 1) ((x1 >>> (0 &&& 31)) &&& 255))))] := hD
  refine lv_aload_n hx hb d_Mo_feed_104 rfl (lv_at hl 2 rfl) ?_
  refine lv_dup hx hb d_Mo_feed_105 rfl ?_
  refine va_get (D := D) (ci := 8) (v := .int (nI (n + 1 + 1 + 1))) (C := R_Mo) (T := F_Mo) (N := 29) hx hb hts i_Mo hown hZ.1 hP 0 rfl rfl 1 (by decide) (hts _ fl_Mo_48) (fun _ h9 => h9) rfl d_Mo_feed_106 ?_
  refine lv_iconst (v := 1) hx hb d_Mo_feed_109 (by decide) ?_
  refine lv_iadd hx hb d_Mo_feed_110 ?_
  refine lv_tv (y := nI (n + 1 + 1 + 1 + 1)) (nI_add (n + 1 + 1 + 1) 1) ?_
  refine va_put (D := D) (ci := 8) (v := .int (nI (n + 1 + 1 + 1 + 1))) (ty := .int) (C := R_Mo) (T := F_Mo) (N := 29) hx hb hts i_Mo t_Mo t_Mo_ok n_Mo hown hZ.1 hP hD hS 0 rfl rfl 1 (by decide) (hts _ fl_Mo_48) (fun _ h9 => h9) rfl (by decide +kernel) rfl rfl (Nat.le_of_ble_eq_true rfl) d_Mo_feed_111 (fun H locs hP hD hS => ?_)
  have hP : va_P D classes [(mo, .inr (8, [.int 0, .int (nI (n + 1 + 1 + 1 + 1)), .ref m_row, .ref m_shelves, .ref m_many, .ref m_widths, .int z_marks, .ref m_mark, .int z_shown, .ref m_shownMark, .int z_wasRun, .int z_wrong, .int z_ended, .int z_steps, .int z_hints, .int z_hasWidth, .int z_width, .int z_first, .int z_moved, .int z_deepest, .int z_x, .int z_y, .int z_top, .ref m_stack, .ref m_places, .int z_depth, .ref m_kinds, .ref m_ats, .ref m_ends])), (m_row, .inl (cI, 16384, .inl (upd (upd (upd (upd g_row n ((x1 >>> (24 &&& 31)) &&& 255)) (n + 1) ((x1 >>> (16 &&& 31)) &&& 255)) (n + 1 + 1) ((x1 >>> (8 &&& 31)) &&& 255)) (n + 1 + 1 + 1) ((x1 >>> (0 &&& 31)) &&& 255))))] H := hP
  have hD : va_D A_ [(mo, .inr (8, [.int 0, .int (nI (n + 1 + 1 + 1 + 1)), .ref m_row, .ref m_shelves, .ref m_many, .ref m_widths, .int z_marks, .ref m_mark, .int z_shown, .ref m_shownMark, .int z_wasRun, .int z_wrong, .int z_ended, .int z_steps, .int z_hints, .int z_hasWidth, .int z_width, .int z_first, .int z_moved, .int z_deepest, .int z_x, .int z_y, .int z_top, .ref m_stack, .ref m_places, .int z_depth, .ref m_kinds, .ref m_ats, .ref m_ends])), (m_row, .inl (cI, 16384, .inl (upd (upd (upd (upd g_row n ((x1 >>> (24 &&& 31)) &&& 255)) (n + 1) ((x1 >>> (16 &&& 31)) &&& 255)) (n + 1 + 1) ((x1 >>> (8 &&& 31)) &&& 255)) (n + 1 + 1 + 1) ((x1 >>> (0 &&& 31)) &&& 255))))] := hD
  refine lv_iinc (v := 4) (lv' := [(6, .int 4), (7, .int x1), (0, .ref mo), (1, .int x1), (2, .int x2), (3, .int x3), (4, .int x4), (5, .int x5)]) hx hb d_Mo_feed_114 hl (k := 1) rfl (by decide) (by decide) rfl (fun ls hl => ?_)
  refine lv_goto (tgt := 23) hx hb d_Mo_feed_117 (by decide) ?_
  refine lv_iload hx hb d_Mo_feed_23 (lv_at hl 0 rfl) ?_
  refine lv_bipush (v := 20) hx hb d_Mo_feed_25 (by decide) ?_
  refine lv_icmp_ge (tgt := 120) hx hb d_Mo_feed_27 (by decide) (fun c_27 => absurd c_27 (by decide)) (fun c_27 => ?_)
  clear c_27
  refine lv_iload hx hb d_Mo_feed_30 (lv_at hl 0 rfl) ?_
  refine lv_iconst (v := 4) hx hb d_Mo_feed_32 (by decide) ?_
  refine lv_icmp_ge (tgt := 40) hx hb d_Mo_feed_33 (by decide) (fun c_33 => ?_) (fun c_33 => absurd (by decide) c_33)
  clear c_33
  refine lv_iload hx hb d_Mo_feed_40 (lv_at hl 0 rfl) ?_
  refine lv_bipush (v := 8) hx hb d_Mo_feed_42 (by decide) ?_
  refine lv_icmp_ge (tgt := 51) hx hb d_Mo_feed_44 (by decide) (fun c_44 => absurd c_44 (by decide)) (fun c_44 => ?_)
  clear c_44
  refine lv_iload_n hx hb d_Mo_feed_47 rfl (lv_at hl 4 rfl) ?_
  refine lv_goto (tgt := 76) hx hb d_Mo_feed_48 (by decide) ?_
  refine lv_istore (lv' := [(7, .int x2), (6, .int 4), (0, .ref mo), (1, .int x1), (2, .int x2), (3, .int x3), (4, .int x4), (5, .int x5)]) hx hb d_Mo_feed_76 hl (by decide) rfl (fun ls hl => ?_)
  refine lv_aload_n hx hb d_Mo_feed_78 rfl (lv_at hl 2 rfl) ?_
  refine va_get (D := D) (ci := 8) (v := .ref m_row) (C := R_Mo) (T := F_Mo) (N := 29) hx hb hts i_Mo hown hZ.1 hP 0 rfl rfl 2 (by decide) (hts _ fl_Mo_7) (fun _ h9 => h9) rfl d_Mo_feed_79 ?_
  refine lv_aload_n hx hb d_Mo_feed_82 rfl (lv_at hl 2 rfl) ?_
  refine va_get (D := D) (ci := 8) (v := .int (nI (n + 1 + 1 + 1 + 1))) (C := R_Mo) (T := F_Mo) (N := 29) hx hb hts i_Mo hown hZ.1 hP 0 rfl rfl 1 (by decide) (hts _ fl_Mo_48) (fun _ h9 => h9) rfl d_Mo_feed_83 ?_
  refine lv_iload hx hb d_Mo_feed_86 (lv_at hl 0 rfl) ?_
  refine lv_bipush (v := 24) hx hb d_Mo_feed_88 (by decide) ?_
  refine lv_bipush (v := 8) hx hb d_Mo_feed_90 (by decide) ?_
  refine lv_iload hx hb d_Mo_feed_92 (lv_at hl 1 rfl) ?_
  refine lv_iconst (v := 4) hx hb d_Mo_feed_94 (by decide) ?_
  refine lv_irem hx hb d_Mo_feed_95 (by decide) ?_
  refine lv_tv (y := 0) (by decide) ?_
  refine lv_imul hx hb d_Mo_feed_96 ?_
  refine lv_tv (y := 0) (by decide) ?_
  refine lv_isub hx hb d_Mo_feed_97 ?_
  refine lv_tv (y := 24) (by decide) ?_
  refine lv_ishr hx hb d_Mo_feed_98 ?_
  refine lv_sipush (v := 255) hx hb d_Mo_feed_99 (by decide) ?_
  refine lv_iand hx hb d_Mo_feed_102 ?_
  refine va_iast hx hb hZ.1 hP hD hS 1 1 rfl rfl (vp_in_nI (by omega) (by omega)) d_Mo_feed_103 (fun H locs hP hD hS => ?_)
  rw [show ((nI (n + 1 + 1 + 1 + 1)).toNatClampNeg) = n + 1 + 1 + 1 + 1 from nI_clamp (by omega)] at hP hD
  have hP : va_P D classes [(mo, .inr (8, [.int 0, .int (nI (n + 1 + 1 + 1 + 1)), .ref m_row, .ref m_shelves, .ref m_many, .ref m_widths, .int z_marks, .ref m_mark, .int z_shown, .ref m_shownMark, .int z_wasRun, .int z_wrong, .int z_ended, .int z_steps, .int z_hints, .int z_hasWidth, .int z_width, .int z_first, .int z_moved, .int z_deepest, .int z_x, .int z_y, .int z_top, .ref m_stack, .ref m_places, .int z_depth, .ref m_kinds, .ref m_ats, .ref m_ends])), (m_row, .inl (cI, 16384, .inl (upd (upd (upd (upd (upd g_row n ((x1 >>> (24 &&& 31)) &&& 255)) (n + 1) ((x1 >>> (16 &&& 31)) &&& 255)) (n + 1 + 1) ((x1 >>> (8 &&& 31)) &&& 255)) (n + 1 + 1 + 1) ((x1 >>> (0 &&& 31)) &&& 255)) (n + 1 + 1 + 1 + 1) ((x2 >>> (24 &&& 31)) &&& 255))))] H := hP
  have hD : va_D A_ [(mo, .inr (8, [.int 0, .int (nI (n + 1 + 1 + 1 + 1)), .ref m_row, .ref m_shelves, .ref m_many, .ref m_widths, .int z_marks, .ref m_mark, .int z_shown, .ref m_shownMark, .int z_wasRun, .int z_wrong, .int z_ended, .int z_steps, .int z_hints, .int z_hasWidth, .int z_width, .int z_first, .int z_moved, .int z_deepest, .int z_x, .int z_y, .int z_top, .ref m_stack, .ref m_places, .int z_depth, .ref m_kinds, .ref m_ats, .ref m_ends])), (m_row, .inl (cI, 16384, .inl (upd (upd (upd (upd (upd g_row n ((x1 >>> (24 &&& 31)) &&& 255)) (n + 1) ((x1 >>> (16 &&& 31)) &&& 255)) (n + 1 + 1) ((x1 >>> (8 &&& 31)) &&& 255)) (n + 1 + 1 + 1) ((x1 >>> (0 &&& 31)) &&& 255)) (n + 1 + 1 + 1 + 1) ((x2 >>> (24 &&& 31)) &&& 255))))] := hD
  refine lv_aload_n hx hb d_Mo_feed_104 rfl (lv_at hl 2 rfl) ?_
  refine lv_dup hx hb d_Mo_feed_105 rfl ?_
  refine va_get (D := D) (ci := 8) (v := .int (nI (n + 1 + 1 + 1 + 1))) (C := R_Mo) (T := F_Mo) (N := 29) hx hb hts i_Mo hown hZ.1 hP 0 rfl rfl 1 (by decide) (hts _ fl_Mo_48) (fun _ h9 => h9) rfl d_Mo_feed_106 ?_
  refine lv_iconst (v := 1) hx hb d_Mo_feed_109 (by decide) ?_
  refine lv_iadd hx hb d_Mo_feed_110 ?_
  refine lv_tv (y := nI (n + 1 + 1 + 1 + 1 + 1)) (nI_add (n + 1 + 1 + 1 + 1) 1) ?_
  refine va_put (D := D) (ci := 8) (v := .int (nI (n + 1 + 1 + 1 + 1 + 1))) (ty := .int) (C := R_Mo) (T := F_Mo) (N := 29) hx hb hts i_Mo t_Mo t_Mo_ok n_Mo hown hZ.1 hP hD hS 0 rfl rfl 1 (by decide) (hts _ fl_Mo_48) (fun _ h9 => h9) rfl (by decide +kernel) rfl rfl (Nat.le_of_ble_eq_true rfl) d_Mo_feed_111 (fun H locs hP hD hS => ?_)
  have hP : va_P D classes [(mo, .inr (8, [.int 0, .int (nI (n + 1 + 1 + 1 + 1 + 1)), .ref m_row, .ref m_shelves, .ref m_many, .ref m_widths, .int z_marks, .ref m_mark, .int z_shown, .ref m_shownMark, .int z_wasRun, .int z_wrong, .int z_ended, .int z_steps, .int z_hints, .int z_hasWidth, .int z_width, .int z_first, .int z_moved, .int z_deepest, .int z_x, .int z_y, .int z_top, .ref m_stack, .ref m_places, .int z_depth, .ref m_kinds, .ref m_ats, .ref m_ends])), (m_row, .inl (cI, 16384, .inl (upd (upd (upd (upd (upd g_row n ((x1 >>> (24 &&& 31)) &&& 255)) (n + 1) ((x1 >>> (16 &&& 31)) &&& 255)) (n + 1 + 1) ((x1 >>> (8 &&& 31)) &&& 255)) (n + 1 + 1 + 1) ((x1 >>> (0 &&& 31)) &&& 255)) (n + 1 + 1 + 1 + 1) ((x2 >>> (24 &&& 31)) &&& 255))))] H := hP
  have hD : va_D A_ [(mo, .inr (8, [.int 0, .int (nI (n + 1 + 1 + 1 + 1 + 1)), .ref m_row, .ref m_shelves, .ref m_many, .ref m_widths, .int z_marks, .ref m_mark, .int z_shown, .ref m_shownMark, .int z_wasRun, .int z_wrong, .int z_ended, .int z_steps, .int z_hints, .int z_hasWidth, .int z_width, .int z_first, .int z_moved, .int z_deepest, .int z_x, .int z_y, .int z_top, .ref m_stack, .ref m_places, .int z_depth, .ref m_kinds, .ref m_ats, .ref m_ends])), (m_row, .inl (cI, 16384, .inl (upd (upd (upd (upd (upd g_row n ((x1 >>> (24 &&& 31)) &&& 255)) (n + 1) ((x1 >>> (16 &&& 31)) &&& 255)) (n + 1 + 1) ((x1 >>> (8 &&& 31)) &&& 255)) (n + 1 + 1 + 1) ((x1 >>> (0 &&& 31)) &&& 255)) (n + 1 + 1 + 1 + 1) ((x2 >>> (24 &&& 31)) &&& 255))))] := hD
  refine lv_iinc (v := 5) (lv' := [(6, .int 5), (7, .int x2), (0, .ref mo), (1, .int x1), (2, .int x2), (3, .int x3), (4, .int x4), (5, .int x5)]) hx hb d_Mo_feed_114 hl (k := 1) rfl (by decide) (by decide) rfl (fun ls hl => ?_)
  refine lv_goto (tgt := 23) hx hb d_Mo_feed_117 (by decide) ?_
  refine lv_iload hx hb d_Mo_feed_23 (lv_at hl 0 rfl) ?_
  refine lv_bipush (v := 20) hx hb d_Mo_feed_25 (by decide) ?_
  refine lv_icmp_ge (tgt := 120) hx hb d_Mo_feed_27 (by decide) (fun c_27 => absurd c_27 (by decide)) (fun c_27 => ?_)
  clear c_27
  refine lv_iload hx hb d_Mo_feed_30 (lv_at hl 0 rfl) ?_
  refine lv_iconst (v := 4) hx hb d_Mo_feed_32 (by decide) ?_
  refine lv_icmp_ge (tgt := 40) hx hb d_Mo_feed_33 (by decide) (fun c_33 => ?_) (fun c_33 => absurd (by decide) c_33)
  clear c_33
  refine lv_iload hx hb d_Mo_feed_40 (lv_at hl 0 rfl) ?_
  refine lv_bipush (v := 8) hx hb d_Mo_feed_42 (by decide) ?_
  refine lv_icmp_ge (tgt := 51) hx hb d_Mo_feed_44 (by decide) (fun c_44 => absurd c_44 (by decide)) (fun c_44 => ?_)
  clear c_44
  refine lv_iload_n hx hb d_Mo_feed_47 rfl (lv_at hl 4 rfl) ?_
  refine lv_goto (tgt := 76) hx hb d_Mo_feed_48 (by decide) ?_
  refine lv_istore (lv' := [(7, .int x2), (6, .int 5), (0, .ref mo), (1, .int x1), (2, .int x2), (3, .int x3), (4, .int x4), (5, .int x5)]) hx hb d_Mo_feed_76 hl (by decide) rfl (fun ls hl => ?_)
  refine lv_aload_n hx hb d_Mo_feed_78 rfl (lv_at hl 2 rfl) ?_
  refine va_get (D := D) (ci := 8) (v := .ref m_row) (C := R_Mo) (T := F_Mo) (N := 29) hx hb hts i_Mo hown hZ.1 hP 0 rfl rfl 2 (by decide) (hts _ fl_Mo_7) (fun _ h9 => h9) rfl d_Mo_feed_79 ?_
  refine lv_aload_n hx hb d_Mo_feed_82 rfl (lv_at hl 2 rfl) ?_
  refine va_get (D := D) (ci := 8) (v := .int (nI (n + 1 + 1 + 1 + 1 + 1))) (C := R_Mo) (T := F_Mo) (N := 29) hx hb hts i_Mo hown hZ.1 hP 0 rfl rfl 1 (by decide) (hts _ fl_Mo_48) (fun _ h9 => h9) rfl d_Mo_feed_83 ?_
  refine lv_iload hx hb d_Mo_feed_86 (lv_at hl 0 rfl) ?_
  refine lv_bipush (v := 24) hx hb d_Mo_feed_88 (by decide) ?_
  refine lv_bipush (v := 8) hx hb d_Mo_feed_90 (by decide) ?_
  refine lv_iload hx hb d_Mo_feed_92 (lv_at hl 1 rfl) ?_
  refine lv_iconst (v := 4) hx hb d_Mo_feed_94 (by decide) ?_
  refine lv_irem hx hb d_Mo_feed_95 (by decide) ?_
  refine lv_tv (y := 1) (by decide) ?_
  refine lv_imul hx hb d_Mo_feed_96 ?_
  refine lv_tv (y := 8) (by decide) ?_
  refine lv_isub hx hb d_Mo_feed_97 ?_
  refine lv_tv (y := 16) (by decide) ?_
  refine lv_ishr hx hb d_Mo_feed_98 ?_
  refine lv_sipush (v := 255) hx hb d_Mo_feed_99 (by decide) ?_
  refine lv_iand hx hb d_Mo_feed_102 ?_
  refine va_iast hx hb hZ.1 hP hD hS 1 1 rfl rfl (vp_in_nI (by omega) (by omega)) d_Mo_feed_103 (fun H locs hP hD hS => ?_)
  rw [show ((nI (n + 1 + 1 + 1 + 1 + 1)).toNatClampNeg) = n + 1 + 1 + 1 + 1 + 1 from nI_clamp (by omega)] at hP hD
  have hP : va_P D classes [(mo, .inr (8, [.int 0, .int (nI (n + 1 + 1 + 1 + 1 + 1)), .ref m_row, .ref m_shelves, .ref m_many, .ref m_widths, .int z_marks, .ref m_mark, .int z_shown, .ref m_shownMark, .int z_wasRun, .int z_wrong, .int z_ended, .int z_steps, .int z_hints, .int z_hasWidth, .int z_width, .int z_first, .int z_moved, .int z_deepest, .int z_x, .int z_y, .int z_top, .ref m_stack, .ref m_places, .int z_depth, .ref m_kinds, .ref m_ats, .ref m_ends])), (m_row, .inl (cI, 16384, .inl (upd (upd (upd (upd (upd (upd g_row n ((x1 >>> (24 &&& 31)) &&& 255)) (n + 1) ((x1 >>> (16 &&& 31)) &&& 255)) (n + 1 + 1) ((x1 >>> (8 &&& 31)) &&& 255)) (n + 1 + 1 + 1) ((x1 >>> (0 &&& 31)) &&& 255)) (n + 1 + 1 + 1 + 1) ((x2 >>> (24 &&& 31)) &&& 255)) (n + 1 + 1 + 1 + 1 + 1) ((x2 >>> (16 &&& 31)) &&& 255))))] H := hP
  have hD : va_D A_ [(mo, .inr (8, [.int 0, .int (nI (n + 1 + 1 + 1 + 1 + 1)), .ref m_row, .ref m_shelves, .ref m_many, .ref m_widths, .int z_marks, .ref m_mark, .int z_shown, .ref m_shownMark, .int z_wasRun, .int z_wrong, .int z_ended, .int z_steps, .int z_hints, .int z_hasWidth, .int z_width, .int z_first, .int z_moved, .int z_deepest, .int z_x, .int z_y, .int z_top, .ref m_stack, .ref m_places, .int z_depth, .ref m_kinds, .ref m_ats, .ref m_ends])), (m_row, .inl (cI, 16384, .inl (upd (upd (upd (upd (upd (upd g_row n ((x1 >>> (24 &&& 31)) &&& 255)) (n + 1) ((x1 >>> (16 &&& 31)) &&& 255)) (n + 1 + 1) ((x1 >>> (8 &&& 31)) &&& 255)) (n + 1 + 1 + 1) ((x1 >>> (0 &&& 31)) &&& 255)) (n + 1 + 1 + 1 + 1) ((x2 >>> (24 &&& 31)) &&& 255)) (n + 1 + 1 + 1 + 1 + 1) ((x2 >>> (16 &&& 31)) &&& 255))))] := hD
  refine lv_aload_n hx hb d_Mo_feed_104 rfl (lv_at hl 2 rfl) ?_
  refine lv_dup hx hb d_Mo_feed_105 rfl ?_
  refine va_get (D := D) (ci := 8) (v := .int (nI (n + 1 + 1 + 1 + 1 + 1))) (C := R_Mo) (T := F_Mo) (N := 29) hx hb hts i_Mo hown hZ.1 hP 0 rfl rfl 1 (by decide) (hts _ fl_Mo_48) (fun _ h9 => h9) rfl d_Mo_feed_106 ?_
  refine lv_iconst (v := 1) hx hb d_Mo_feed_109 (by decide) ?_
  refine lv_iadd hx hb d_Mo_feed_110 ?_
  refine lv_tv (y := nI (n + 1 + 1 + 1 + 1 + 1 + 1)) (nI_add (n + 1 + 1 + 1 + 1 + 1) 1) ?_
  refine va_put (D := D) (ci := 8) (v := .int (nI (n + 1 + 1 + 1 + 1 + 1 + 1))) (ty := .int) (C := R_Mo) (T := F_Mo) (N := 29) hx hb hts i_Mo t_Mo t_Mo_ok n_Mo hown hZ.1 hP hD hS 0 rfl rfl 1 (by decide) (hts _ fl_Mo_48) (fun _ h9 => h9) rfl (by decide +kernel) rfl rfl (Nat.le_of_ble_eq_true rfl) d_Mo_feed_111 (fun H locs hP hD hS => ?_)
  have hP : va_P D classes [(mo, .inr (8, [.int 0, .int (nI (n + 1 + 1 + 1 + 1 + 1 + 1)), .ref m_row, .ref m_shelves, .ref m_many, .ref m_widths, .int z_marks, .ref m_mark, .int z_shown, .ref m_shownMark, .int z_wasRun, .int z_wrong, .int z_ended, .int z_steps, .int z_hints, .int z_hasWidth, .int z_width, .int z_first, .int z_moved, .int z_deepest, .int z_x, .int z_y, .int z_top, .ref m_stack, .ref m_places, .int z_depth, .ref m_kinds, .ref m_ats, .ref m_ends])), (m_row, .inl (cI, 16384, .inl (upd (upd (upd (upd (upd (upd g_row n ((x1 >>> (24 &&& 31)) &&& 255)) (n + 1) ((x1 >>> (16 &&& 31)) &&& 255)) (n + 1 + 1) ((x1 >>> (8 &&& 31)) &&& 255)) (n + 1 + 1 + 1) ((x1 >>> (0 &&& 31)) &&& 255)) (n + 1 + 1 + 1 + 1) ((x2 >>> (24 &&& 31)) &&& 255)) (n + 1 + 1 + 1 + 1 + 1) ((x2 >>> (16 &&& 31)) &&& 255))))] H := hP
  have hD : va_D A_ [(mo, .inr (8, [.int 0, .int (nI (n + 1 + 1 + 1 + 1 + 1 + 1)), .ref m_row, .ref m_shelves, .ref m_many, .ref m_widths, .int z_marks, .ref m_mark, .int z_shown, .ref m_shownMark, .int z_wasRun, .int z_wrong, .int z_ended, .int z_steps, .int z_hints, .int z_hasWidth, .int z_width, .int z_first, .int z_moved, .int z_deepest, .int z_x, .int z_y, .int z_top, .ref m_stack, .ref m_places, .int z_depth, .ref m_kinds, .ref m_ats, .ref m_ends])), (m_row, .inl (cI, 16384, .inl (upd (upd (upd (upd (upd (upd g_row n ((x1 >>> (24 &&& 31)) &&& 255)) (n + 1) ((x1 >>> (16 &&& 31)) &&& 255)) (n + 1 + 1) ((x1 >>> (8 &&& 31)) &&& 255)) (n + 1 + 1 + 1) ((x1 >>> (0 &&& 31)) &&& 255)) (n + 1 + 1 + 1 + 1) ((x2 >>> (24 &&& 31)) &&& 255)) (n + 1 + 1 + 1 + 1 + 1) ((x2 >>> (16 &&& 31)) &&& 255))))] := hD
  refine lv_iinc (v := 6) (lv' := [(6, .int 6), (7, .int x2), (0, .ref mo), (1, .int x1), (2, .int x2), (3, .int x3), (4, .int x4), (5, .int x5)]) hx hb d_Mo_feed_114 hl (k := 1) rfl (by decide) (by decide) rfl (fun ls hl => ?_)
  refine lv_goto (tgt := 23) hx hb d_Mo_feed_117 (by decide) ?_
  refine lv_iload hx hb d_Mo_feed_23 (lv_at hl 0 rfl) ?_
  refine lv_bipush (v := 20) hx hb d_Mo_feed_25 (by decide) ?_
  refine lv_icmp_ge (tgt := 120) hx hb d_Mo_feed_27 (by decide) (fun c_27 => absurd c_27 (by decide)) (fun c_27 => ?_)
  clear c_27
  refine lv_iload hx hb d_Mo_feed_30 (lv_at hl 0 rfl) ?_
  refine lv_iconst (v := 4) hx hb d_Mo_feed_32 (by decide) ?_
  refine lv_icmp_ge (tgt := 40) hx hb d_Mo_feed_33 (by decide) (fun c_33 => ?_) (fun c_33 => absurd (by decide) c_33)
  clear c_33
  refine lv_iload hx hb d_Mo_feed_40 (lv_at hl 0 rfl) ?_
  refine lv_bipush (v := 8) hx hb d_Mo_feed_42 (by decide) ?_
  refine lv_icmp_ge (tgt := 51) hx hb d_Mo_feed_44 (by decide) (fun c_44 => absurd c_44 (by decide)) (fun c_44 => ?_)
  clear c_44
  refine lv_iload_n hx hb d_Mo_feed_47 rfl (lv_at hl 4 rfl) ?_
  refine lv_goto (tgt := 76) hx hb d_Mo_feed_48 (by decide) ?_
  refine lv_istore (lv' := [(7, .int x2), (6, .int 6), (0, .ref mo), (1, .int x1), (2, .int x2), (3, .int x3), (4, .int x4), (5, .int x5)]) hx hb d_Mo_feed_76 hl (by decide) rfl (fun ls hl => ?_)
  refine lv_aload_n hx hb d_Mo_feed_78 rfl (lv_at hl 2 rfl) ?_
  refine va_get (D := D) (ci := 8) (v := .ref m_row) (C := R_Mo) (T := F_Mo) (N := 29) hx hb hts i_Mo hown hZ.1 hP 0 rfl rfl 2 (by decide) (hts _ fl_Mo_7) (fun _ h9 => h9) rfl d_Mo_feed_79 ?_
  refine lv_aload_n hx hb d_Mo_feed_82 rfl (lv_at hl 2 rfl) ?_
  refine va_get (D := D) (ci := 8) (v := .int (nI (n + 1 + 1 + 1 + 1 + 1 + 1))) (C := R_Mo) (T := F_Mo) (N := 29) hx hb hts i_Mo hown hZ.1 hP 0 rfl rfl 1 (by decide) (hts _ fl_Mo_48) (fun _ h9 => h9) rfl d_Mo_feed_83 ?_
  refine lv_iload hx hb d_Mo_feed_86 (lv_at hl 0 rfl) ?_
  refine lv_bipush (v := 24) hx hb d_Mo_feed_88 (by decide) ?_
  refine lv_bipush (v := 8) hx hb d_Mo_feed_90 (by decide) ?_
  refine lv_iload hx hb d_Mo_feed_92 (lv_at hl 1 rfl) ?_
  refine lv_iconst (v := 4) hx hb d_Mo_feed_94 (by decide) ?_
  refine lv_irem hx hb d_Mo_feed_95 (by decide) ?_
  refine lv_tv (y := 2) (by decide) ?_
  refine lv_imul hx hb d_Mo_feed_96 ?_
  refine lv_tv (y := 16) (by decide) ?_
  refine lv_isub hx hb d_Mo_feed_97 ?_
  refine lv_tv (y := 8) (by decide) ?_
  refine lv_ishr hx hb d_Mo_feed_98 ?_
  refine lv_sipush (v := 255) hx hb d_Mo_feed_99 (by decide) ?_
  refine lv_iand hx hb d_Mo_feed_102 ?_
  refine va_iast hx hb hZ.1 hP hD hS 1 1 rfl rfl (vp_in_nI (by omega) (by omega)) d_Mo_feed_103 (fun H locs hP hD hS => ?_)
  rw [show ((nI (n + 1 + 1 + 1 + 1 + 1 + 1)).toNatClampNeg) = n + 1 + 1 + 1 + 1 + 1 + 1 from nI_clamp (by omega)] at hP hD
  have hP : va_P D classes [(mo, .inr (8, [.int 0, .int (nI (n + 1 + 1 + 1 + 1 + 1 + 1)), .ref m_row, .ref m_shelves, .ref m_many, .ref m_widths, .int z_marks, .ref m_mark, .int z_shown, .ref m_shownMark, .int z_wasRun, .int z_wrong, .int z_ended, .int z_steps, .int z_hints, .int z_hasWidth, .int z_width, .int z_first, .int z_moved, .int z_deepest, .int z_x, .int z_y, .int z_top, .ref m_stack, .ref m_places, .int z_depth, .ref m_kinds, .ref m_ats, .ref m_ends])), (m_row, .inl (cI, 16384, .inl (upd (upd (upd (upd (upd (upd (upd g_row n ((x1 >>> (24 &&& 31)) &&& 255)) (n + 1) ((x1 >>> (16 &&& 31)) &&& 255)) (n + 1 + 1) ((x1 >>> (8 &&& 31)) &&& 255)) (n + 1 + 1 + 1) ((x1 >>> (0 &&& 31)) &&& 255)) (n + 1 + 1 + 1 + 1) ((x2 >>> (24 &&& 31)) &&& 255)) (n + 1 + 1 + 1 + 1 + 1) ((x2 >>> (16 &&& 31)) &&& 255)) (n + 1 + 1 + 1 + 1 + 1 + 1) ((x2 >>> (8 &&& 31)) &&& 255))))] H := hP
  have hD : va_D A_ [(mo, .inr (8, [.int 0, .int (nI (n + 1 + 1 + 1 + 1 + 1 + 1)), .ref m_row, .ref m_shelves, .ref m_many, .ref m_widths, .int z_marks, .ref m_mark, .int z_shown, .ref m_shownMark, .int z_wasRun, .int z_wrong, .int z_ended, .int z_steps, .int z_hints, .int z_hasWidth, .int z_width, .int z_first, .int z_moved, .int z_deepest, .int z_x, .int z_y, .int z_top, .ref m_stack, .ref m_places, .int z_depth, .ref m_kinds, .ref m_ats, .ref m_ends])), (m_row, .inl (cI, 16384, .inl (upd (upd (upd (upd (upd (upd (upd g_row n ((x1 >>> (24 &&& 31)) &&& 255)) (n + 1) ((x1 >>> (16 &&& 31)) &&& 255)) (n + 1 + 1) ((x1 >>> (8 &&& 31)) &&& 255)) (n + 1 + 1 + 1) ((x1 >>> (0 &&& 31)) &&& 255)) (n + 1 + 1 + 1 + 1) ((x2 >>> (24 &&& 31)) &&& 255)) (n + 1 + 1 + 1 + 1 + 1) ((x2 >>> (16 &&& 31)) &&& 255)) (n + 1 + 1 + 1 + 1 + 1 + 1) ((x2 >>> (8 &&& 31)) &&& 255))))] := hD
  refine lv_aload_n hx hb d_Mo_feed_104 rfl (lv_at hl 2 rfl) ?_
  refine lv_dup hx hb d_Mo_feed_105 rfl ?_
  refine va_get (D := D) (ci := 8) (v := .int (nI (n + 1 + 1 + 1 + 1 + 1 + 1))) (C := R_Mo) (T := F_Mo) (N := 29) hx hb hts i_Mo hown hZ.1 hP 0 rfl rfl 1 (by decide) (hts _ fl_Mo_48) (fun _ h9 => h9) rfl d_Mo_feed_106 ?_
  refine lv_iconst (v := 1) hx hb d_Mo_feed_109 (by decide) ?_
  refine lv_iadd hx hb d_Mo_feed_110 ?_
  refine lv_tv (y := nI (n + 1 + 1 + 1 + 1 + 1 + 1 + 1)) (nI_add (n + 1 + 1 + 1 + 1 + 1 + 1) 1) ?_
  refine va_put (D := D) (ci := 8) (v := .int (nI (n + 1 + 1 + 1 + 1 + 1 + 1 + 1))) (ty := .int) (C := R_Mo) (T := F_Mo) (N := 29) hx hb hts i_Mo t_Mo t_Mo_ok n_Mo hown hZ.1 hP hD hS 0 rfl rfl 1 (by decide) (hts _ fl_Mo_48) (fun _ h9 => h9) rfl (by decide +kernel) rfl rfl (Nat.le_of_ble_eq_true rfl) d_Mo_feed_111 (fun H locs hP hD hS => ?_)
  have hP : va_P D classes [(mo, .inr (8, [.int 0, .int (nI (n + 1 + 1 + 1 + 1 + 1 + 1 + 1)), .ref m_row, .ref m_shelves, .ref m_many, .ref m_widths, .int z_marks, .ref m_mark, .int z_shown, .ref m_shownMark, .int z_wasRun, .int z_wrong, .int z_ended, .int z_steps, .int z_hints, .int z_hasWidth, .int z_width, .int z_first, .int z_moved, .int z_deepest, .int z_x, .int z_y, .int z_top, .ref m_stack, .ref m_places, .int z_depth, .ref m_kinds, .ref m_ats, .ref m_ends])), (m_row, .inl (cI, 16384, .inl (upd (upd (upd (upd (upd (upd (upd g_row n ((x1 >>> (24 &&& 31)) &&& 255)) (n + 1) ((x1 >>> (16 &&& 31)) &&& 255)) (n + 1 + 1) ((x1 >>> (8 &&& 31)) &&& 255)) (n + 1 + 1 + 1) ((x1 >>> (0 &&& 31)) &&& 255)) (n + 1 + 1 + 1 + 1) ((x2 >>> (24 &&& 31)) &&& 255)) (n + 1 + 1 + 1 + 1 + 1) ((x2 >>> (16 &&& 31)) &&& 255)) (n + 1 + 1 + 1 + 1 + 1 + 1) ((x2 >>> (8 &&& 31)) &&& 255))))] H := hP
  have hD : va_D A_ [(mo, .inr (8, [.int 0, .int (nI (n + 1 + 1 + 1 + 1 + 1 + 1 + 1)), .ref m_row, .ref m_shelves, .ref m_many, .ref m_widths, .int z_marks, .ref m_mark, .int z_shown, .ref m_shownMark, .int z_wasRun, .int z_wrong, .int z_ended, .int z_steps, .int z_hints, .int z_hasWidth, .int z_width, .int z_first, .int z_moved, .int z_deepest, .int z_x, .int z_y, .int z_top, .ref m_stack, .ref m_places, .int z_depth, .ref m_kinds, .ref m_ats, .ref m_ends])), (m_row, .inl (cI, 16384, .inl (upd (upd (upd (upd (upd (upd (upd g_row n ((x1 >>> (24 &&& 31)) &&& 255)) (n + 1) ((x1 >>> (16 &&& 31)) &&& 255)) (n + 1 + 1) ((x1 >>> (8 &&& 31)) &&& 255)) (n + 1 + 1 + 1) ((x1 >>> (0 &&& 31)) &&& 255)) (n + 1 + 1 + 1 + 1) ((x2 >>> (24 &&& 31)) &&& 255)) (n + 1 + 1 + 1 + 1 + 1) ((x2 >>> (16 &&& 31)) &&& 255)) (n + 1 + 1 + 1 + 1 + 1 + 1) ((x2 >>> (8 &&& 31)) &&& 255))))] := hD
  refine lv_iinc (v := 7) (lv' := [(6, .int 7), (7, .int x2), (0, .ref mo), (1, .int x1), (2, .int x2), (3, .int x3), (4, .int x4), (5, .int x5)]) hx hb d_Mo_feed_114 hl (k := 1) rfl (by decide) (by decide) rfl (fun ls hl => ?_)
  refine lv_goto (tgt := 23) hx hb d_Mo_feed_117 (by decide) ?_
  refine lv_iload hx hb d_Mo_feed_23 (lv_at hl 0 rfl) ?_
  refine lv_bipush (v := 20) hx hb d_Mo_feed_25 (by decide) ?_
  refine lv_icmp_ge (tgt := 120) hx hb d_Mo_feed_27 (by decide) (fun c_27 => absurd c_27 (by decide)) (fun c_27 => ?_)
  clear c_27
  refine lv_iload hx hb d_Mo_feed_30 (lv_at hl 0 rfl) ?_
  refine lv_iconst (v := 4) hx hb d_Mo_feed_32 (by decide) ?_
  refine lv_icmp_ge (tgt := 40) hx hb d_Mo_feed_33 (by decide) (fun c_33 => ?_) (fun c_33 => absurd (by decide) c_33)
  clear c_33
  refine lv_iload hx hb d_Mo_feed_40 (lv_at hl 0 rfl) ?_
  refine lv_bipush (v := 8) hx hb d_Mo_feed_42 (by decide) ?_
  refine lv_icmp_ge (tgt := 51) hx hb d_Mo_feed_44 (by decide) (fun c_44 => absurd c_44 (by decide)) (fun c_44 => ?_)
  clear c_44
  refine lv_iload_n hx hb d_Mo_feed_47 rfl (lv_at hl 4 rfl) ?_
  refine lv_goto (tgt := 76) hx hb d_Mo_feed_48 (by decide) ?_
  refine lv_istore (lv' := [(7, .int x2), (6, .int 7), (0, .ref mo), (1, .int x1), (2, .int x2), (3, .int x3), (4, .int x4), (5, .int x5)]) hx hb d_Mo_feed_76 hl (by decide) rfl (fun ls hl => ?_)
  refine lv_aload_n hx hb d_Mo_feed_78 rfl (lv_at hl 2 rfl) ?_
  refine va_get (D := D) (ci := 8) (v := .ref m_row) (C := R_Mo) (T := F_Mo) (N := 29) hx hb hts i_Mo hown hZ.1 hP 0 rfl rfl 2 (by decide) (hts _ fl_Mo_7) (fun _ h9 => h9) rfl d_Mo_feed_79 ?_
  refine lv_aload_n hx hb d_Mo_feed_82 rfl (lv_at hl 2 rfl) ?_
  refine va_get (D := D) (ci := 8) (v := .int (nI (n + 1 + 1 + 1 + 1 + 1 + 1 + 1))) (C := R_Mo) (T := F_Mo) (N := 29) hx hb hts i_Mo hown hZ.1 hP 0 rfl rfl 1 (by decide) (hts _ fl_Mo_48) (fun _ h9 => h9) rfl d_Mo_feed_83 ?_
  refine lv_iload hx hb d_Mo_feed_86 (lv_at hl 0 rfl) ?_
  refine lv_bipush (v := 24) hx hb d_Mo_feed_88 (by decide) ?_
  refine lv_bipush (v := 8) hx hb d_Mo_feed_90 (by decide) ?_
  refine lv_iload hx hb d_Mo_feed_92 (lv_at hl 1 rfl) ?_
  refine lv_iconst (v := 4) hx hb d_Mo_feed_94 (by decide) ?_
  refine lv_irem hx hb d_Mo_feed_95 (by decide) ?_
  refine lv_tv (y := 3) (by decide) ?_
  refine lv_imul hx hb d_Mo_feed_96 ?_
  refine lv_tv (y := 24) (by decide) ?_
  refine lv_isub hx hb d_Mo_feed_97 ?_
  refine lv_tv (y := 0) (by decide) ?_
  refine lv_ishr hx hb d_Mo_feed_98 ?_
  refine lv_sipush (v := 255) hx hb d_Mo_feed_99 (by decide) ?_
  refine lv_iand hx hb d_Mo_feed_102 ?_
  refine va_iast hx hb hZ.1 hP hD hS 1 1 rfl rfl (vp_in_nI (by omega) (by omega)) d_Mo_feed_103 (fun H locs hP hD hS => ?_)
  rw [show ((nI (n + 1 + 1 + 1 + 1 + 1 + 1 + 1)).toNatClampNeg) = n + 1 + 1 + 1 + 1 + 1 + 1 + 1 from nI_clamp (by omega)] at hP hD
  have hP : va_P D classes [(mo, .inr (8, [.int 0, .int (nI (n + 1 + 1 + 1 + 1 + 1 + 1 + 1)), .ref m_row, .ref m_shelves, .ref m_many, .ref m_widths, .int z_marks, .ref m_mark, .int z_shown, .ref m_shownMark, .int z_wasRun, .int z_wrong, .int z_ended, .int z_steps, .int z_hints, .int z_hasWidth, .int z_width, .int z_first, .int z_moved, .int z_deepest, .int z_x, .int z_y, .int z_top, .ref m_stack, .ref m_places, .int z_depth, .ref m_kinds, .ref m_ats, .ref m_ends])), (m_row, .inl (cI, 16384, .inl (upd (upd (upd (upd (upd (upd (upd (upd g_row n ((x1 >>> (24 &&& 31)) &&& 255)) (n + 1) ((x1 >>> (16 &&& 31)) &&& 255)) (n + 1 + 1) ((x1 >>> (8 &&& 31)) &&& 255)) (n + 1 + 1 + 1) ((x1 >>> (0 &&& 31)) &&& 255)) (n + 1 + 1 + 1 + 1) ((x2 >>> (24 &&& 31)) &&& 255)) (n + 1 + 1 + 1 + 1 + 1) ((x2 >>> (16 &&& 31)) &&& 255)) (n + 1 + 1 + 1 + 1 + 1 + 1) ((x2 >>> (8 &&& 31)) &&& 255)) (n + 1 + 1 + 1 + 1 + 1 + 1 + 1) ((x2 >>> (0 &&& 31)) &&& 255))))] H := hP
  have hD : va_D A_ [(mo, .inr (8, [.int 0, .int (nI (n + 1 + 1 + 1 + 1 + 1 + 1 + 1)), .ref m_row, .ref m_shelves, .ref m_many, .ref m_widths, .int z_marks, .ref m_mark, .int z_shown, .ref m_shownMark, .int z_wasRun, .int z_wrong, .int z_ended, .int z_steps, .int z_hints, .int z_hasWidth, .int z_width, .int z_first, .int z_moved, .int z_deepest, .int z_x, .int z_y, .int z_top, .ref m_stack, .ref m_places, .int z_depth, .ref m_kinds, .ref m_ats, .ref m_ends])), (m_row, .inl (cI, 16384, .inl (upd (upd (upd (upd (upd (upd (upd (upd g_row n ((x1 >>> (24 &&& 31)) &&& 255)) (n + 1) ((x1 >>> (16 &&& 31)) &&& 255)) (n + 1 + 1) ((x1 >>> (8 &&& 31)) &&& 255)) (n + 1 + 1 + 1) ((x1 >>> (0 &&& 31)) &&& 255)) (n + 1 + 1 + 1 + 1) ((x2 >>> (24 &&& 31)) &&& 255)) (n + 1 + 1 + 1 + 1 + 1) ((x2 >>> (16 &&& 31)) &&& 255)) (n + 1 + 1 + 1 + 1 + 1 + 1) ((x2 >>> (8 &&& 31)) &&& 255)) (n + 1 + 1 + 1 + 1 + 1 + 1 + 1) ((x2 >>> (0 &&& 31)) &&& 255))))] := hD
  refine lv_aload_n hx hb d_Mo_feed_104 rfl (lv_at hl 2 rfl) ?_
  refine lv_dup hx hb d_Mo_feed_105 rfl ?_
  refine va_get (D := D) (ci := 8) (v := .int (nI (n + 1 + 1 + 1 + 1 + 1 + 1 + 1))) (C := R_Mo) (T := F_Mo) (N := 29) hx hb hts i_Mo hown hZ.1 hP 0 rfl rfl 1 (by decide) (hts _ fl_Mo_48) (fun _ h9 => h9) rfl d_Mo_feed_106 ?_
  refine lv_iconst (v := 1) hx hb d_Mo_feed_109 (by decide) ?_
  refine lv_iadd hx hb d_Mo_feed_110 ?_
  refine lv_tv (y := nI (n + 1 + 1 + 1 + 1 + 1 + 1 + 1 + 1)) (nI_add (n + 1 + 1 + 1 + 1 + 1 + 1 + 1) 1) ?_
  refine va_put (D := D) (ci := 8) (v := .int (nI (n + 1 + 1 + 1 + 1 + 1 + 1 + 1 + 1))) (ty := .int) (C := R_Mo) (T := F_Mo) (N := 29) hx hb hts i_Mo t_Mo t_Mo_ok n_Mo hown hZ.1 hP hD hS 0 rfl rfl 1 (by decide) (hts _ fl_Mo_48) (fun _ h9 => h9) rfl (by decide +kernel) rfl rfl (Nat.le_of_ble_eq_true rfl) d_Mo_feed_111 (fun H locs hP hD hS => ?_)
  have hP : va_P D classes [(mo, .inr (8, [.int 0, .int (nI (n + 1 + 1 + 1 + 1 + 1 + 1 + 1 + 1)), .ref m_row, .ref m_shelves, .ref m_many, .ref m_widths, .int z_marks, .ref m_mark, .int z_shown, .ref m_shownMark, .int z_wasRun, .int z_wrong, .int z_ended, .int z_steps, .int z_hints, .int z_hasWidth, .int z_width, .int z_first, .int z_moved, .int z_deepest, .int z_x, .int z_y, .int z_top, .ref m_stack, .ref m_places, .int z_depth, .ref m_kinds, .ref m_ats, .ref m_ends])), (m_row, .inl (cI, 16384, .inl (upd (upd (upd (upd (upd (upd (upd (upd g_row n ((x1 >>> (24 &&& 31)) &&& 255)) (n + 1) ((x1 >>> (16 &&& 31)) &&& 255)) (n + 1 + 1) ((x1 >>> (8 &&& 31)) &&& 255)) (n + 1 + 1 + 1) ((x1 >>> (0 &&& 31)) &&& 255)) (n + 1 + 1 + 1 + 1) ((x2 >>> (24 &&& 31)) &&& 255)) (n + 1 + 1 + 1 + 1 + 1) ((x2 >>> (16 &&& 31)) &&& 255)) (n + 1 + 1 + 1 + 1 + 1 + 1) ((x2 >>> (8 &&& 31)) &&& 255)) (n + 1 + 1 + 1 + 1 + 1 + 1 + 1) ((x2 >>> (0 &&& 31)) &&& 255))))] H := hP
  have hD : va_D A_ [(mo, .inr (8, [.int 0, .int (nI (n + 1 + 1 + 1 + 1 + 1 + 1 + 1 + 1)), .ref m_row, .ref m_shelves, .ref m_many, .ref m_widths, .int z_marks, .ref m_mark, .int z_shown, .ref m_shownMark, .int z_wasRun, .int z_wrong, .int z_ended, .int z_steps, .int z_hints, .int z_hasWidth, .int z_width, .int z_first, .int z_moved, .int z_deepest, .int z_x, .int z_y, .int z_top, .ref m_stack, .ref m_places, .int z_depth, .ref m_kinds, .ref m_ats, .ref m_ends])), (m_row, .inl (cI, 16384, .inl (upd (upd (upd (upd (upd (upd (upd (upd g_row n ((x1 >>> (24 &&& 31)) &&& 255)) (n + 1) ((x1 >>> (16 &&& 31)) &&& 255)) (n + 1 + 1) ((x1 >>> (8 &&& 31)) &&& 255)) (n + 1 + 1 + 1) ((x1 >>> (0 &&& 31)) &&& 255)) (n + 1 + 1 + 1 + 1) ((x2 >>> (24 &&& 31)) &&& 255)) (n + 1 + 1 + 1 + 1 + 1) ((x2 >>> (16 &&& 31)) &&& 255)) (n + 1 + 1 + 1 + 1 + 1 + 1) ((x2 >>> (8 &&& 31)) &&& 255)) (n + 1 + 1 + 1 + 1 + 1 + 1 + 1) ((x2 >>> (0 &&& 31)) &&& 255))))] := hD
  refine lv_iinc (v := 8) (lv' := [(6, .int 8), (7, .int x2), (0, .ref mo), (1, .int x1), (2, .int x2), (3, .int x3), (4, .int x4), (5, .int x5)]) hx hb d_Mo_feed_114 hl (k := 1) rfl (by decide) (by decide) rfl (fun ls hl => ?_)
  refine lv_goto (tgt := 23) hx hb d_Mo_feed_117 (by decide) ?_
  refine lv_iload hx hb d_Mo_feed_23 (lv_at hl 0 rfl) ?_
  refine lv_bipush (v := 20) hx hb d_Mo_feed_25 (by decide) ?_
  refine lv_icmp_ge (tgt := 120) hx hb d_Mo_feed_27 (by decide) (fun c_27 => absurd c_27 (by decide)) (fun c_27 => ?_)
  clear c_27
  refine lv_iload hx hb d_Mo_feed_30 (lv_at hl 0 rfl) ?_
  refine lv_iconst (v := 4) hx hb d_Mo_feed_32 (by decide) ?_
  refine lv_icmp_ge (tgt := 40) hx hb d_Mo_feed_33 (by decide) (fun c_33 => ?_) (fun c_33 => absurd (by decide) c_33)
  clear c_33
  refine lv_iload hx hb d_Mo_feed_40 (lv_at hl 0 rfl) ?_
  refine lv_bipush (v := 8) hx hb d_Mo_feed_42 (by decide) ?_
  refine lv_icmp_ge (tgt := 51) hx hb d_Mo_feed_44 (by decide) (fun c_44 => ?_) (fun c_44 => absurd (by decide) c_44)
  clear c_44
  refine lv_iload hx hb d_Mo_feed_51 (lv_at hl 0 rfl) ?_
  refine lv_bipush (v := 12) hx hb d_Mo_feed_53 (by decide) ?_
  refine lv_icmp_ge (tgt := 62) hx hb d_Mo_feed_55 (by decide) (fun c_55 => absurd c_55 (by decide)) (fun c_55 => ?_)
  clear c_55
  refine lv_iload_n hx hb d_Mo_feed_58 rfl (lv_at hl 5 rfl) ?_
  refine lv_goto (tgt := 76) hx hb d_Mo_feed_59 (by decide) ?_
  refine lv_istore (lv' := [(7, .int x3), (6, .int 8), (0, .ref mo), (1, .int x1), (2, .int x2), (3, .int x3), (4, .int x4), (5, .int x5)]) hx hb d_Mo_feed_76 hl (by decide) rfl (fun ls hl => ?_)
  refine lv_aload_n hx hb d_Mo_feed_78 rfl (lv_at hl 2 rfl) ?_
  refine va_get (D := D) (ci := 8) (v := .ref m_row) (C := R_Mo) (T := F_Mo) (N := 29) hx hb hts i_Mo hown hZ.1 hP 0 rfl rfl 2 (by decide) (hts _ fl_Mo_7) (fun _ h9 => h9) rfl d_Mo_feed_79 ?_
  refine lv_aload_n hx hb d_Mo_feed_82 rfl (lv_at hl 2 rfl) ?_
  refine va_get (D := D) (ci := 8) (v := .int (nI (n + 1 + 1 + 1 + 1 + 1 + 1 + 1 + 1))) (C := R_Mo) (T := F_Mo) (N := 29) hx hb hts i_Mo hown hZ.1 hP 0 rfl rfl 1 (by decide) (hts _ fl_Mo_48) (fun _ h9 => h9) rfl d_Mo_feed_83 ?_
  refine lv_iload hx hb d_Mo_feed_86 (lv_at hl 0 rfl) ?_
  refine lv_bipush (v := 24) hx hb d_Mo_feed_88 (by decide) ?_
  refine lv_bipush (v := 8) hx hb d_Mo_feed_90 (by decide) ?_
  refine lv_iload hx hb d_Mo_feed_92 (lv_at hl 1 rfl) ?_
  refine lv_iconst (v := 4) hx hb d_Mo_feed_94 (by decide) ?_
  refine lv_irem hx hb d_Mo_feed_95 (by decide) ?_
  refine lv_tv (y := 0) (by decide) ?_
  refine lv_imul hx hb d_Mo_feed_96 ?_
  refine lv_tv (y := 0) (by decide) ?_
  refine lv_isub hx hb d_Mo_feed_97 ?_
  refine lv_tv (y := 24) (by decide) ?_
  refine lv_ishr hx hb d_Mo_feed_98 ?_
  refine lv_sipush (v := 255) hx hb d_Mo_feed_99 (by decide) ?_
  refine lv_iand hx hb d_Mo_feed_102 ?_
  refine va_iast hx hb hZ.1 hP hD hS 1 1 rfl rfl (vp_in_nI (by omega) (by omega)) d_Mo_feed_103 (fun H locs hP hD hS => ?_)
  rw [show ((nI (n + 1 + 1 + 1 + 1 + 1 + 1 + 1 + 1)).toNatClampNeg) = n + 1 + 1 + 1 + 1 + 1 + 1 + 1 + 1 from nI_clamp (by omega)] at hP hD
  have hP : va_P D classes [(mo, .inr (8, [.int 0, .int (nI (n + 1 + 1 + 1 + 1 + 1 + 1 + 1 + 1)), .ref m_row, .ref m_shelves, .ref m_many, .ref m_widths, .int z_marks, .ref m_mark, .int z_shown, .ref m_shownMark, .int z_wasRun, .int z_wrong, .int z_ended, .int z_steps, .int z_hints, .int z_hasWidth, .int z_width, .int z_first, .int z_moved, .int z_deepest, .int z_x, .int z_y, .int z_top, .ref m_stack, .ref m_places, .int z_depth, .ref m_kinds, .ref m_ats, .ref m_ends])), (m_row, .inl (cI, 16384, .inl (upd (upd (upd (upd (upd (upd (upd (upd (upd g_row n ((x1 >>> (24 &&& 31)) &&& 255)) (n + 1) ((x1 >>> (16 &&& 31)) &&& 255)) (n + 1 + 1) ((x1 >>> (8 &&& 31)) &&& 255)) (n + 1 + 1 + 1) ((x1 >>> (0 &&& 31)) &&& 255)) (n + 1 + 1 + 1 + 1) ((x2 >>> (24 &&& 31)) &&& 255)) (n + 1 + 1 + 1 + 1 + 1) ((x2 >>> (16 &&& 31)) &&& 255)) (n + 1 + 1 + 1 + 1 + 1 + 1) ((x2 >>> (8 &&& 31)) &&& 255)) (n + 1 + 1 + 1 + 1 + 1 + 1 + 1) ((x2 >>> (0 &&& 31)) &&& 255)) (n + 1 + 1 + 1 + 1 + 1 + 1 + 1 + 1) ((x3 >>> (24 &&& 31)) &&& 255))))] H := hP
  have hD : va_D A_ [(mo, .inr (8, [.int 0, .int (nI (n + 1 + 1 + 1 + 1 + 1 + 1 + 1 + 1)), .ref m_row, .ref m_shelves, .ref m_many, .ref m_widths, .int z_marks, .ref m_mark, .int z_shown, .ref m_shownMark, .int z_wasRun, .int z_wrong, .int z_ended, .int z_steps, .int z_hints, .int z_hasWidth, .int z_width, .int z_first, .int z_moved, .int z_deepest, .int z_x, .int z_y, .int z_top, .ref m_stack, .ref m_places, .int z_depth, .ref m_kinds, .ref m_ats, .ref m_ends])), (m_row, .inl (cI, 16384, .inl (upd (upd (upd (upd (upd (upd (upd (upd (upd g_row n ((x1 >>> (24 &&& 31)) &&& 255)) (n + 1) ((x1 >>> (16 &&& 31)) &&& 255)) (n + 1 + 1) ((x1 >>> (8 &&& 31)) &&& 255)) (n + 1 + 1 + 1) ((x1 >>> (0 &&& 31)) &&& 255)) (n + 1 + 1 + 1 + 1) ((x2 >>> (24 &&& 31)) &&& 255)) (n + 1 + 1 + 1 + 1 + 1) ((x2 >>> (16 &&& 31)) &&& 255)) (n + 1 + 1 + 1 + 1 + 1 + 1) ((x2 >>> (8 &&& 31)) &&& 255)) (n + 1 + 1 + 1 + 1 + 1 + 1 + 1) ((x2 >>> (0 &&& 31)) &&& 255)) (n + 1 + 1 + 1 + 1 + 1 + 1 + 1 + 1) ((x3 >>> (24 &&& 31)) &&& 255))))] := hD
  refine lv_aload_n hx hb d_Mo_feed_104 rfl (lv_at hl 2 rfl) ?_
  refine lv_dup hx hb d_Mo_feed_105 rfl ?_
  refine va_get (D := D) (ci := 8) (v := .int (nI (n + 1 + 1 + 1 + 1 + 1 + 1 + 1 + 1))) (C := R_Mo) (T := F_Mo) (N := 29) hx hb hts i_Mo hown hZ.1 hP 0 rfl rfl 1 (by decide) (hts _ fl_Mo_48) (fun _ h9 => h9) rfl d_Mo_feed_106 ?_
  refine lv_iconst (v := 1) hx hb d_Mo_feed_109 (by decide) ?_
  refine lv_iadd hx hb d_Mo_feed_110 ?_
  refine lv_tv (y := nI (n + 1 + 1 + 1 + 1 + 1 + 1 + 1 + 1 + 1)) (nI_add (n + 1 + 1 + 1 + 1 + 1 + 1 + 1 + 1) 1) ?_
  refine va_put (D := D) (ci := 8) (v := .int (nI (n + 1 + 1 + 1 + 1 + 1 + 1 + 1 + 1 + 1))) (ty := .int) (C := R_Mo) (T := F_Mo) (N := 29) hx hb hts i_Mo t_Mo t_Mo_ok n_Mo hown hZ.1 hP hD hS 0 rfl rfl 1 (by decide) (hts _ fl_Mo_48) (fun _ h9 => h9) rfl (by decide +kernel) rfl rfl (Nat.le_of_ble_eq_true rfl) d_Mo_feed_111 (fun H locs hP hD hS => ?_)
  have hP : va_P D classes [(mo, .inr (8, [.int 0, .int (nI (n + 1 + 1 + 1 + 1 + 1 + 1 + 1 + 1 + 1)), .ref m_row, .ref m_shelves, .ref m_many, .ref m_widths, .int z_marks, .ref m_mark, .int z_shown, .ref m_shownMark, .int z_wasRun, .int z_wrong, .int z_ended, .int z_steps, .int z_hints, .int z_hasWidth, .int z_width, .int z_first, .int z_moved, .int z_deepest, .int z_x, .int z_y, .int z_top, .ref m_stack, .ref m_places, .int z_depth, .ref m_kinds, .ref m_ats, .ref m_ends])), (m_row, .inl (cI, 16384, .inl (upd (upd (upd (upd (upd (upd (upd (upd (upd g_row n ((x1 >>> (24 &&& 31)) &&& 255)) (n + 1) ((x1 >>> (16 &&& 31)) &&& 255)) (n + 1 + 1) ((x1 >>> (8 &&& 31)) &&& 255)) (n + 1 + 1 + 1) ((x1 >>> (0 &&& 31)) &&& 255)) (n + 1 + 1 + 1 + 1) ((x2 >>> (24 &&& 31)) &&& 255)) (n + 1 + 1 + 1 + 1 + 1) ((x2 >>> (16 &&& 31)) &&& 255)) (n + 1 + 1 + 1 + 1 + 1 + 1) ((x2 >>> (8 &&& 31)) &&& 255)) (n + 1 + 1 + 1 + 1 + 1 + 1 + 1) ((x2 >>> (0 &&& 31)) &&& 255)) (n + 1 + 1 + 1 + 1 + 1 + 1 + 1 + 1) ((x3 >>> (24 &&& 31)) &&& 255))))] H := hP
  have hD : va_D A_ [(mo, .inr (8, [.int 0, .int (nI (n + 1 + 1 + 1 + 1 + 1 + 1 + 1 + 1 + 1)), .ref m_row, .ref m_shelves, .ref m_many, .ref m_widths, .int z_marks, .ref m_mark, .int z_shown, .ref m_shownMark, .int z_wasRun, .int z_wrong, .int z_ended, .int z_steps, .int z_hints, .int z_hasWidth, .int z_width, .int z_first, .int z_moved, .int z_deepest, .int z_x, .int z_y, .int z_top, .ref m_stack, .ref m_places, .int z_depth, .ref m_kinds, .ref m_ats, .ref m_ends])), (m_row, .inl (cI, 16384, .inl (upd (upd (upd (upd (upd (upd (upd (upd (upd g_row n ((x1 >>> (24 &&& 31)) &&& 255)) (n + 1) ((x1 >>> (16 &&& 31)) &&& 255)) (n + 1 + 1) ((x1 >>> (8 &&& 31)) &&& 255)) (n + 1 + 1 + 1) ((x1 >>> (0 &&& 31)) &&& 255)) (n + 1 + 1 + 1 + 1) ((x2 >>> (24 &&& 31)) &&& 255)) (n + 1 + 1 + 1 + 1 + 1) ((x2 >>> (16 &&& 31)) &&& 255)) (n + 1 + 1 + 1 + 1 + 1 + 1) ((x2 >>> (8 &&& 31)) &&& 255)) (n + 1 + 1 + 1 + 1 + 1 + 1 + 1) ((x2 >>> (0 &&& 31)) &&& 255)) (n + 1 + 1 + 1 + 1 + 1 + 1 + 1 + 1) ((x3 >>> (24 &&& 31)) &&& 255))))] := hD
  refine lv_iinc (v := 9) (lv' := [(6, .int 9), (7, .int x3), (0, .ref mo), (1, .int x1), (2, .int x2), (3, .int x3), (4, .int x4), (5, .int x5)]) hx hb d_Mo_feed_114 hl (k := 1) rfl (by decide) (by decide) rfl (fun ls hl => ?_)
  refine lv_goto (tgt := 23) hx hb d_Mo_feed_117 (by decide) ?_
  refine lv_iload hx hb d_Mo_feed_23 (lv_at hl 0 rfl) ?_
  refine lv_bipush (v := 20) hx hb d_Mo_feed_25 (by decide) ?_
  refine lv_icmp_ge (tgt := 120) hx hb d_Mo_feed_27 (by decide) (fun c_27 => absurd c_27 (by decide)) (fun c_27 => ?_)
  clear c_27
  refine lv_iload hx hb d_Mo_feed_30 (lv_at hl 0 rfl) ?_
  refine lv_iconst (v := 4) hx hb d_Mo_feed_32 (by decide) ?_
  refine lv_icmp_ge (tgt := 40) hx hb d_Mo_feed_33 (by decide) (fun c_33 => ?_) (fun c_33 => absurd (by decide) c_33)
  clear c_33
  refine lv_iload hx hb d_Mo_feed_40 (lv_at hl 0 rfl) ?_
  refine lv_bipush (v := 8) hx hb d_Mo_feed_42 (by decide) ?_
  refine lv_icmp_ge (tgt := 51) hx hb d_Mo_feed_44 (by decide) (fun c_44 => ?_) (fun c_44 => absurd (by decide) c_44)
  clear c_44
  refine lv_iload hx hb d_Mo_feed_51 (lv_at hl 0 rfl) ?_
  refine lv_bipush (v := 12) hx hb d_Mo_feed_53 (by decide) ?_
  refine lv_icmp_ge (tgt := 62) hx hb d_Mo_feed_55 (by decide) (fun c_55 => absurd c_55 (by decide)) (fun c_55 => ?_)
  clear c_55
  refine lv_iload_n hx hb d_Mo_feed_58 rfl (lv_at hl 5 rfl) ?_
  refine lv_goto (tgt := 76) hx hb d_Mo_feed_59 (by decide) ?_
  refine lv_istore (lv' := [(7, .int x3), (6, .int 9), (0, .ref mo), (1, .int x1), (2, .int x2), (3, .int x3), (4, .int x4), (5, .int x5)]) hx hb d_Mo_feed_76 hl (by decide) rfl (fun ls hl => ?_)
  refine lv_aload_n hx hb d_Mo_feed_78 rfl (lv_at hl 2 rfl) ?_
  refine va_get (D := D) (ci := 8) (v := .ref m_row) (C := R_Mo) (T := F_Mo) (N := 29) hx hb hts i_Mo hown hZ.1 hP 0 rfl rfl 2 (by decide) (hts _ fl_Mo_7) (fun _ h9 => h9) rfl d_Mo_feed_79 ?_
  refine lv_aload_n hx hb d_Mo_feed_82 rfl (lv_at hl 2 rfl) ?_
  refine va_get (D := D) (ci := 8) (v := .int (nI (n + 1 + 1 + 1 + 1 + 1 + 1 + 1 + 1 + 1))) (C := R_Mo) (T := F_Mo) (N := 29) hx hb hts i_Mo hown hZ.1 hP 0 rfl rfl 1 (by decide) (hts _ fl_Mo_48) (fun _ h9 => h9) rfl d_Mo_feed_83 ?_
  refine lv_iload hx hb d_Mo_feed_86 (lv_at hl 0 rfl) ?_
  refine lv_bipush (v := 24) hx hb d_Mo_feed_88 (by decide) ?_
  refine lv_bipush (v := 8) hx hb d_Mo_feed_90 (by decide) ?_
  refine lv_iload hx hb d_Mo_feed_92 (lv_at hl 1 rfl) ?_
  refine lv_iconst (v := 4) hx hb d_Mo_feed_94 (by decide) ?_
  refine lv_irem hx hb d_Mo_feed_95 (by decide) ?_
  refine lv_tv (y := 1) (by decide) ?_
  refine lv_imul hx hb d_Mo_feed_96 ?_
  refine lv_tv (y := 8) (by decide) ?_
  refine lv_isub hx hb d_Mo_feed_97 ?_
  refine lv_tv (y := 16) (by decide) ?_
  refine lv_ishr hx hb d_Mo_feed_98 ?_
  refine lv_sipush (v := 255) hx hb d_Mo_feed_99 (by decide) ?_
  refine lv_iand hx hb d_Mo_feed_102 ?_
  refine va_iast hx hb hZ.1 hP hD hS 1 1 rfl rfl (vp_in_nI (by omega) (by omega)) d_Mo_feed_103 (fun H locs hP hD hS => ?_)
  rw [show ((nI (n + 1 + 1 + 1 + 1 + 1 + 1 + 1 + 1 + 1)).toNatClampNeg) = n + 1 + 1 + 1 + 1 + 1 + 1 + 1 + 1 + 1 from nI_clamp (by omega)] at hP hD
  have hP : va_P D classes [(mo, .inr (8, [.int 0, .int (nI (n + 1 + 1 + 1 + 1 + 1 + 1 + 1 + 1 + 1)), .ref m_row, .ref m_shelves, .ref m_many, .ref m_widths, .int z_marks, .ref m_mark, .int z_shown, .ref m_shownMark, .int z_wasRun, .int z_wrong, .int z_ended, .int z_steps, .int z_hints, .int z_hasWidth, .int z_width, .int z_first, .int z_moved, .int z_deepest, .int z_x, .int z_y, .int z_top, .ref m_stack, .ref m_places, .int z_depth, .ref m_kinds, .ref m_ats, .ref m_ends])), (m_row, .inl (cI, 16384, .inl (upd (upd (upd (upd (upd (upd (upd (upd (upd (upd g_row n ((x1 >>> (24 &&& 31)) &&& 255)) (n + 1) ((x1 >>> (16 &&& 31)) &&& 255)) (n + 1 + 1) ((x1 >>> (8 &&& 31)) &&& 255)) (n + 1 + 1 + 1) ((x1 >>> (0 &&& 31)) &&& 255)) (n + 1 + 1 + 1 + 1) ((x2 >>> (24 &&& 31)) &&& 255)) (n + 1 + 1 + 1 + 1 + 1) ((x2 >>> (16 &&& 31)) &&& 255)) (n + 1 + 1 + 1 + 1 + 1 + 1) ((x2 >>> (8 &&& 31)) &&& 255)) (n + 1 + 1 + 1 + 1 + 1 + 1 + 1) ((x2 >>> (0 &&& 31)) &&& 255)) (n + 1 + 1 + 1 + 1 + 1 + 1 + 1 + 1) ((x3 >>> (24 &&& 31)) &&& 255)) (n + 1 + 1 + 1 + 1 + 1 + 1 + 1 + 1 + 1) ((x3 >>> (16 &&& 31)) &&& 255))))] H := hP
  have hD : va_D A_ [(mo, .inr (8, [.int 0, .int (nI (n + 1 + 1 + 1 + 1 + 1 + 1 + 1 + 1 + 1)), .ref m_row, .ref m_shelves, .ref m_many, .ref m_widths, .int z_marks, .ref m_mark, .int z_shown, .ref m_shownMark, .int z_wasRun, .int z_wrong, .int z_ended, .int z_steps, .int z_hints, .int z_hasWidth, .int z_width, .int z_first, .int z_moved, .int z_deepest, .int z_x, .int z_y, .int z_top, .ref m_stack, .ref m_places, .int z_depth, .ref m_kinds, .ref m_ats, .ref m_ends])), (m_row, .inl (cI, 16384, .inl (upd (upd (upd (upd (upd (upd (upd (upd (upd (upd g_row n ((x1 >>> (24 &&& 31)) &&& 255)) (n + 1) ((x1 >>> (16 &&& 31)) &&& 255)) (n + 1 + 1) ((x1 >>> (8 &&& 31)) &&& 255)) (n + 1 + 1 + 1) ((x1 >>> (0 &&& 31)) &&& 255)) (n + 1 + 1 + 1 + 1) ((x2 >>> (24 &&& 31)) &&& 255)) (n + 1 + 1 + 1 + 1 + 1) ((x2 >>> (16 &&& 31)) &&& 255)) (n + 1 + 1 + 1 + 1 + 1 + 1) ((x2 >>> (8 &&& 31)) &&& 255)) (n + 1 + 1 + 1 + 1 + 1 + 1 + 1) ((x2 >>> (0 &&& 31)) &&& 255)) (n + 1 + 1 + 1 + 1 + 1 + 1 + 1 + 1) ((x3 >>> (24 &&& 31)) &&& 255)) (n + 1 + 1 + 1 + 1 + 1 + 1 + 1 + 1 + 1) ((x3 >>> (16 &&& 31)) &&& 255))))] := hD
  refine lv_aload_n hx hb d_Mo_feed_104 rfl (lv_at hl 2 rfl) ?_
  refine lv_dup hx hb d_Mo_feed_105 rfl ?_
  refine va_get (D := D) (ci := 8) (v := .int (nI (n + 1 + 1 + 1 + 1 + 1 + 1 + 1 + 1 + 1))) (C := R_Mo) (T := F_Mo) (N := 29) hx hb hts i_Mo hown hZ.1 hP 0 rfl rfl 1 (by decide) (hts _ fl_Mo_48) (fun _ h9 => h9) rfl d_Mo_feed_106 ?_
  refine lv_iconst (v := 1) hx hb d_Mo_feed_109 (by decide) ?_
  refine lv_iadd hx hb d_Mo_feed_110 ?_
  refine lv_tv (y := nI (n + 1 + 1 + 1 + 1 + 1 + 1 + 1 + 1 + 1 + 1)) (nI_add (n + 1 + 1 + 1 + 1 + 1 + 1 + 1 + 1 + 1) 1) ?_
  refine va_put (D := D) (ci := 8) (v := .int (nI (n + 1 + 1 + 1 + 1 + 1 + 1 + 1 + 1 + 1 + 1))) (ty := .int) (C := R_Mo) (T := F_Mo) (N := 29) hx hb hts i_Mo t_Mo t_Mo_ok n_Mo hown hZ.1 hP hD hS 0 rfl rfl 1 (by decide) (hts _ fl_Mo_48) (fun _ h9 => h9) rfl (by decide +kernel) rfl rfl (Nat.le_of_ble_eq_true rfl) d_Mo_feed_111 (fun H locs hP hD hS => ?_)
  have hP : va_P D classes [(mo, .inr (8, [.int 0, .int (nI (n + 1 + 1 + 1 + 1 + 1 + 1 + 1 + 1 + 1 + 1)), .ref m_row, .ref m_shelves, .ref m_many, .ref m_widths, .int z_marks, .ref m_mark, .int z_shown, .ref m_shownMark, .int z_wasRun, .int z_wrong, .int z_ended, .int z_steps, .int z_hints, .int z_hasWidth, .int z_width, .int z_first, .int z_moved, .int z_deepest, .int z_x, .int z_y, .int z_top, .ref m_stack, .ref m_places, .int z_depth, .ref m_kinds, .ref m_ats, .ref m_ends])), (m_row, .inl (cI, 16384, .inl (upd (upd (upd (upd (upd (upd (upd (upd (upd (upd g_row n ((x1 >>> (24 &&& 31)) &&& 255)) (n + 1) ((x1 >>> (16 &&& 31)) &&& 255)) (n + 1 + 1) ((x1 >>> (8 &&& 31)) &&& 255)) (n + 1 + 1 + 1) ((x1 >>> (0 &&& 31)) &&& 255)) (n + 1 + 1 + 1 + 1) ((x2 >>> (24 &&& 31)) &&& 255)) (n + 1 + 1 + 1 + 1 + 1) ((x2 >>> (16 &&& 31)) &&& 255)) (n + 1 + 1 + 1 + 1 + 1 + 1) ((x2 >>> (8 &&& 31)) &&& 255)) (n + 1 + 1 + 1 + 1 + 1 + 1 + 1) ((x2 >>> (0 &&& 31)) &&& 255)) (n + 1 + 1 + 1 + 1 + 1 + 1 + 1 + 1) ((x3 >>> (24 &&& 31)) &&& 255)) (n + 1 + 1 + 1 + 1 + 1 + 1 + 1 + 1 + 1) ((x3 >>> (16 &&& 31)) &&& 255))))] H := hP
  have hD : va_D A_ [(mo, .inr (8, [.int 0, .int (nI (n + 1 + 1 + 1 + 1 + 1 + 1 + 1 + 1 + 1 + 1)), .ref m_row, .ref m_shelves, .ref m_many, .ref m_widths, .int z_marks, .ref m_mark, .int z_shown, .ref m_shownMark, .int z_wasRun, .int z_wrong, .int z_ended, .int z_steps, .int z_hints, .int z_hasWidth, .int z_width, .int z_first, .int z_moved, .int z_deepest, .int z_x, .int z_y, .int z_top, .ref m_stack, .ref m_places, .int z_depth, .ref m_kinds, .ref m_ats, .ref m_ends])), (m_row, .inl (cI, 16384, .inl (upd (upd (upd (upd (upd (upd (upd (upd (upd (upd g_row n ((x1 >>> (24 &&& 31)) &&& 255)) (n + 1) ((x1 >>> (16 &&& 31)) &&& 255)) (n + 1 + 1) ((x1 >>> (8 &&& 31)) &&& 255)) (n + 1 + 1 + 1) ((x1 >>> (0 &&& 31)) &&& 255)) (n + 1 + 1 + 1 + 1) ((x2 >>> (24 &&& 31)) &&& 255)) (n + 1 + 1 + 1 + 1 + 1) ((x2 >>> (16 &&& 31)) &&& 255)) (n + 1 + 1 + 1 + 1 + 1 + 1) ((x2 >>> (8 &&& 31)) &&& 255)) (n + 1 + 1 + 1 + 1 + 1 + 1 + 1) ((x2 >>> (0 &&& 31)) &&& 255)) (n + 1 + 1 + 1 + 1 + 1 + 1 + 1 + 1) ((x3 >>> (24 &&& 31)) &&& 255)) (n + 1 + 1 + 1 + 1 + 1 + 1 + 1 + 1 + 1) ((x3 >>> (16 &&& 31)) &&& 255))))] := hD
  refine lv_iinc (v := 10) (lv' := [(6, .int 10), (7, .int x3), (0, .ref mo), (1, .int x1), (2, .int x2), (3, .int x3), (4, .int x4), (5, .int x5)]) hx hb d_Mo_feed_114 hl (k := 1) rfl (by decide) (by decide) rfl (fun ls hl => ?_)
  refine lv_goto (tgt := 23) hx hb d_Mo_feed_117 (by decide) ?_
  refine lv_iload hx hb d_Mo_feed_23 (lv_at hl 0 rfl) ?_
  refine lv_bipush (v := 20) hx hb d_Mo_feed_25 (by decide) ?_
  refine lv_icmp_ge (tgt := 120) hx hb d_Mo_feed_27 (by decide) (fun c_27 => absurd c_27 (by decide)) (fun c_27 => ?_)
  clear c_27
  refine lv_iload hx hb d_Mo_feed_30 (lv_at hl 0 rfl) ?_
  refine lv_iconst (v := 4) hx hb d_Mo_feed_32 (by decide) ?_
  refine lv_icmp_ge (tgt := 40) hx hb d_Mo_feed_33 (by decide) (fun c_33 => ?_) (fun c_33 => absurd (by decide) c_33)
  clear c_33
  refine lv_iload hx hb d_Mo_feed_40 (lv_at hl 0 rfl) ?_
  refine lv_bipush (v := 8) hx hb d_Mo_feed_42 (by decide) ?_
  refine lv_icmp_ge (tgt := 51) hx hb d_Mo_feed_44 (by decide) (fun c_44 => ?_) (fun c_44 => absurd (by decide) c_44)
  clear c_44
  refine lv_iload hx hb d_Mo_feed_51 (lv_at hl 0 rfl) ?_
  refine lv_bipush (v := 12) hx hb d_Mo_feed_53 (by decide) ?_
  refine lv_icmp_ge (tgt := 62) hx hb d_Mo_feed_55 (by decide) (fun c_55 => absurd c_55 (by decide)) (fun c_55 => ?_)
  clear c_55
  refine lv_iload_n hx hb d_Mo_feed_58 rfl (lv_at hl 5 rfl) ?_
  refine lv_goto (tgt := 76) hx hb d_Mo_feed_59 (by decide) ?_
  refine lv_istore (lv' := [(7, .int x3), (6, .int 10), (0, .ref mo), (1, .int x1), (2, .int x2), (3, .int x3), (4, .int x4), (5, .int x5)]) hx hb d_Mo_feed_76 hl (by decide) rfl (fun ls hl => ?_)
  refine lv_aload_n hx hb d_Mo_feed_78 rfl (lv_at hl 2 rfl) ?_
  refine va_get (D := D) (ci := 8) (v := .ref m_row) (C := R_Mo) (T := F_Mo) (N := 29) hx hb hts i_Mo hown hZ.1 hP 0 rfl rfl 2 (by decide) (hts _ fl_Mo_7) (fun _ h9 => h9) rfl d_Mo_feed_79 ?_
  refine lv_aload_n hx hb d_Mo_feed_82 rfl (lv_at hl 2 rfl) ?_
  refine va_get (D := D) (ci := 8) (v := .int (nI (n + 1 + 1 + 1 + 1 + 1 + 1 + 1 + 1 + 1 + 1))) (C := R_Mo) (T := F_Mo) (N := 29) hx hb hts i_Mo hown hZ.1 hP 0 rfl rfl 1 (by decide) (hts _ fl_Mo_48) (fun _ h9 => h9) rfl d_Mo_feed_83 ?_
  refine lv_iload hx hb d_Mo_feed_86 (lv_at hl 0 rfl) ?_
  refine lv_bipush (v := 24) hx hb d_Mo_feed_88 (by decide) ?_
  refine lv_bipush (v := 8) hx hb d_Mo_feed_90 (by decide) ?_
  refine lv_iload hx hb d_Mo_feed_92 (lv_at hl 1 rfl) ?_
  refine lv_iconst (v := 4) hx hb d_Mo_feed_94 (by decide) ?_
  refine lv_irem hx hb d_Mo_feed_95 (by decide) ?_
  refine lv_tv (y := 2) (by decide) ?_
  refine lv_imul hx hb d_Mo_feed_96 ?_
  refine lv_tv (y := 16) (by decide) ?_
  refine lv_isub hx hb d_Mo_feed_97 ?_
  refine lv_tv (y := 8) (by decide) ?_
  refine lv_ishr hx hb d_Mo_feed_98 ?_
  refine lv_sipush (v := 255) hx hb d_Mo_feed_99 (by decide) ?_
  refine lv_iand hx hb d_Mo_feed_102 ?_
  refine va_iast hx hb hZ.1 hP hD hS 1 1 rfl rfl (vp_in_nI (by omega) (by omega)) d_Mo_feed_103 (fun H locs hP hD hS => ?_)
  rw [show ((nI (n + 1 + 1 + 1 + 1 + 1 + 1 + 1 + 1 + 1 + 1)).toNatClampNeg) = n + 1 + 1 + 1 + 1 + 1 + 1 + 1 + 1 + 1 + 1 from nI_clamp (by omega)] at hP hD
  have hP : va_P D classes [(mo, .inr (8, [.int 0, .int (nI (n + 1 + 1 + 1 + 1 + 1 + 1 + 1 + 1 + 1 + 1)), .ref m_row, .ref m_shelves, .ref m_many, .ref m_widths, .int z_marks, .ref m_mark, .int z_shown, .ref m_shownMark, .int z_wasRun, .int z_wrong, .int z_ended, .int z_steps, .int z_hints, .int z_hasWidth, .int z_width, .int z_first, .int z_moved, .int z_deepest, .int z_x, .int z_y, .int z_top, .ref m_stack, .ref m_places, .int z_depth, .ref m_kinds, .ref m_ats, .ref m_ends])), (m_row, .inl (cI, 16384, .inl (upd (upd (upd (upd (upd (upd (upd (upd (upd (upd (upd g_row n ((x1 >>> (24 &&& 31)) &&& 255)) (n + 1) ((x1 >>> (16 &&& 31)) &&& 255)) (n + 1 + 1) ((x1 >>> (8 &&& 31)) &&& 255)) (n + 1 + 1 + 1) ((x1 >>> (0 &&& 31)) &&& 255)) (n + 1 + 1 + 1 + 1) ((x2 >>> (24 &&& 31)) &&& 255)) (n + 1 + 1 + 1 + 1 + 1) ((x2 >>> (16 &&& 31)) &&& 255)) (n + 1 + 1 + 1 + 1 + 1 + 1) ((x2 >>> (8 &&& 31)) &&& 255)) (n + 1 + 1 + 1 + 1 + 1 + 1 + 1) ((x2 >>> (0 &&& 31)) &&& 255)) (n + 1 + 1 + 1 + 1 + 1 + 1 + 1 + 1) ((x3 >>> (24 &&& 31)) &&& 255)) (n + 1 + 1 + 1 + 1 + 1 + 1 + 1 + 1 + 1) ((x3 >>> (16 &&& 31)) &&& 255)) (n + 1 + 1 + 1 + 1 + 1 + 1 + 1 + 1 + 1 + 1) ((x3 >>> (8 &&& 31)) &&& 255))))] H := hP
  have hD : va_D A_ [(mo, .inr (8, [.int 0, .int (nI (n + 1 + 1 + 1 + 1 + 1 + 1 + 1 + 1 + 1 + 1)), .ref m_row, .ref m_shelves, .ref m_many, .ref m_widths, .int z_marks, .ref m_mark, .int z_shown, .ref m_shownMark, .int z_wasRun, .int z_wrong, .int z_ended, .int z_steps, .int z_hints, .int z_hasWidth, .int z_width, .int z_first, .int z_moved, .int z_deepest, .int z_x, .int z_y, .int z_top, .ref m_stack, .ref m_places, .int z_depth, .ref m_kinds, .ref m_ats, .ref m_ends])), (m_row, .inl (cI, 16384, .inl (upd (upd (upd (upd (upd (upd (upd (upd (upd (upd (upd g_row n ((x1 >>> (24 &&& 31)) &&& 255)) (n + 1) ((x1 >>> (16 &&& 31)) &&& 255)) (n + 1 + 1) ((x1 >>> (8 &&& 31)) &&& 255)) (n + 1 + 1 + 1) ((x1 >>> (0 &&& 31)) &&& 255)) (n + 1 + 1 + 1 + 1) ((x2 >>> (24 &&& 31)) &&& 255)) (n + 1 + 1 + 1 + 1 + 1) ((x2 >>> (16 &&& 31)) &&& 255)) (n + 1 + 1 + 1 + 1 + 1 + 1) ((x2 >>> (8 &&& 31)) &&& 255)) (n + 1 + 1 + 1 + 1 + 1 + 1 + 1) ((x2 >>> (0 &&& 31)) &&& 255)) (n + 1 + 1 + 1 + 1 + 1 + 1 + 1 + 1) ((x3 >>> (24 &&& 31)) &&& 255)) (n + 1 + 1 + 1 + 1 + 1 + 1 + 1 + 1 + 1) ((x3 >>> (16 &&& 31)) &&& 255)) (n + 1 + 1 + 1 + 1 + 1 + 1 + 1 + 1 + 1 + 1) ((x3 >>> (8 &&& 31)) &&& 255))))] := hD
  refine lv_aload_n hx hb d_Mo_feed_104 rfl (lv_at hl 2 rfl) ?_
  refine lv_dup hx hb d_Mo_feed_105 rfl ?_
  refine va_get (D := D) (ci := 8) (v := .int (nI (n + 1 + 1 + 1 + 1 + 1 + 1 + 1 + 1 + 1 + 1))) (C := R_Mo) (T := F_Mo) (N := 29) hx hb hts i_Mo hown hZ.1 hP 0 rfl rfl 1 (by decide) (hts _ fl_Mo_48) (fun _ h9 => h9) rfl d_Mo_feed_106 ?_
  refine lv_iconst (v := 1) hx hb d_Mo_feed_109 (by decide) ?_
  refine lv_iadd hx hb d_Mo_feed_110 ?_
  refine lv_tv (y := nI (n + 1 + 1 + 1 + 1 + 1 + 1 + 1 + 1 + 1 + 1 + 1)) (nI_add (n + 1 + 1 + 1 + 1 + 1 + 1 + 1 + 1 + 1 + 1) 1) ?_
  refine va_put (D := D) (ci := 8) (v := .int (nI (n + 1 + 1 + 1 + 1 + 1 + 1 + 1 + 1 + 1 + 1 + 1))) (ty := .int) (C := R_Mo) (T := F_Mo) (N := 29) hx hb hts i_Mo t_Mo t_Mo_ok n_Mo hown hZ.1 hP hD hS 0 rfl rfl 1 (by decide) (hts _ fl_Mo_48) (fun _ h9 => h9) rfl (by decide +kernel) rfl rfl (Nat.le_of_ble_eq_true rfl) d_Mo_feed_111 (fun H locs hP hD hS => ?_)
  have hP : va_P D classes [(mo, .inr (8, [.int 0, .int (nI (n + 1 + 1 + 1 + 1 + 1 + 1 + 1 + 1 + 1 + 1 + 1)), .ref m_row, .ref m_shelves, .ref m_many, .ref m_widths, .int z_marks, .ref m_mark, .int z_shown, .ref m_shownMark, .int z_wasRun, .int z_wrong, .int z_ended, .int z_steps, .int z_hints, .int z_hasWidth, .int z_width, .int z_first, .int z_moved, .int z_deepest, .int z_x, .int z_y, .int z_top, .ref m_stack, .ref m_places, .int z_depth, .ref m_kinds, .ref m_ats, .ref m_ends])), (m_row, .inl (cI, 16384, .inl (upd (upd (upd (upd (upd (upd (upd (upd (upd (upd (upd g_row n ((x1 >>> (24 &&& 31)) &&& 255)) (n + 1) ((x1 >>> (16 &&& 31)) &&& 255)) (n + 1 + 1) ((x1 >>> (8 &&& 31)) &&& 255)) (n + 1 + 1 + 1) ((x1 >>> (0 &&& 31)) &&& 255)) (n + 1 + 1 + 1 + 1) ((x2 >>> (24 &&& 31)) &&& 255)) (n + 1 + 1 + 1 + 1 + 1) ((x2 >>> (16 &&& 31)) &&& 255)) (n + 1 + 1 + 1 + 1 + 1 + 1) ((x2 >>> (8 &&& 31)) &&& 255)) (n + 1 + 1 + 1 + 1 + 1 + 1 + 1) ((x2 >>> (0 &&& 31)) &&& 255)) (n + 1 + 1 + 1 + 1 + 1 + 1 + 1 + 1) ((x3 >>> (24 &&& 31)) &&& 255)) (n + 1 + 1 + 1 + 1 + 1 + 1 + 1 + 1 + 1) ((x3 >>> (16 &&& 31)) &&& 255)) (n + 1 + 1 + 1 + 1 + 1 + 1 + 1 + 1 + 1 + 1) ((x3 >>> (8 &&& 31)) &&& 255))))] H := hP
  have hD : va_D A_ [(mo, .inr (8, [.int 0, .int (nI (n + 1 + 1 + 1 + 1 + 1 + 1 + 1 + 1 + 1 + 1 + 1)), .ref m_row, .ref m_shelves, .ref m_many, .ref m_widths, .int z_marks, .ref m_mark, .int z_shown, .ref m_shownMark, .int z_wasRun, .int z_wrong, .int z_ended, .int z_steps, .int z_hints, .int z_hasWidth, .int z_width, .int z_first, .int z_moved, .int z_deepest, .int z_x, .int z_y, .int z_top, .ref m_stack, .ref m_places, .int z_depth, .ref m_kinds, .ref m_ats, .ref m_ends])), (m_row, .inl (cI, 16384, .inl (upd (upd (upd (upd (upd (upd (upd (upd (upd (upd (upd g_row n ((x1 >>> (24 &&& 31)) &&& 255)) (n + 1) ((x1 >>> (16 &&& 31)) &&& 255)) (n + 1 + 1) ((x1 >>> (8 &&& 31)) &&& 255)) (n + 1 + 1 + 1) ((x1 >>> (0 &&& 31)) &&& 255)) (n + 1 + 1 + 1 + 1) ((x2 >>> (24 &&& 31)) &&& 255)) (n + 1 + 1 + 1 + 1 + 1) ((x2 >>> (16 &&& 31)) &&& 255)) (n + 1 + 1 + 1 + 1 + 1 + 1) ((x2 >>> (8 &&& 31)) &&& 255)) (n + 1 + 1 + 1 + 1 + 1 + 1 + 1) ((x2 >>> (0 &&& 31)) &&& 255)) (n + 1 + 1 + 1 + 1 + 1 + 1 + 1 + 1) ((x3 >>> (24 &&& 31)) &&& 255)) (n + 1 + 1 + 1 + 1 + 1 + 1 + 1 + 1 + 1) ((x3 >>> (16 &&& 31)) &&& 255)) (n + 1 + 1 + 1 + 1 + 1 + 1 + 1 + 1 + 1 + 1) ((x3 >>> (8 &&& 31)) &&& 255))))] := hD
  refine lv_iinc (v := 11) (lv' := [(6, .int 11), (7, .int x3), (0, .ref mo), (1, .int x1), (2, .int x2), (3, .int x3), (4, .int x4), (5, .int x5)]) hx hb d_Mo_feed_114 hl (k := 1) rfl (by decide) (by decide) rfl (fun ls hl => ?_)
  refine lv_goto (tgt := 23) hx hb d_Mo_feed_117 (by decide) ?_
  refine lv_iload hx hb d_Mo_feed_23 (lv_at hl 0 rfl) ?_
  refine lv_bipush (v := 20) hx hb d_Mo_feed_25 (by decide) ?_
  refine lv_icmp_ge (tgt := 120) hx hb d_Mo_feed_27 (by decide) (fun c_27 => absurd c_27 (by decide)) (fun c_27 => ?_)
  clear c_27
  refine lv_iload hx hb d_Mo_feed_30 (lv_at hl 0 rfl) ?_
  refine lv_iconst (v := 4) hx hb d_Mo_feed_32 (by decide) ?_
  refine lv_icmp_ge (tgt := 40) hx hb d_Mo_feed_33 (by decide) (fun c_33 => ?_) (fun c_33 => absurd (by decide) c_33)
  clear c_33
  refine lv_iload hx hb d_Mo_feed_40 (lv_at hl 0 rfl) ?_
  refine lv_bipush (v := 8) hx hb d_Mo_feed_42 (by decide) ?_
  refine lv_icmp_ge (tgt := 51) hx hb d_Mo_feed_44 (by decide) (fun c_44 => ?_) (fun c_44 => absurd (by decide) c_44)
  clear c_44
  refine lv_iload hx hb d_Mo_feed_51 (lv_at hl 0 rfl) ?_
  refine lv_bipush (v := 12) hx hb d_Mo_feed_53 (by decide) ?_
  refine lv_icmp_ge (tgt := 62) hx hb d_Mo_feed_55 (by decide) (fun c_55 => absurd c_55 (by decide)) (fun c_55 => ?_)
  clear c_55
  refine lv_iload_n hx hb d_Mo_feed_58 rfl (lv_at hl 5 rfl) ?_
  refine lv_goto (tgt := 76) hx hb d_Mo_feed_59 (by decide) ?_
  refine lv_istore (lv' := [(7, .int x3), (6, .int 11), (0, .ref mo), (1, .int x1), (2, .int x2), (3, .int x3), (4, .int x4), (5, .int x5)]) hx hb d_Mo_feed_76 hl (by decide) rfl (fun ls hl => ?_)
  refine lv_aload_n hx hb d_Mo_feed_78 rfl (lv_at hl 2 rfl) ?_
  refine va_get (D := D) (ci := 8) (v := .ref m_row) (C := R_Mo) (T := F_Mo) (N := 29) hx hb hts i_Mo hown hZ.1 hP 0 rfl rfl 2 (by decide) (hts _ fl_Mo_7) (fun _ h9 => h9) rfl d_Mo_feed_79 ?_
  refine lv_aload_n hx hb d_Mo_feed_82 rfl (lv_at hl 2 rfl) ?_
  refine va_get (D := D) (ci := 8) (v := .int (nI (n + 1 + 1 + 1 + 1 + 1 + 1 + 1 + 1 + 1 + 1 + 1))) (C := R_Mo) (T := F_Mo) (N := 29) hx hb hts i_Mo hown hZ.1 hP 0 rfl rfl 1 (by decide) (hts _ fl_Mo_48) (fun _ h9 => h9) rfl d_Mo_feed_83 ?_
  refine lv_iload hx hb d_Mo_feed_86 (lv_at hl 0 rfl) ?_
  refine lv_bipush (v := 24) hx hb d_Mo_feed_88 (by decide) ?_
  refine lv_bipush (v := 8) hx hb d_Mo_feed_90 (by decide) ?_
  refine lv_iload hx hb d_Mo_feed_92 (lv_at hl 1 rfl) ?_
  refine lv_iconst (v := 4) hx hb d_Mo_feed_94 (by decide) ?_
  refine lv_irem hx hb d_Mo_feed_95 (by decide) ?_
  refine lv_tv (y := 3) (by decide) ?_
  refine lv_imul hx hb d_Mo_feed_96 ?_
  refine lv_tv (y := 24) (by decide) ?_
  refine lv_isub hx hb d_Mo_feed_97 ?_
  refine lv_tv (y := 0) (by decide) ?_
  refine lv_ishr hx hb d_Mo_feed_98 ?_
  refine lv_sipush (v := 255) hx hb d_Mo_feed_99 (by decide) ?_
  refine lv_iand hx hb d_Mo_feed_102 ?_
  refine va_iast hx hb hZ.1 hP hD hS 1 1 rfl rfl (vp_in_nI (by omega) (by omega)) d_Mo_feed_103 (fun H locs hP hD hS => ?_)
  rw [show ((nI (n + 1 + 1 + 1 + 1 + 1 + 1 + 1 + 1 + 1 + 1 + 1)).toNatClampNeg) = n + 1 + 1 + 1 + 1 + 1 + 1 + 1 + 1 + 1 + 1 + 1 from nI_clamp (by omega)] at hP hD
  have hP : va_P D classes [(mo, .inr (8, [.int 0, .int (nI (n + 1 + 1 + 1 + 1 + 1 + 1 + 1 + 1 + 1 + 1 + 1)), .ref m_row, .ref m_shelves, .ref m_many, .ref m_widths, .int z_marks, .ref m_mark, .int z_shown, .ref m_shownMark, .int z_wasRun, .int z_wrong, .int z_ended, .int z_steps, .int z_hints, .int z_hasWidth, .int z_width, .int z_first, .int z_moved, .int z_deepest, .int z_x, .int z_y, .int z_top, .ref m_stack, .ref m_places, .int z_depth, .ref m_kinds, .ref m_ats, .ref m_ends])), (m_row, .inl (cI, 16384, .inl (upd (upd (upd (upd (upd (upd (upd (upd (upd (upd (upd (upd g_row n ((x1 >>> (24 &&& 31)) &&& 255)) (n + 1) ((x1 >>> (16 &&& 31)) &&& 255)) (n + 1 + 1) ((x1 >>> (8 &&& 31)) &&& 255)) (n + 1 + 1 + 1) ((x1 >>> (0 &&& 31)) &&& 255)) (n + 1 + 1 + 1 + 1) ((x2 >>> (24 &&& 31)) &&& 255)) (n + 1 + 1 + 1 + 1 + 1) ((x2 >>> (16 &&& 31)) &&& 255)) (n + 1 + 1 + 1 + 1 + 1 + 1) ((x2 >>> (8 &&& 31)) &&& 255)) (n + 1 + 1 + 1 + 1 + 1 + 1 + 1) ((x2 >>> (0 &&& 31)) &&& 255)) (n + 1 + 1 + 1 + 1 + 1 + 1 + 1 + 1) ((x3 >>> (24 &&& 31)) &&& 255)) (n + 1 + 1 + 1 + 1 + 1 + 1 + 1 + 1 + 1) ((x3 >>> (16 &&& 31)) &&& 255)) (n + 1 + 1 + 1 + 1 + 1 + 1 + 1 + 1 + 1 + 1) ((x3 >>> (8 &&& 31)) &&& 255)) (n + 1 + 1 + 1 + 1 + 1 + 1 + 1 + 1 + 1 + 1 + 1) ((x3 >>> (0 &&& 31)) &&& 255))))] H := hP
  have hD : va_D A_ [(mo, .inr (8, [.int 0, .int (nI (n + 1 + 1 + 1 + 1 + 1 + 1 + 1 + 1 + 1 + 1 + 1)), .ref m_row, .ref m_shelves, .ref m_many, .ref m_widths, .int z_marks, .ref m_mark, .int z_shown, .ref m_shownMark, .int z_wasRun, .int z_wrong, .int z_ended, .int z_steps, .int z_hints, .int z_hasWidth, .int z_width, .int z_first, .int z_moved, .int z_deepest, .int z_x, .int z_y, .int z_top, .ref m_stack, .ref m_places, .int z_depth, .ref m_kinds, .ref m_ats, .ref m_ends])), (m_row, .inl (cI, 16384, .inl (upd (upd (upd (upd (upd (upd (upd (upd (upd (upd (upd (upd g_row n ((x1 >>> (24 &&& 31)) &&& 255)) (n + 1) ((x1 >>> (16 &&& 31)) &&& 255)) (n + 1 + 1) ((x1 >>> (8 &&& 31)) &&& 255)) (n + 1 + 1 + 1) ((x1 >>> (0 &&& 31)) &&& 255)) (n + 1 + 1 + 1 + 1) ((x2 >>> (24 &&& 31)) &&& 255)) (n + 1 + 1 + 1 + 1 + 1) ((x2 >>> (16 &&& 31)) &&& 255)) (n + 1 + 1 + 1 + 1 + 1 + 1) ((x2 >>> (8 &&& 31)) &&& 255)) (n + 1 + 1 + 1 + 1 + 1 + 1 + 1) ((x2 >>> (0 &&& 31)) &&& 255)) (n + 1 + 1 + 1 + 1 + 1 + 1 + 1 + 1) ((x3 >>> (24 &&& 31)) &&& 255)) (n + 1 + 1 + 1 + 1 + 1 + 1 + 1 + 1 + 1) ((x3 >>> (16 &&& 31)) &&& 255)) (n + 1 + 1 + 1 + 1 + 1 + 1 + 1 + 1 + 1 + 1) ((x3 >>> (8 &&& 31)) &&& 255)) (n + 1 + 1 + 1 + 1 + 1 + 1 + 1 + 1 + 1 + 1 + 1) ((x3 >>> (0 &&& 31)) &&& 255))))] := hD
  refine lv_aload_n hx hb d_Mo_feed_104 rfl (lv_at hl 2 rfl) ?_
  refine lv_dup hx hb d_Mo_feed_105 rfl ?_
  refine va_get (D := D) (ci := 8) (v := .int (nI (n + 1 + 1 + 1 + 1 + 1 + 1 + 1 + 1 + 1 + 1 + 1))) (C := R_Mo) (T := F_Mo) (N := 29) hx hb hts i_Mo hown hZ.1 hP 0 rfl rfl 1 (by decide) (hts _ fl_Mo_48) (fun _ h9 => h9) rfl d_Mo_feed_106 ?_
  refine lv_iconst (v := 1) hx hb d_Mo_feed_109 (by decide) ?_
  refine lv_iadd hx hb d_Mo_feed_110 ?_
  refine lv_tv (y := nI (n + 1 + 1 + 1 + 1 + 1 + 1 + 1 + 1 + 1 + 1 + 1 + 1)) (nI_add (n + 1 + 1 + 1 + 1 + 1 + 1 + 1 + 1 + 1 + 1 + 1) 1) ?_
  refine va_put (D := D) (ci := 8) (v := .int (nI (n + 1 + 1 + 1 + 1 + 1 + 1 + 1 + 1 + 1 + 1 + 1 + 1))) (ty := .int) (C := R_Mo) (T := F_Mo) (N := 29) hx hb hts i_Mo t_Mo t_Mo_ok n_Mo hown hZ.1 hP hD hS 0 rfl rfl 1 (by decide) (hts _ fl_Mo_48) (fun _ h9 => h9) rfl (by decide +kernel) rfl rfl (Nat.le_of_ble_eq_true rfl) d_Mo_feed_111 (fun H locs hP hD hS => ?_)
  have hP : va_P D classes [(mo, .inr (8, [.int 0, .int (nI (n + 1 + 1 + 1 + 1 + 1 + 1 + 1 + 1 + 1 + 1 + 1 + 1)), .ref m_row, .ref m_shelves, .ref m_many, .ref m_widths, .int z_marks, .ref m_mark, .int z_shown, .ref m_shownMark, .int z_wasRun, .int z_wrong, .int z_ended, .int z_steps, .int z_hints, .int z_hasWidth, .int z_width, .int z_first, .int z_moved, .int z_deepest, .int z_x, .int z_y, .int z_top, .ref m_stack, .ref m_places, .int z_depth, .ref m_kinds, .ref m_ats, .ref m_ends])), (m_row, .inl (cI, 16384, .inl (upd (upd (upd (upd (upd (upd (upd (upd (upd (upd (upd (upd g_row n ((x1 >>> (24 &&& 31)) &&& 255)) (n + 1) ((x1 >>> (16 &&& 31)) &&& 255)) (n + 1 + 1) ((x1 >>> (8 &&& 31)) &&& 255)) (n + 1 + 1 + 1) ((x1 >>> (0 &&& 31)) &&& 255)) (n + 1 + 1 + 1 + 1) ((x2 >>> (24 &&& 31)) &&& 255)) (n + 1 + 1 + 1 + 1 + 1) ((x2 >>> (16 &&& 31)) &&& 255)) (n + 1 + 1 + 1 + 1 + 1 + 1) ((x2 >>> (8 &&& 31)) &&& 255)) (n + 1 + 1 + 1 + 1 + 1 + 1 + 1) ((x2 >>> (0 &&& 31)) &&& 255)) (n + 1 + 1 + 1 + 1 + 1 + 1 + 1 + 1) ((x3 >>> (24 &&& 31)) &&& 255)) (n + 1 + 1 + 1 + 1 + 1 + 1 + 1 + 1 + 1) ((x3 >>> (16 &&& 31)) &&& 255)) (n + 1 + 1 + 1 + 1 + 1 + 1 + 1 + 1 + 1 + 1) ((x3 >>> (8 &&& 31)) &&& 255)) (n + 1 + 1 + 1 + 1 + 1 + 1 + 1 + 1 + 1 + 1 + 1) ((x3 >>> (0 &&& 31)) &&& 255))))] H := hP
  have hD : va_D A_ [(mo, .inr (8, [.int 0, .int (nI (n + 1 + 1 + 1 + 1 + 1 + 1 + 1 + 1 + 1 + 1 + 1 + 1)), .ref m_row, .ref m_shelves, .ref m_many, .ref m_widths, .int z_marks, .ref m_mark, .int z_shown, .ref m_shownMark, .int z_wasRun, .int z_wrong, .int z_ended, .int z_steps, .int z_hints, .int z_hasWidth, .int z_width, .int z_first, .int z_moved, .int z_deepest, .int z_x, .int z_y, .int z_top, .ref m_stack, .ref m_places, .int z_depth, .ref m_kinds, .ref m_ats, .ref m_ends])), (m_row, .inl (cI, 16384, .inl (upd (upd (upd (upd (upd (upd (upd (upd (upd (upd (upd (upd g_row n ((x1 >>> (24 &&& 31)) &&& 255)) (n + 1) ((x1 >>> (16 &&& 31)) &&& 255)) (n + 1 + 1) ((x1 >>> (8 &&& 31)) &&& 255)) (n + 1 + 1 + 1) ((x1 >>> (0 &&& 31)) &&& 255)) (n + 1 + 1 + 1 + 1) ((x2 >>> (24 &&& 31)) &&& 255)) (n + 1 + 1 + 1 + 1 + 1) ((x2 >>> (16 &&& 31)) &&& 255)) (n + 1 + 1 + 1 + 1 + 1 + 1) ((x2 >>> (8 &&& 31)) &&& 255)) (n + 1 + 1 + 1 + 1 + 1 + 1 + 1) ((x2 >>> (0 &&& 31)) &&& 255)) (n + 1 + 1 + 1 + 1 + 1 + 1 + 1 + 1) ((x3 >>> (24 &&& 31)) &&& 255)) (n + 1 + 1 + 1 + 1 + 1 + 1 + 1 + 1 + 1) ((x3 >>> (16 &&& 31)) &&& 255)) (n + 1 + 1 + 1 + 1 + 1 + 1 + 1 + 1 + 1 + 1) ((x3 >>> (8 &&& 31)) &&& 255)) (n + 1 + 1 + 1 + 1 + 1 + 1 + 1 + 1 + 1 + 1 + 1) ((x3 >>> (0 &&& 31)) &&& 255))))] := hD
  refine lv_iinc (v := 12) (lv' := [(6, .int 12), (7, .int x3), (0, .ref mo), (1, .int x1), (2, .int x2), (3, .int x3), (4, .int x4), (5, .int x5)]) hx hb d_Mo_feed_114 hl (k := 1) rfl (by decide) (by decide) rfl (fun ls hl => ?_)
  refine lv_goto (tgt := 23) hx hb d_Mo_feed_117 (by decide) ?_
  refine lv_iload hx hb d_Mo_feed_23 (lv_at hl 0 rfl) ?_
  refine lv_bipush (v := 20) hx hb d_Mo_feed_25 (by decide) ?_
  refine lv_icmp_ge (tgt := 120) hx hb d_Mo_feed_27 (by decide) (fun c_27 => absurd c_27 (by decide)) (fun c_27 => ?_)
  clear c_27
  refine lv_iload hx hb d_Mo_feed_30 (lv_at hl 0 rfl) ?_
  refine lv_iconst (v := 4) hx hb d_Mo_feed_32 (by decide) ?_
  refine lv_icmp_ge (tgt := 40) hx hb d_Mo_feed_33 (by decide) (fun c_33 => ?_) (fun c_33 => absurd (by decide) c_33)
  clear c_33
  refine lv_iload hx hb d_Mo_feed_40 (lv_at hl 0 rfl) ?_
  refine lv_bipush (v := 8) hx hb d_Mo_feed_42 (by decide) ?_
  refine lv_icmp_ge (tgt := 51) hx hb d_Mo_feed_44 (by decide) (fun c_44 => ?_) (fun c_44 => absurd (by decide) c_44)
  clear c_44
  refine lv_iload hx hb d_Mo_feed_51 (lv_at hl 0 rfl) ?_
  refine lv_bipush (v := 12) hx hb d_Mo_feed_53 (by decide) ?_
  refine lv_icmp_ge (tgt := 62) hx hb d_Mo_feed_55 (by decide) (fun c_55 => ?_) (fun c_55 => absurd (by decide) c_55)
  clear c_55
  refine lv_iload hx hb d_Mo_feed_62 (lv_at hl 0 rfl) ?_
  refine lv_bipush (v := 16) hx hb d_Mo_feed_64 (by decide) ?_
  refine lv_icmp_ge (tgt := 74) hx hb d_Mo_feed_66 (by decide) (fun c_66 => absurd c_66 (by decide)) (fun c_66 => ?_)
  clear c_66
  refine lv_iload hx hb d_Mo_feed_69 (lv_at hl 6 rfl) ?_
  refine lv_goto (tgt := 76) hx hb d_Mo_feed_71 (by decide) ?_
  refine lv_istore (lv' := [(7, .int x4), (6, .int 12), (0, .ref mo), (1, .int x1), (2, .int x2), (3, .int x3), (4, .int x4), (5, .int x5)]) hx hb d_Mo_feed_76 hl (by decide) rfl (fun ls hl => ?_)
  refine lv_aload_n hx hb d_Mo_feed_78 rfl (lv_at hl 2 rfl) ?_
  refine va_get (D := D) (ci := 8) (v := .ref m_row) (C := R_Mo) (T := F_Mo) (N := 29) hx hb hts i_Mo hown hZ.1 hP 0 rfl rfl 2 (by decide) (hts _ fl_Mo_7) (fun _ h9 => h9) rfl d_Mo_feed_79 ?_
  refine lv_aload_n hx hb d_Mo_feed_82 rfl (lv_at hl 2 rfl) ?_
  refine va_get (D := D) (ci := 8) (v := .int (nI (n + 1 + 1 + 1 + 1 + 1 + 1 + 1 + 1 + 1 + 1 + 1 + 1))) (C := R_Mo) (T := F_Mo) (N := 29) hx hb hts i_Mo hown hZ.1 hP 0 rfl rfl 1 (by decide) (hts _ fl_Mo_48) (fun _ h9 => h9) rfl d_Mo_feed_83 ?_
  refine lv_iload hx hb d_Mo_feed_86 (lv_at hl 0 rfl) ?_
  refine lv_bipush (v := 24) hx hb d_Mo_feed_88 (by decide) ?_
  refine lv_bipush (v := 8) hx hb d_Mo_feed_90 (by decide) ?_
  refine lv_iload hx hb d_Mo_feed_92 (lv_at hl 1 rfl) ?_
  refine lv_iconst (v := 4) hx hb d_Mo_feed_94 (by decide) ?_
  refine lv_irem hx hb d_Mo_feed_95 (by decide) ?_
  refine lv_tv (y := 0) (by decide) ?_
  refine lv_imul hx hb d_Mo_feed_96 ?_
  refine lv_tv (y := 0) (by decide) ?_
  refine lv_isub hx hb d_Mo_feed_97 ?_
  refine lv_tv (y := 24) (by decide) ?_
  refine lv_ishr hx hb d_Mo_feed_98 ?_
  refine lv_sipush (v := 255) hx hb d_Mo_feed_99 (by decide) ?_
  refine lv_iand hx hb d_Mo_feed_102 ?_
  refine va_iast hx hb hZ.1 hP hD hS 1 1 rfl rfl (vp_in_nI (by omega) (by omega)) d_Mo_feed_103 (fun H locs hP hD hS => ?_)
  rw [show ((nI (n + 1 + 1 + 1 + 1 + 1 + 1 + 1 + 1 + 1 + 1 + 1 + 1)).toNatClampNeg) = n + 1 + 1 + 1 + 1 + 1 + 1 + 1 + 1 + 1 + 1 + 1 + 1 from nI_clamp (by omega)] at hP hD
  have hP : va_P D classes [(mo, .inr (8, [.int 0, .int (nI (n + 1 + 1 + 1 + 1 + 1 + 1 + 1 + 1 + 1 + 1 + 1 + 1)), .ref m_row, .ref m_shelves, .ref m_many, .ref m_widths, .int z_marks, .ref m_mark, .int z_shown, .ref m_shownMark, .int z_wasRun, .int z_wrong, .int z_ended, .int z_steps, .int z_hints, .int z_hasWidth, .int z_width, .int z_first, .int z_moved, .int z_deepest, .int z_x, .int z_y, .int z_top, .ref m_stack, .ref m_places, .int z_depth, .ref m_kinds, .ref m_ats, .ref m_ends])), (m_row, .inl (cI, 16384, .inl (upd (upd (upd (upd (upd (upd (upd (upd (upd (upd (upd (upd (upd g_row n ((x1 >>> (24 &&& 31)) &&& 255)) (n + 1) ((x1 >>> (16 &&& 31)) &&& 255)) (n + 1 + 1) ((x1 >>> (8 &&& 31)) &&& 255)) (n + 1 + 1 + 1) ((x1 >>> (0 &&& 31)) &&& 255)) (n + 1 + 1 + 1 + 1) ((x2 >>> (24 &&& 31)) &&& 255)) (n + 1 + 1 + 1 + 1 + 1) ((x2 >>> (16 &&& 31)) &&& 255)) (n + 1 + 1 + 1 + 1 + 1 + 1) ((x2 >>> (8 &&& 31)) &&& 255)) (n + 1 + 1 + 1 + 1 + 1 + 1 + 1) ((x2 >>> (0 &&& 31)) &&& 255)) (n + 1 + 1 + 1 + 1 + 1 + 1 + 1 + 1) ((x3 >>> (24 &&& 31)) &&& 255)) (n + 1 + 1 + 1 + 1 + 1 + 1 + 1 + 1 + 1) ((x3 >>> (16 &&& 31)) &&& 255)) (n + 1 + 1 + 1 + 1 + 1 + 1 + 1 + 1 + 1 + 1) ((x3 >>> (8 &&& 31)) &&& 255)) (n + 1 + 1 + 1 + 1 + 1 + 1 + 1 + 1 + 1 + 1 + 1) ((x3 >>> (0 &&& 31)) &&& 255)) (n + 1 + 1 + 1 + 1 + 1 + 1 + 1 + 1 + 1 + 1 + 1 + 1) ((x4 >>> (24 &&& 31)) &&& 255))))] H := hP
  have hD : va_D A_ [(mo, .inr (8, [.int 0, .int (nI (n + 1 + 1 + 1 + 1 + 1 + 1 + 1 + 1 + 1 + 1 + 1 + 1)), .ref m_row, .ref m_shelves, .ref m_many, .ref m_widths, .int z_marks, .ref m_mark, .int z_shown, .ref m_shownMark, .int z_wasRun, .int z_wrong, .int z_ended, .int z_steps, .int z_hints, .int z_hasWidth, .int z_width, .int z_first, .int z_moved, .int z_deepest, .int z_x, .int z_y, .int z_top, .ref m_stack, .ref m_places, .int z_depth, .ref m_kinds, .ref m_ats, .ref m_ends])), (m_row, .inl (cI, 16384, .inl (upd (upd (upd (upd (upd (upd (upd (upd (upd (upd (upd (upd (upd g_row n ((x1 >>> (24 &&& 31)) &&& 255)) (n + 1) ((x1 >>> (16 &&& 31)) &&& 255)) (n + 1 + 1) ((x1 >>> (8 &&& 31)) &&& 255)) (n + 1 + 1 + 1) ((x1 >>> (0 &&& 31)) &&& 255)) (n + 1 + 1 + 1 + 1) ((x2 >>> (24 &&& 31)) &&& 255)) (n + 1 + 1 + 1 + 1 + 1) ((x2 >>> (16 &&& 31)) &&& 255)) (n + 1 + 1 + 1 + 1 + 1 + 1) ((x2 >>> (8 &&& 31)) &&& 255)) (n + 1 + 1 + 1 + 1 + 1 + 1 + 1) ((x2 >>> (0 &&& 31)) &&& 255)) (n + 1 + 1 + 1 + 1 + 1 + 1 + 1 + 1) ((x3 >>> (24 &&& 31)) &&& 255)) (n + 1 + 1 + 1 + 1 + 1 + 1 + 1 + 1 + 1) ((x3 >>> (16 &&& 31)) &&& 255)) (n + 1 + 1 + 1 + 1 + 1 + 1 + 1 + 1 + 1 + 1) ((x3 >>> (8 &&& 31)) &&& 255)) (n + 1 + 1 + 1 + 1 + 1 + 1 + 1 + 1 + 1 + 1 + 1) ((x3 >>> (0 &&& 31)) &&& 255)) (n + 1 + 1 + 1 + 1 + 1 + 1 + 1 + 1 + 1 + 1 + 1 + 1) ((x4 >>> (24 &&& 31)) &&& 255))))] := hD
  refine lv_aload_n hx hb d_Mo_feed_104 rfl (lv_at hl 2 rfl) ?_
  refine lv_dup hx hb d_Mo_feed_105 rfl ?_
  refine va_get (D := D) (ci := 8) (v := .int (nI (n + 1 + 1 + 1 + 1 + 1 + 1 + 1 + 1 + 1 + 1 + 1 + 1))) (C := R_Mo) (T := F_Mo) (N := 29) hx hb hts i_Mo hown hZ.1 hP 0 rfl rfl 1 (by decide) (hts _ fl_Mo_48) (fun _ h9 => h9) rfl d_Mo_feed_106 ?_
  refine lv_iconst (v := 1) hx hb d_Mo_feed_109 (by decide) ?_
  refine lv_iadd hx hb d_Mo_feed_110 ?_
  refine lv_tv (y := nI (n + 1 + 1 + 1 + 1 + 1 + 1 + 1 + 1 + 1 + 1 + 1 + 1 + 1)) (nI_add (n + 1 + 1 + 1 + 1 + 1 + 1 + 1 + 1 + 1 + 1 + 1 + 1) 1) ?_
  refine va_put (D := D) (ci := 8) (v := .int (nI (n + 1 + 1 + 1 + 1 + 1 + 1 + 1 + 1 + 1 + 1 + 1 + 1 + 1))) (ty := .int) (C := R_Mo) (T := F_Mo) (N := 29) hx hb hts i_Mo t_Mo t_Mo_ok n_Mo hown hZ.1 hP hD hS 0 rfl rfl 1 (by decide) (hts _ fl_Mo_48) (fun _ h9 => h9) rfl (by decide +kernel) rfl rfl (Nat.le_of_ble_eq_true rfl) d_Mo_feed_111 (fun H locs hP hD hS => ?_)
  have hP : va_P D classes [(mo, .inr (8, [.int 0, .int (nI (n + 1 + 1 + 1 + 1 + 1 + 1 + 1 + 1 + 1 + 1 + 1 + 1 + 1)), .ref m_row, .ref m_shelves, .ref m_many, .ref m_widths, .int z_marks, .ref m_mark, .int z_shown, .ref m_shownMark, .int z_wasRun, .int z_wrong, .int z_ended, .int z_steps, .int z_hints, .int z_hasWidth, .int z_width, .int z_first, .int z_moved, .int z_deepest, .int z_x, .int z_y, .int z_top, .ref m_stack, .ref m_places, .int z_depth, .ref m_kinds, .ref m_ats, .ref m_ends])), (m_row, .inl (cI, 16384, .inl (upd (upd (upd (upd (upd (upd (upd (upd (upd (upd (upd (upd (upd g_row n ((x1 >>> (24 &&& 31)) &&& 255)) (n + 1) ((x1 >>> (16 &&& 31)) &&& 255)) (n + 1 + 1) ((x1 >>> (8 &&& 31)) &&& 255)) (n + 1 + 1 + 1) ((x1 >>> (0 &&& 31)) &&& 255)) (n + 1 + 1 + 1 + 1) ((x2 >>> (24 &&& 31)) &&& 255)) (n + 1 + 1 + 1 + 1 + 1) ((x2 >>> (16 &&& 31)) &&& 255)) (n + 1 + 1 + 1 + 1 + 1 + 1) ((x2 >>> (8 &&& 31)) &&& 255)) (n + 1 + 1 + 1 + 1 + 1 + 1 + 1) ((x2 >>> (0 &&& 31)) &&& 255)) (n + 1 + 1 + 1 + 1 + 1 + 1 + 1 + 1) ((x3 >>> (24 &&& 31)) &&& 255)) (n + 1 + 1 + 1 + 1 + 1 + 1 + 1 + 1 + 1) ((x3 >>> (16 &&& 31)) &&& 255)) (n + 1 + 1 + 1 + 1 + 1 + 1 + 1 + 1 + 1 + 1) ((x3 >>> (8 &&& 31)) &&& 255)) (n + 1 + 1 + 1 + 1 + 1 + 1 + 1 + 1 + 1 + 1 + 1) ((x3 >>> (0 &&& 31)) &&& 255)) (n + 1 + 1 + 1 + 1 + 1 + 1 + 1 + 1 + 1 + 1 + 1 + 1) ((x4 >>> (24 &&& 31)) &&& 255))))] H := hP
  have hD : va_D A_ [(mo, .inr (8, [.int 0, .int (nI (n + 1 + 1 + 1 + 1 + 1 + 1 + 1 + 1 + 1 + 1 + 1 + 1 + 1)), .ref m_row, .ref m_shelves, .ref m_many, .ref m_widths, .int z_marks, .ref m_mark, .int z_shown, .ref m_shownMark, .int z_wasRun, .int z_wrong, .int z_ended, .int z_steps, .int z_hints, .int z_hasWidth, .int z_width, .int z_first, .int z_moved, .int z_deepest, .int z_x, .int z_y, .int z_top, .ref m_stack, .ref m_places, .int z_depth, .ref m_kinds, .ref m_ats, .ref m_ends])), (m_row, .inl (cI, 16384, .inl (upd (upd (upd (upd (upd (upd (upd (upd (upd (upd (upd (upd (upd g_row n ((x1 >>> (24 &&& 31)) &&& 255)) (n + 1) ((x1 >>> (16 &&& 31)) &&& 255)) (n + 1 + 1) ((x1 >>> (8 &&& 31)) &&& 255)) (n + 1 + 1 + 1) ((x1 >>> (0 &&& 31)) &&& 255)) (n + 1 + 1 + 1 + 1) ((x2 >>> (24 &&& 31)) &&& 255)) (n + 1 + 1 + 1 + 1 + 1) ((x2 >>> (16 &&& 31)) &&& 255)) (n + 1 + 1 + 1 + 1 + 1 + 1) ((x2 >>> (8 &&& 31)) &&& 255)) (n + 1 + 1 + 1 + 1 + 1 + 1 + 1) ((x2 >>> (0 &&& 31)) &&& 255)) (n + 1 + 1 + 1 + 1 + 1 + 1 + 1 + 1) ((x3 >>> (24 &&& 31)) &&& 255)) (n + 1 + 1 + 1 + 1 + 1 + 1 + 1 + 1 + 1) ((x3 >>> (16 &&& 31)) &&& 255)) (n + 1 + 1 + 1 + 1 + 1 + 1 + 1 + 1 + 1 + 1) ((x3 >>> (8 &&& 31)) &&& 255)) (n + 1 + 1 + 1 + 1 + 1 + 1 + 1 + 1 + 1 + 1 + 1) ((x3 >>> (0 &&& 31)) &&& 255)) (n + 1 + 1 + 1 + 1 + 1 + 1 + 1 + 1 + 1 + 1 + 1 + 1) ((x4 >>> (24 &&& 31)) &&& 255))))] := hD
  refine lv_iinc (v := 13) (lv' := [(6, .int 13), (7, .int x4), (0, .ref mo), (1, .int x1), (2, .int x2), (3, .int x3), (4, .int x4), (5, .int x5)]) hx hb d_Mo_feed_114 hl (k := 1) rfl (by decide) (by decide) rfl (fun ls hl => ?_)
  refine lv_goto (tgt := 23) hx hb d_Mo_feed_117 (by decide) ?_
  refine lv_iload hx hb d_Mo_feed_23 (lv_at hl 0 rfl) ?_
  refine lv_bipush (v := 20) hx hb d_Mo_feed_25 (by decide) ?_
  refine lv_icmp_ge (tgt := 120) hx hb d_Mo_feed_27 (by decide) (fun c_27 => absurd c_27 (by decide)) (fun c_27 => ?_)
  clear c_27
  refine lv_iload hx hb d_Mo_feed_30 (lv_at hl 0 rfl) ?_
  refine lv_iconst (v := 4) hx hb d_Mo_feed_32 (by decide) ?_
  refine lv_icmp_ge (tgt := 40) hx hb d_Mo_feed_33 (by decide) (fun c_33 => ?_) (fun c_33 => absurd (by decide) c_33)
  clear c_33
  refine lv_iload hx hb d_Mo_feed_40 (lv_at hl 0 rfl) ?_
  refine lv_bipush (v := 8) hx hb d_Mo_feed_42 (by decide) ?_
  refine lv_icmp_ge (tgt := 51) hx hb d_Mo_feed_44 (by decide) (fun c_44 => ?_) (fun c_44 => absurd (by decide) c_44)
  clear c_44
  refine lv_iload hx hb d_Mo_feed_51 (lv_at hl 0 rfl) ?_
  refine lv_bipush (v := 12) hx hb d_Mo_feed_53 (by decide) ?_
  refine lv_icmp_ge (tgt := 62) hx hb d_Mo_feed_55 (by decide) (fun c_55 => ?_) (fun c_55 => absurd (by decide) c_55)
  clear c_55
  refine lv_iload hx hb d_Mo_feed_62 (lv_at hl 0 rfl) ?_
  refine lv_bipush (v := 16) hx hb d_Mo_feed_64 (by decide) ?_
  refine lv_icmp_ge (tgt := 74) hx hb d_Mo_feed_66 (by decide) (fun c_66 => absurd c_66 (by decide)) (fun c_66 => ?_)
  clear c_66
  refine lv_iload hx hb d_Mo_feed_69 (lv_at hl 6 rfl) ?_
  refine lv_goto (tgt := 76) hx hb d_Mo_feed_71 (by decide) ?_
  refine lv_istore (lv' := [(7, .int x4), (6, .int 13), (0, .ref mo), (1, .int x1), (2, .int x2), (3, .int x3), (4, .int x4), (5, .int x5)]) hx hb d_Mo_feed_76 hl (by decide) rfl (fun ls hl => ?_)
  refine lv_aload_n hx hb d_Mo_feed_78 rfl (lv_at hl 2 rfl) ?_
  refine va_get (D := D) (ci := 8) (v := .ref m_row) (C := R_Mo) (T := F_Mo) (N := 29) hx hb hts i_Mo hown hZ.1 hP 0 rfl rfl 2 (by decide) (hts _ fl_Mo_7) (fun _ h9 => h9) rfl d_Mo_feed_79 ?_
  refine lv_aload_n hx hb d_Mo_feed_82 rfl (lv_at hl 2 rfl) ?_
  refine va_get (D := D) (ci := 8) (v := .int (nI (n + 1 + 1 + 1 + 1 + 1 + 1 + 1 + 1 + 1 + 1 + 1 + 1 + 1))) (C := R_Mo) (T := F_Mo) (N := 29) hx hb hts i_Mo hown hZ.1 hP 0 rfl rfl 1 (by decide) (hts _ fl_Mo_48) (fun _ h9 => h9) rfl d_Mo_feed_83 ?_
  refine lv_iload hx hb d_Mo_feed_86 (lv_at hl 0 rfl) ?_
  refine lv_bipush (v := 24) hx hb d_Mo_feed_88 (by decide) ?_
  refine lv_bipush (v := 8) hx hb d_Mo_feed_90 (by decide) ?_
  refine lv_iload hx hb d_Mo_feed_92 (lv_at hl 1 rfl) ?_
  refine lv_iconst (v := 4) hx hb d_Mo_feed_94 (by decide) ?_
  refine lv_irem hx hb d_Mo_feed_95 (by decide) ?_
  refine lv_tv (y := 1) (by decide) ?_
  refine lv_imul hx hb d_Mo_feed_96 ?_
  refine lv_tv (y := 8) (by decide) ?_
  refine lv_isub hx hb d_Mo_feed_97 ?_
  refine lv_tv (y := 16) (by decide) ?_
  refine lv_ishr hx hb d_Mo_feed_98 ?_
  refine lv_sipush (v := 255) hx hb d_Mo_feed_99 (by decide) ?_
  refine lv_iand hx hb d_Mo_feed_102 ?_
  refine va_iast hx hb hZ.1 hP hD hS 1 1 rfl rfl (vp_in_nI (by omega) (by omega)) d_Mo_feed_103 (fun H locs hP hD hS => ?_)
  rw [show ((nI (n + 1 + 1 + 1 + 1 + 1 + 1 + 1 + 1 + 1 + 1 + 1 + 1 + 1)).toNatClampNeg) = n + 1 + 1 + 1 + 1 + 1 + 1 + 1 + 1 + 1 + 1 + 1 + 1 + 1 from nI_clamp (by omega)] at hP hD
  have hP : va_P D classes [(mo, .inr (8, [.int 0, .int (nI (n + 1 + 1 + 1 + 1 + 1 + 1 + 1 + 1 + 1 + 1 + 1 + 1 + 1)), .ref m_row, .ref m_shelves, .ref m_many, .ref m_widths, .int z_marks, .ref m_mark, .int z_shown, .ref m_shownMark, .int z_wasRun, .int z_wrong, .int z_ended, .int z_steps, .int z_hints, .int z_hasWidth, .int z_width, .int z_first, .int z_moved, .int z_deepest, .int z_x, .int z_y, .int z_top, .ref m_stack, .ref m_places, .int z_depth, .ref m_kinds, .ref m_ats, .ref m_ends])), (m_row, .inl (cI, 16384, .inl (upd (upd (upd (upd (upd (upd (upd (upd (upd (upd (upd (upd (upd (upd g_row n ((x1 >>> (24 &&& 31)) &&& 255)) (n + 1) ((x1 >>> (16 &&& 31)) &&& 255)) (n + 1 + 1) ((x1 >>> (8 &&& 31)) &&& 255)) (n + 1 + 1 + 1) ((x1 >>> (0 &&& 31)) &&& 255)) (n + 1 + 1 + 1 + 1) ((x2 >>> (24 &&& 31)) &&& 255)) (n + 1 + 1 + 1 + 1 + 1) ((x2 >>> (16 &&& 31)) &&& 255)) (n + 1 + 1 + 1 + 1 + 1 + 1) ((x2 >>> (8 &&& 31)) &&& 255)) (n + 1 + 1 + 1 + 1 + 1 + 1 + 1) ((x2 >>> (0 &&& 31)) &&& 255)) (n + 1 + 1 + 1 + 1 + 1 + 1 + 1 + 1) ((x3 >>> (24 &&& 31)) &&& 255)) (n + 1 + 1 + 1 + 1 + 1 + 1 + 1 + 1 + 1) ((x3 >>> (16 &&& 31)) &&& 255)) (n + 1 + 1 + 1 + 1 + 1 + 1 + 1 + 1 + 1 + 1) ((x3 >>> (8 &&& 31)) &&& 255)) (n + 1 + 1 + 1 + 1 + 1 + 1 + 1 + 1 + 1 + 1 + 1) ((x3 >>> (0 &&& 31)) &&& 255)) (n + 1 + 1 + 1 + 1 + 1 + 1 + 1 + 1 + 1 + 1 + 1 + 1) ((x4 >>> (24 &&& 31)) &&& 255)) (n + 1 + 1 + 1 + 1 + 1 + 1 + 1 + 1 + 1 + 1 + 1 + 1 + 1) ((x4 >>> (16 &&& 31)) &&& 255))))] H := hP
  have hD : va_D A_ [(mo, .inr (8, [.int 0, .int (nI (n + 1 + 1 + 1 + 1 + 1 + 1 + 1 + 1 + 1 + 1 + 1 + 1 + 1)), .ref m_row, .ref m_shelves, .ref m_many, .ref m_widths, .int z_marks, .ref m_mark, .int z_shown, .ref m_shownMark, .int z_wasRun, .int z_wrong, .int z_ended, .int z_steps, .int z_hints, .int z_hasWidth, .int z_width, .int z_first, .int z_moved, .int z_deepest, .int z_x, .int z_y, .int z_top, .ref m_stack, .ref m_places, .int z_depth, .ref m_kinds, .ref m_ats, .ref m_ends])), (m_row, .inl (cI, 16384, .inl (upd (upd (upd (upd (upd (upd (upd (upd (upd (upd (upd (upd (upd (upd g_row n ((x1 >>> (24 &&& 31)) &&& 255)) (n + 1) ((x1 >>> (16 &&& 31)) &&& 255)) (n + 1 + 1) ((x1 >>> (8 &&& 31)) &&& 255)) (n + 1 + 1 + 1) ((x1 >>> (0 &&& 31)) &&& 255)) (n + 1 + 1 + 1 + 1) ((x2 >>> (24 &&& 31)) &&& 255)) (n + 1 + 1 + 1 + 1 + 1) ((x2 >>> (16 &&& 31)) &&& 255)) (n + 1 + 1 + 1 + 1 + 1 + 1) ((x2 >>> (8 &&& 31)) &&& 255)) (n + 1 + 1 + 1 + 1 + 1 + 1 + 1) ((x2 >>> (0 &&& 31)) &&& 255)) (n + 1 + 1 + 1 + 1 + 1 + 1 + 1 + 1) ((x3 >>> (24 &&& 31)) &&& 255)) (n + 1 + 1 + 1 + 1 + 1 + 1 + 1 + 1 + 1) ((x3 >>> (16 &&& 31)) &&& 255)) (n + 1 + 1 + 1 + 1 + 1 + 1 + 1 + 1 + 1 + 1) ((x3 >>> (8 &&& 31)) &&& 255)) (n + 1 + 1 + 1 + 1 + 1 + 1 + 1 + 1 + 1 + 1 + 1) ((x3 >>> (0 &&& 31)) &&& 255)) (n + 1 + 1 + 1 + 1 + 1 + 1 + 1 + 1 + 1 + 1 + 1 + 1) ((x4 >>> (24 &&& 31)) &&& 255)) (n + 1 + 1 + 1 + 1 + 1 + 1 + 1 + 1 + 1 + 1 + 1 + 1 + 1) ((x4 >>> (16 &&& 31)) &&& 255))))] := hD
  refine lv_aload_n hx hb d_Mo_feed_104 rfl (lv_at hl 2 rfl) ?_
  refine lv_dup hx hb d_Mo_feed_105 rfl ?_
  refine va_get (D := D) (ci := 8) (v := .int (nI (n + 1 + 1 + 1 + 1 + 1 + 1 + 1 + 1 + 1 + 1 + 1 + 1 + 1))) (C := R_Mo) (T := F_Mo) (N := 29) hx hb hts i_Mo hown hZ.1 hP 0 rfl rfl 1 (by decide) (hts _ fl_Mo_48) (fun _ h9 => h9) rfl d_Mo_feed_106 ?_
  refine lv_iconst (v := 1) hx hb d_Mo_feed_109 (by decide) ?_
  refine lv_iadd hx hb d_Mo_feed_110 ?_
  refine lv_tv (y := nI (n + 1 + 1 + 1 + 1 + 1 + 1 + 1 + 1 + 1 + 1 + 1 + 1 + 1 + 1)) (nI_add (n + 1 + 1 + 1 + 1 + 1 + 1 + 1 + 1 + 1 + 1 + 1 + 1 + 1) 1) ?_
  refine va_put (D := D) (ci := 8) (v := .int (nI (n + 1 + 1 + 1 + 1 + 1 + 1 + 1 + 1 + 1 + 1 + 1 + 1 + 1 + 1))) (ty := .int) (C := R_Mo) (T := F_Mo) (N := 29) hx hb hts i_Mo t_Mo t_Mo_ok n_Mo hown hZ.1 hP hD hS 0 rfl rfl 1 (by decide) (hts _ fl_Mo_48) (fun _ h9 => h9) rfl (by decide +kernel) rfl rfl (Nat.le_of_ble_eq_true rfl) d_Mo_feed_111 (fun H locs hP hD hS => ?_)
  have hP : va_P D classes [(mo, .inr (8, [.int 0, .int (nI (n + 1 + 1 + 1 + 1 + 1 + 1 + 1 + 1 + 1 + 1 + 1 + 1 + 1 + 1)), .ref m_row, .ref m_shelves, .ref m_many, .ref m_widths, .int z_marks, .ref m_mark, .int z_shown, .ref m_shownMark, .int z_wasRun, .int z_wrong, .int z_ended, .int z_steps, .int z_hints, .int z_hasWidth, .int z_width, .int z_first, .int z_moved, .int z_deepest, .int z_x, .int z_y, .int z_top, .ref m_stack, .ref m_places, .int z_depth, .ref m_kinds, .ref m_ats, .ref m_ends])), (m_row, .inl (cI, 16384, .inl (upd (upd (upd (upd (upd (upd (upd (upd (upd (upd (upd (upd (upd (upd g_row n ((x1 >>> (24 &&& 31)) &&& 255)) (n + 1) ((x1 >>> (16 &&& 31)) &&& 255)) (n + 1 + 1) ((x1 >>> (8 &&& 31)) &&& 255)) (n + 1 + 1 + 1) ((x1 >>> (0 &&& 31)) &&& 255)) (n + 1 + 1 + 1 + 1) ((x2 >>> (24 &&& 31)) &&& 255)) (n + 1 + 1 + 1 + 1 + 1) ((x2 >>> (16 &&& 31)) &&& 255)) (n + 1 + 1 + 1 + 1 + 1 + 1) ((x2 >>> (8 &&& 31)) &&& 255)) (n + 1 + 1 + 1 + 1 + 1 + 1 + 1) ((x2 >>> (0 &&& 31)) &&& 255)) (n + 1 + 1 + 1 + 1 + 1 + 1 + 1 + 1) ((x3 >>> (24 &&& 31)) &&& 255)) (n + 1 + 1 + 1 + 1 + 1 + 1 + 1 + 1 + 1) ((x3 >>> (16 &&& 31)) &&& 255)) (n + 1 + 1 + 1 + 1 + 1 + 1 + 1 + 1 + 1 + 1) ((x3 >>> (8 &&& 31)) &&& 255)) (n + 1 + 1 + 1 + 1 + 1 + 1 + 1 + 1 + 1 + 1 + 1) ((x3 >>> (0 &&& 31)) &&& 255)) (n + 1 + 1 + 1 + 1 + 1 + 1 + 1 + 1 + 1 + 1 + 1 + 1) ((x4 >>> (24 &&& 31)) &&& 255)) (n + 1 + 1 + 1 + 1 + 1 + 1 + 1 + 1 + 1 + 1 + 1 + 1 + 1) ((x4 >>> (16 &&& 31)) &&& 255))))] H := hP
  have hD : va_D A_ [(mo, .inr (8, [.int 0, .int (nI (n + 1 + 1 + 1 + 1 + 1 + 1 + 1 + 1 + 1 + 1 + 1 + 1 + 1 + 1)), .ref m_row, .ref m_shelves, .ref m_many, .ref m_widths, .int z_marks, .ref m_mark, .int z_shown, .ref m_shownMark, .int z_wasRun, .int z_wrong, .int z_ended, .int z_steps, .int z_hints, .int z_hasWidth, .int z_width, .int z_first, .int z_moved, .int z_deepest, .int z_x, .int z_y, .int z_top, .ref m_stack, .ref m_places, .int z_depth, .ref m_kinds, .ref m_ats, .ref m_ends])), (m_row, .inl (cI, 16384, .inl (upd (upd (upd (upd (upd (upd (upd (upd (upd (upd (upd (upd (upd (upd g_row n ((x1 >>> (24 &&& 31)) &&& 255)) (n + 1) ((x1 >>> (16 &&& 31)) &&& 255)) (n + 1 + 1) ((x1 >>> (8 &&& 31)) &&& 255)) (n + 1 + 1 + 1) ((x1 >>> (0 &&& 31)) &&& 255)) (n + 1 + 1 + 1 + 1) ((x2 >>> (24 &&& 31)) &&& 255)) (n + 1 + 1 + 1 + 1 + 1) ((x2 >>> (16 &&& 31)) &&& 255)) (n + 1 + 1 + 1 + 1 + 1 + 1) ((x2 >>> (8 &&& 31)) &&& 255)) (n + 1 + 1 + 1 + 1 + 1 + 1 + 1) ((x2 >>> (0 &&& 31)) &&& 255)) (n + 1 + 1 + 1 + 1 + 1 + 1 + 1 + 1) ((x3 >>> (24 &&& 31)) &&& 255)) (n + 1 + 1 + 1 + 1 + 1 + 1 + 1 + 1 + 1) ((x3 >>> (16 &&& 31)) &&& 255)) (n + 1 + 1 + 1 + 1 + 1 + 1 + 1 + 1 + 1 + 1) ((x3 >>> (8 &&& 31)) &&& 255)) (n + 1 + 1 + 1 + 1 + 1 + 1 + 1 + 1 + 1 + 1 + 1) ((x3 >>> (0 &&& 31)) &&& 255)) (n + 1 + 1 + 1 + 1 + 1 + 1 + 1 + 1 + 1 + 1 + 1 + 1) ((x4 >>> (24 &&& 31)) &&& 255)) (n + 1 + 1 + 1 + 1 + 1 + 1 + 1 + 1 + 1 + 1 + 1 + 1 + 1) ((x4 >>> (16 &&& 31)) &&& 255))))] := hD
  refine lv_iinc (v := 14) (lv' := [(6, .int 14), (7, .int x4), (0, .ref mo), (1, .int x1), (2, .int x2), (3, .int x3), (4, .int x4), (5, .int x5)]) hx hb d_Mo_feed_114 hl (k := 1) rfl (by decide) (by decide) rfl (fun ls hl => ?_)
  refine lv_goto (tgt := 23) hx hb d_Mo_feed_117 (by decide) ?_
  refine lv_iload hx hb d_Mo_feed_23 (lv_at hl 0 rfl) ?_
  refine lv_bipush (v := 20) hx hb d_Mo_feed_25 (by decide) ?_
  refine lv_icmp_ge (tgt := 120) hx hb d_Mo_feed_27 (by decide) (fun c_27 => absurd c_27 (by decide)) (fun c_27 => ?_)
  clear c_27
  refine lv_iload hx hb d_Mo_feed_30 (lv_at hl 0 rfl) ?_
  refine lv_iconst (v := 4) hx hb d_Mo_feed_32 (by decide) ?_
  refine lv_icmp_ge (tgt := 40) hx hb d_Mo_feed_33 (by decide) (fun c_33 => ?_) (fun c_33 => absurd (by decide) c_33)
  clear c_33
  refine lv_iload hx hb d_Mo_feed_40 (lv_at hl 0 rfl) ?_
  refine lv_bipush (v := 8) hx hb d_Mo_feed_42 (by decide) ?_
  refine lv_icmp_ge (tgt := 51) hx hb d_Mo_feed_44 (by decide) (fun c_44 => ?_) (fun c_44 => absurd (by decide) c_44)
  clear c_44
  refine lv_iload hx hb d_Mo_feed_51 (lv_at hl 0 rfl) ?_
  refine lv_bipush (v := 12) hx hb d_Mo_feed_53 (by decide) ?_
  refine lv_icmp_ge (tgt := 62) hx hb d_Mo_feed_55 (by decide) (fun c_55 => ?_) (fun c_55 => absurd (by decide) c_55)
  clear c_55
  refine lv_iload hx hb d_Mo_feed_62 (lv_at hl 0 rfl) ?_
  refine lv_bipush (v := 16) hx hb d_Mo_feed_64 (by decide) ?_
  refine lv_icmp_ge (tgt := 74) hx hb d_Mo_feed_66 (by decide) (fun c_66 => absurd c_66 (by decide)) (fun c_66 => ?_)
  clear c_66
  refine lv_iload hx hb d_Mo_feed_69 (lv_at hl 6 rfl) ?_
  refine lv_goto (tgt := 76) hx hb d_Mo_feed_71 (by decide) ?_
  refine lv_istore (lv' := [(7, .int x4), (6, .int 14), (0, .ref mo), (1, .int x1), (2, .int x2), (3, .int x3), (4, .int x4), (5, .int x5)]) hx hb d_Mo_feed_76 hl (by decide) rfl (fun ls hl => ?_)
  refine lv_aload_n hx hb d_Mo_feed_78 rfl (lv_at hl 2 rfl) ?_
  refine va_get (D := D) (ci := 8) (v := .ref m_row) (C := R_Mo) (T := F_Mo) (N := 29) hx hb hts i_Mo hown hZ.1 hP 0 rfl rfl 2 (by decide) (hts _ fl_Mo_7) (fun _ h9 => h9) rfl d_Mo_feed_79 ?_
  refine lv_aload_n hx hb d_Mo_feed_82 rfl (lv_at hl 2 rfl) ?_
  refine va_get (D := D) (ci := 8) (v := .int (nI (n + 1 + 1 + 1 + 1 + 1 + 1 + 1 + 1 + 1 + 1 + 1 + 1 + 1 + 1))) (C := R_Mo) (T := F_Mo) (N := 29) hx hb hts i_Mo hown hZ.1 hP 0 rfl rfl 1 (by decide) (hts _ fl_Mo_48) (fun _ h9 => h9) rfl d_Mo_feed_83 ?_
  refine lv_iload hx hb d_Mo_feed_86 (lv_at hl 0 rfl) ?_
  refine lv_bipush (v := 24) hx hb d_Mo_feed_88 (by decide) ?_
  refine lv_bipush (v := 8) hx hb d_Mo_feed_90 (by decide) ?_
  refine lv_iload hx hb d_Mo_feed_92 (lv_at hl 1 rfl) ?_
  refine lv_iconst (v := 4) hx hb d_Mo_feed_94 (by decide) ?_
  refine lv_irem hx hb d_Mo_feed_95 (by decide) ?_
  refine lv_tv (y := 2) (by decide) ?_
  refine lv_imul hx hb d_Mo_feed_96 ?_
  refine lv_tv (y := 16) (by decide) ?_
  refine lv_isub hx hb d_Mo_feed_97 ?_
  refine lv_tv (y := 8) (by decide) ?_
  refine lv_ishr hx hb d_Mo_feed_98 ?_
  refine lv_sipush (v := 255) hx hb d_Mo_feed_99 (by decide) ?_
  refine lv_iand hx hb d_Mo_feed_102 ?_
  refine va_iast hx hb hZ.1 hP hD hS 1 1 rfl rfl (vp_in_nI (by omega) (by omega)) d_Mo_feed_103 (fun H locs hP hD hS => ?_)
  rw [show ((nI (n + 1 + 1 + 1 + 1 + 1 + 1 + 1 + 1 + 1 + 1 + 1 + 1 + 1 + 1)).toNatClampNeg) = n + 1 + 1 + 1 + 1 + 1 + 1 + 1 + 1 + 1 + 1 + 1 + 1 + 1 + 1 from nI_clamp (by omega)] at hP hD
  have hP : va_P D classes [(mo, .inr (8, [.int 0, .int (nI (n + 1 + 1 + 1 + 1 + 1 + 1 + 1 + 1 + 1 + 1 + 1 + 1 + 1 + 1)), .ref m_row, .ref m_shelves, .ref m_many, .ref m_widths, .int z_marks, .ref m_mark, .int z_shown, .ref m_shownMark, .int z_wasRun, .int z_wrong, .int z_ended, .int z_steps, .int z_hints, .int z_hasWidth, .int z_width, .int z_first, .int z_moved, .int z_deepest, .int z_x, .int z_y, .int z_top, .ref m_stack, .ref m_places, .int z_depth, .ref m_kinds, .ref m_ats, .ref m_ends])), (m_row, .inl (cI, 16384, .inl (upd (upd (upd (upd (upd (upd (upd (upd (upd (upd (upd (upd (upd (upd (upd g_row n ((x1 >>> (24 &&& 31)) &&& 255)) (n + 1) ((x1 >>> (16 &&& 31)) &&& 255)) (n + 1 + 1) ((x1 >>> (8 &&& 31)) &&& 255)) (n + 1 + 1 + 1) ((x1 >>> (0 &&& 31)) &&& 255)) (n + 1 + 1 + 1 + 1) ((x2 >>> (24 &&& 31)) &&& 255)) (n + 1 + 1 + 1 + 1 + 1) ((x2 >>> (16 &&& 31)) &&& 255)) (n + 1 + 1 + 1 + 1 + 1 + 1) ((x2 >>> (8 &&& 31)) &&& 255)) (n + 1 + 1 + 1 + 1 + 1 + 1 + 1) ((x2 >>> (0 &&& 31)) &&& 255)) (n + 1 + 1 + 1 + 1 + 1 + 1 + 1 + 1) ((x3 >>> (24 &&& 31)) &&& 255)) (n + 1 + 1 + 1 + 1 + 1 + 1 + 1 + 1 + 1) ((x3 >>> (16 &&& 31)) &&& 255)) (n + 1 + 1 + 1 + 1 + 1 + 1 + 1 + 1 + 1 + 1) ((x3 >>> (8 &&& 31)) &&& 255)) (n + 1 + 1 + 1 + 1 + 1 + 1 + 1 + 1 + 1 + 1 + 1) ((x3 >>> (0 &&& 31)) &&& 255)) (n + 1 + 1 + 1 + 1 + 1 + 1 + 1 + 1 + 1 + 1 + 1 + 1) ((x4 >>> (24 &&& 31)) &&& 255)) (n + 1 + 1 + 1 + 1 + 1 + 1 + 1 + 1 + 1 + 1 + 1 + 1 + 1) ((x4 >>> (16 &&& 31)) &&& 255)) (n + 1 + 1 + 1 + 1 + 1 + 1 + 1 + 1 + 1 + 1 + 1 + 1 + 1 + 1) ((x4 >>> (8 &&& 31)) &&& 255))))] H := hP
  have hD : va_D A_ [(mo, .inr (8, [.int 0, .int (nI (n + 1 + 1 + 1 + 1 + 1 + 1 + 1 + 1 + 1 + 1 + 1 + 1 + 1 + 1)), .ref m_row, .ref m_shelves, .ref m_many, .ref m_widths, .int z_marks, .ref m_mark, .int z_shown, .ref m_shownMark, .int z_wasRun, .int z_wrong, .int z_ended, .int z_steps, .int z_hints, .int z_hasWidth, .int z_width, .int z_first, .int z_moved, .int z_deepest, .int z_x, .int z_y, .int z_top, .ref m_stack, .ref m_places, .int z_depth, .ref m_kinds, .ref m_ats, .ref m_ends])), (m_row, .inl (cI, 16384, .inl (upd (upd (upd (upd (upd (upd (upd (upd (upd (upd (upd (upd (upd (upd (upd g_row n ((x1 >>> (24 &&& 31)) &&& 255)) (n + 1) ((x1 >>> (16 &&& 31)) &&& 255)) (n + 1 + 1) ((x1 >>> (8 &&& 31)) &&& 255)) (n + 1 + 1 + 1) ((x1 >>> (0 &&& 31)) &&& 255)) (n + 1 + 1 + 1 + 1) ((x2 >>> (24 &&& 31)) &&& 255)) (n + 1 + 1 + 1 + 1 + 1) ((x2 >>> (16 &&& 31)) &&& 255)) (n + 1 + 1 + 1 + 1 + 1 + 1) ((x2 >>> (8 &&& 31)) &&& 255)) (n + 1 + 1 + 1 + 1 + 1 + 1 + 1) ((x2 >>> (0 &&& 31)) &&& 255)) (n + 1 + 1 + 1 + 1 + 1 + 1 + 1 + 1) ((x3 >>> (24 &&& 31)) &&& 255)) (n + 1 + 1 + 1 + 1 + 1 + 1 + 1 + 1 + 1) ((x3 >>> (16 &&& 31)) &&& 255)) (n + 1 + 1 + 1 + 1 + 1 + 1 + 1 + 1 + 1 + 1) ((x3 >>> (8 &&& 31)) &&& 255)) (n + 1 + 1 + 1 + 1 + 1 + 1 + 1 + 1 + 1 + 1 + 1) ((x3 >>> (0 &&& 31)) &&& 255)) (n + 1 + 1 + 1 + 1 + 1 + 1 + 1 + 1 + 1 + 1 + 1 + 1) ((x4 >>> (24 &&& 31)) &&& 255)) (n + 1 + 1 + 1 + 1 + 1 + 1 + 1 + 1 + 1 + 1 + 1 + 1 + 1) ((x4 >>> (16 &&& 31)) &&& 255)) (n + 1 + 1 + 1 + 1 + 1 + 1 + 1 + 1 + 1 + 1 + 1 + 1 + 1 + 1) ((x4 >>> (8 &&& 31)) &&& 255))))] := hD
  refine lv_aload_n hx hb d_Mo_feed_104 rfl (lv_at hl 2 rfl) ?_
  refine lv_dup hx hb d_Mo_feed_105 rfl ?_
  refine va_get (D := D) (ci := 8) (v := .int (nI (n + 1 + 1 + 1 + 1 + 1 + 1 + 1 + 1 + 1 + 1 + 1 + 1 + 1 + 1))) (C := R_Mo) (T := F_Mo) (N := 29) hx hb hts i_Mo hown hZ.1 hP 0 rfl rfl 1 (by decide) (hts _ fl_Mo_48) (fun _ h9 => h9) rfl d_Mo_feed_106 ?_
  refine lv_iconst (v := 1) hx hb d_Mo_feed_109 (by decide) ?_
  refine lv_iadd hx hb d_Mo_feed_110 ?_
  refine lv_tv (y := nI (n + 1 + 1 + 1 + 1 + 1 + 1 + 1 + 1 + 1 + 1 + 1 + 1 + 1 + 1 + 1)) (nI_add (n + 1 + 1 + 1 + 1 + 1 + 1 + 1 + 1 + 1 + 1 + 1 + 1 + 1 + 1) 1) ?_
  refine va_put (D := D) (ci := 8) (v := .int (nI (n + 1 + 1 + 1 + 1 + 1 + 1 + 1 + 1 + 1 + 1 + 1 + 1 + 1 + 1 + 1))) (ty := .int) (C := R_Mo) (T := F_Mo) (N := 29) hx hb hts i_Mo t_Mo t_Mo_ok n_Mo hown hZ.1 hP hD hS 0 rfl rfl 1 (by decide) (hts _ fl_Mo_48) (fun _ h9 => h9) rfl (by decide +kernel) rfl rfl (Nat.le_of_ble_eq_true rfl) d_Mo_feed_111 (fun H locs hP hD hS => ?_)
  have hP : va_P D classes [(mo, .inr (8, [.int 0, .int (nI (n + 1 + 1 + 1 + 1 + 1 + 1 + 1 + 1 + 1 + 1 + 1 + 1 + 1 + 1 + 1)), .ref m_row, .ref m_shelves, .ref m_many, .ref m_widths, .int z_marks, .ref m_mark, .int z_shown, .ref m_shownMark, .int z_wasRun, .int z_wrong, .int z_ended, .int z_steps, .int z_hints, .int z_hasWidth, .int z_width, .int z_first, .int z_moved, .int z_deepest, .int z_x, .int z_y, .int z_top, .ref m_stack, .ref m_places, .int z_depth, .ref m_kinds, .ref m_ats, .ref m_ends])), (m_row, .inl (cI, 16384, .inl (upd (upd (upd (upd (upd (upd (upd (upd (upd (upd (upd (upd (upd (upd (upd g_row n ((x1 >>> (24 &&& 31)) &&& 255)) (n + 1) ((x1 >>> (16 &&& 31)) &&& 255)) (n + 1 + 1) ((x1 >>> (8 &&& 31)) &&& 255)) (n + 1 + 1 + 1) ((x1 >>> (0 &&& 31)) &&& 255)) (n + 1 + 1 + 1 + 1) ((x2 >>> (24 &&& 31)) &&& 255)) (n + 1 + 1 + 1 + 1 + 1) ((x2 >>> (16 &&& 31)) &&& 255)) (n + 1 + 1 + 1 + 1 + 1 + 1) ((x2 >>> (8 &&& 31)) &&& 255)) (n + 1 + 1 + 1 + 1 + 1 + 1 + 1) ((x2 >>> (0 &&& 31)) &&& 255)) (n + 1 + 1 + 1 + 1 + 1 + 1 + 1 + 1) ((x3 >>> (24 &&& 31)) &&& 255)) (n + 1 + 1 + 1 + 1 + 1 + 1 + 1 + 1 + 1) ((x3 >>> (16 &&& 31)) &&& 255)) (n + 1 + 1 + 1 + 1 + 1 + 1 + 1 + 1 + 1 + 1) ((x3 >>> (8 &&& 31)) &&& 255)) (n + 1 + 1 + 1 + 1 + 1 + 1 + 1 + 1 + 1 + 1 + 1) ((x3 >>> (0 &&& 31)) &&& 255)) (n + 1 + 1 + 1 + 1 + 1 + 1 + 1 + 1 + 1 + 1 + 1 + 1) ((x4 >>> (24 &&& 31)) &&& 255)) (n + 1 + 1 + 1 + 1 + 1 + 1 + 1 + 1 + 1 + 1 + 1 + 1 + 1) ((x4 >>> (16 &&& 31)) &&& 255)) (n + 1 + 1 + 1 + 1 + 1 + 1 + 1 + 1 + 1 + 1 + 1 + 1 + 1 + 1) ((x4 >>> (8 &&& 31)) &&& 255))))] H := hP
  have hD : va_D A_ [(mo, .inr (8, [.int 0, .int (nI (n + 1 + 1 + 1 + 1 + 1 + 1 + 1 + 1 + 1 + 1 + 1 + 1 + 1 + 1 + 1)), .ref m_row, .ref m_shelves, .ref m_many, .ref m_widths, .int z_marks, .ref m_mark, .int z_shown, .ref m_shownMark, .int z_wasRun, .int z_wrong, .int z_ended, .int z_steps, .int z_hints, .int z_hasWidth, .int z_width, .int z_first, .int z_moved, .int z_deepest, .int z_x, .int z_y, .int z_top, .ref m_stack, .ref m_places, .int z_depth, .ref m_kinds, .ref m_ats, .ref m_ends])), (m_row, .inl (cI, 16384, .inl (upd (upd (upd (upd (upd (upd (upd (upd (upd (upd (upd (upd (upd (upd (upd g_row n ((x1 >>> (24 &&& 31)) &&& 255)) (n + 1) ((x1 >>> (16 &&& 31)) &&& 255)) (n + 1 + 1) ((x1 >>> (8 &&& 31)) &&& 255)) (n + 1 + 1 + 1) ((x1 >>> (0 &&& 31)) &&& 255)) (n + 1 + 1 + 1 + 1) ((x2 >>> (24 &&& 31)) &&& 255)) (n + 1 + 1 + 1 + 1 + 1) ((x2 >>> (16 &&& 31)) &&& 255)) (n + 1 + 1 + 1 + 1 + 1 + 1) ((x2 >>> (8 &&& 31)) &&& 255)) (n + 1 + 1 + 1 + 1 + 1 + 1 + 1) ((x2 >>> (0 &&& 31)) &&& 255)) (n + 1 + 1 + 1 + 1 + 1 + 1 + 1 + 1) ((x3 >>> (24 &&& 31)) &&& 255)) (n + 1 + 1 + 1 + 1 + 1 + 1 + 1 + 1 + 1) ((x3 >>> (16 &&& 31)) &&& 255)) (n + 1 + 1 + 1 + 1 + 1 + 1 + 1 + 1 + 1 + 1) ((x3 >>> (8 &&& 31)) &&& 255)) (n + 1 + 1 + 1 + 1 + 1 + 1 + 1 + 1 + 1 + 1 + 1) ((x3 >>> (0 &&& 31)) &&& 255)) (n + 1 + 1 + 1 + 1 + 1 + 1 + 1 + 1 + 1 + 1 + 1 + 1) ((x4 >>> (24 &&& 31)) &&& 255)) (n + 1 + 1 + 1 + 1 + 1 + 1 + 1 + 1 + 1 + 1 + 1 + 1 + 1) ((x4 >>> (16 &&& 31)) &&& 255)) (n + 1 + 1 + 1 + 1 + 1 + 1 + 1 + 1 + 1 + 1 + 1 + 1 + 1 + 1) ((x4 >>> (8 &&& 31)) &&& 255))))] := hD
  refine lv_iinc (v := 15) (lv' := [(6, .int 15), (7, .int x4), (0, .ref mo), (1, .int x1), (2, .int x2), (3, .int x3), (4, .int x4), (5, .int x5)]) hx hb d_Mo_feed_114 hl (k := 1) rfl (by decide) (by decide) rfl (fun ls hl => ?_)
  refine lv_goto (tgt := 23) hx hb d_Mo_feed_117 (by decide) ?_
  refine lv_iload hx hb d_Mo_feed_23 (lv_at hl 0 rfl) ?_
  refine lv_bipush (v := 20) hx hb d_Mo_feed_25 (by decide) ?_
  refine lv_icmp_ge (tgt := 120) hx hb d_Mo_feed_27 (by decide) (fun c_27 => absurd c_27 (by decide)) (fun c_27 => ?_)
  clear c_27
  refine lv_iload hx hb d_Mo_feed_30 (lv_at hl 0 rfl) ?_
  refine lv_iconst (v := 4) hx hb d_Mo_feed_32 (by decide) ?_
  refine lv_icmp_ge (tgt := 40) hx hb d_Mo_feed_33 (by decide) (fun c_33 => ?_) (fun c_33 => absurd (by decide) c_33)
  clear c_33
  refine lv_iload hx hb d_Mo_feed_40 (lv_at hl 0 rfl) ?_
  refine lv_bipush (v := 8) hx hb d_Mo_feed_42 (by decide) ?_
  refine lv_icmp_ge (tgt := 51) hx hb d_Mo_feed_44 (by decide) (fun c_44 => ?_) (fun c_44 => absurd (by decide) c_44)
  clear c_44
  refine lv_iload hx hb d_Mo_feed_51 (lv_at hl 0 rfl) ?_
  refine lv_bipush (v := 12) hx hb d_Mo_feed_53 (by decide) ?_
  refine lv_icmp_ge (tgt := 62) hx hb d_Mo_feed_55 (by decide) (fun c_55 => ?_) (fun c_55 => absurd (by decide) c_55)
  clear c_55
  refine lv_iload hx hb d_Mo_feed_62 (lv_at hl 0 rfl) ?_
  refine lv_bipush (v := 16) hx hb d_Mo_feed_64 (by decide) ?_
  refine lv_icmp_ge (tgt := 74) hx hb d_Mo_feed_66 (by decide) (fun c_66 => absurd c_66 (by decide)) (fun c_66 => ?_)
  clear c_66
  refine lv_iload hx hb d_Mo_feed_69 (lv_at hl 6 rfl) ?_
  refine lv_goto (tgt := 76) hx hb d_Mo_feed_71 (by decide) ?_
  refine lv_istore (lv' := [(7, .int x4), (6, .int 15), (0, .ref mo), (1, .int x1), (2, .int x2), (3, .int x3), (4, .int x4), (5, .int x5)]) hx hb d_Mo_feed_76 hl (by decide) rfl (fun ls hl => ?_)
  refine lv_aload_n hx hb d_Mo_feed_78 rfl (lv_at hl 2 rfl) ?_
  refine va_get (D := D) (ci := 8) (v := .ref m_row) (C := R_Mo) (T := F_Mo) (N := 29) hx hb hts i_Mo hown hZ.1 hP 0 rfl rfl 2 (by decide) (hts _ fl_Mo_7) (fun _ h9 => h9) rfl d_Mo_feed_79 ?_
  refine lv_aload_n hx hb d_Mo_feed_82 rfl (lv_at hl 2 rfl) ?_
  refine va_get (D := D) (ci := 8) (v := .int (nI (n + 1 + 1 + 1 + 1 + 1 + 1 + 1 + 1 + 1 + 1 + 1 + 1 + 1 + 1 + 1))) (C := R_Mo) (T := F_Mo) (N := 29) hx hb hts i_Mo hown hZ.1 hP 0 rfl rfl 1 (by decide) (hts _ fl_Mo_48) (fun _ h9 => h9) rfl d_Mo_feed_83 ?_
  refine lv_iload hx hb d_Mo_feed_86 (lv_at hl 0 rfl) ?_
  refine lv_bipush (v := 24) hx hb d_Mo_feed_88 (by decide) ?_
  refine lv_bipush (v := 8) hx hb d_Mo_feed_90 (by decide) ?_
  refine lv_iload hx hb d_Mo_feed_92 (lv_at hl 1 rfl) ?_
  refine lv_iconst (v := 4) hx hb d_Mo_feed_94 (by decide) ?_
  refine lv_irem hx hb d_Mo_feed_95 (by decide) ?_
  refine lv_tv (y := 3) (by decide) ?_
  refine lv_imul hx hb d_Mo_feed_96 ?_
  refine lv_tv (y := 24) (by decide) ?_
  refine lv_isub hx hb d_Mo_feed_97 ?_
  refine lv_tv (y := 0) (by decide) ?_
  refine lv_ishr hx hb d_Mo_feed_98 ?_
  refine lv_sipush (v := 255) hx hb d_Mo_feed_99 (by decide) ?_
  refine lv_iand hx hb d_Mo_feed_102 ?_
  refine va_iast hx hb hZ.1 hP hD hS 1 1 rfl rfl (vp_in_nI (by omega) (by omega)) d_Mo_feed_103 (fun H locs hP hD hS => ?_)
  rw [show ((nI (n + 1 + 1 + 1 + 1 + 1 + 1 + 1 + 1 + 1 + 1 + 1 + 1 + 1 + 1 + 1)).toNatClampNeg) = n + 1 + 1 + 1 + 1 + 1 + 1 + 1 + 1 + 1 + 1 + 1 + 1 + 1 + 1 + 1 from nI_clamp (by omega)] at hP hD
  have hP : va_P D classes [(mo, .inr (8, [.int 0, .int (nI (n + 1 + 1 + 1 + 1 + 1 + 1 + 1 + 1 + 1 + 1 + 1 + 1 + 1 + 1 + 1)), .ref m_row, .ref m_shelves, .ref m_many, .ref m_widths, .int z_marks, .ref m_mark, .int z_shown, .ref m_shownMark, .int z_wasRun, .int z_wrong, .int z_ended, .int z_steps, .int z_hints, .int z_hasWidth, .int z_width, .int z_first, .int z_moved, .int z_deepest, .int z_x, .int z_y, .int z_top, .ref m_stack, .ref m_places, .int z_depth, .ref m_kinds, .ref m_ats, .ref m_ends])), (m_row, .inl (cI, 16384, .inl (upd (upd (upd (upd (upd (upd (upd (upd (upd (upd (upd (upd (upd (upd (upd (upd g_row n ((x1 >>> (24 &&& 31)) &&& 255)) (n + 1) ((x1 >>> (16 &&& 31)) &&& 255)) (n + 1 + 1) ((x1 >>> (8 &&& 31)) &&& 255)) (n + 1 + 1 + 1) ((x1 >>> (0 &&& 31)) &&& 255)) (n + 1 + 1 + 1 + 1) ((x2 >>> (24 &&& 31)) &&& 255)) (n + 1 + 1 + 1 + 1 + 1) ((x2 >>> (16 &&& 31)) &&& 255)) (n + 1 + 1 + 1 + 1 + 1 + 1) ((x2 >>> (8 &&& 31)) &&& 255)) (n + 1 + 1 + 1 + 1 + 1 + 1 + 1) ((x2 >>> (0 &&& 31)) &&& 255)) (n + 1 + 1 + 1 + 1 + 1 + 1 + 1 + 1) ((x3 >>> (24 &&& 31)) &&& 255)) (n + 1 + 1 + 1 + 1 + 1 + 1 + 1 + 1 + 1) ((x3 >>> (16 &&& 31)) &&& 255)) (n + 1 + 1 + 1 + 1 + 1 + 1 + 1 + 1 + 1 + 1) ((x3 >>> (8 &&& 31)) &&& 255)) (n + 1 + 1 + 1 + 1 + 1 + 1 + 1 + 1 + 1 + 1 + 1) ((x3 >>> (0 &&& 31)) &&& 255)) (n + 1 + 1 + 1 + 1 + 1 + 1 + 1 + 1 + 1 + 1 + 1 + 1) ((x4 >>> (24 &&& 31)) &&& 255)) (n + 1 + 1 + 1 + 1 + 1 + 1 + 1 + 1 + 1 + 1 + 1 + 1 + 1) ((x4 >>> (16 &&& 31)) &&& 255)) (n + 1 + 1 + 1 + 1 + 1 + 1 + 1 + 1 + 1 + 1 + 1 + 1 + 1 + 1) ((x4 >>> (8 &&& 31)) &&& 255)) (n + 1 + 1 + 1 + 1 + 1 + 1 + 1 + 1 + 1 + 1 + 1 + 1 + 1 + 1 + 1) ((x4 >>> (0 &&& 31)) &&& 255))))] H := hP
  have hD : va_D A_ [(mo, .inr (8, [.int 0, .int (nI (n + 1 + 1 + 1 + 1 + 1 + 1 + 1 + 1 + 1 + 1 + 1 + 1 + 1 + 1 + 1)), .ref m_row, .ref m_shelves, .ref m_many, .ref m_widths, .int z_marks, .ref m_mark, .int z_shown, .ref m_shownMark, .int z_wasRun, .int z_wrong, .int z_ended, .int z_steps, .int z_hints, .int z_hasWidth, .int z_width, .int z_first, .int z_moved, .int z_deepest, .int z_x, .int z_y, .int z_top, .ref m_stack, .ref m_places, .int z_depth, .ref m_kinds, .ref m_ats, .ref m_ends])), (m_row, .inl (cI, 16384, .inl (upd (upd (upd (upd (upd (upd (upd (upd (upd (upd (upd (upd (upd (upd (upd (upd g_row n ((x1 >>> (24 &&& 31)) &&& 255)) (n + 1) ((x1 >>> (16 &&& 31)) &&& 255)) (n + 1 + 1) ((x1 >>> (8 &&& 31)) &&& 255)) (n + 1 + 1 + 1) ((x1 >>> (0 &&& 31)) &&& 255)) (n + 1 + 1 + 1 + 1) ((x2 >>> (24 &&& 31)) &&& 255)) (n + 1 + 1 + 1 + 1 + 1) ((x2 >>> (16 &&& 31)) &&& 255)) (n + 1 + 1 + 1 + 1 + 1 + 1) ((x2 >>> (8 &&& 31)) &&& 255)) (n + 1 + 1 + 1 + 1 + 1 + 1 + 1) ((x2 >>> (0 &&& 31)) &&& 255)) (n + 1 + 1 + 1 + 1 + 1 + 1 + 1 + 1) ((x3 >>> (24 &&& 31)) &&& 255)) (n + 1 + 1 + 1 + 1 + 1 + 1 + 1 + 1 + 1) ((x3 >>> (16 &&& 31)) &&& 255)) (n + 1 + 1 + 1 + 1 + 1 + 1 + 1 + 1 + 1 + 1) ((x3 >>> (8 &&& 31)) &&& 255)) (n + 1 + 1 + 1 + 1 + 1 + 1 + 1 + 1 + 1 + 1 + 1) ((x3 >>> (0 &&& 31)) &&& 255)) (n + 1 + 1 + 1 + 1 + 1 + 1 + 1 + 1 + 1 + 1 + 1 + 1) ((x4 >>> (24 &&& 31)) &&& 255)) (n + 1 + 1 + 1 + 1 + 1 + 1 + 1 + 1 + 1 + 1 + 1 + 1 + 1) ((x4 >>> (16 &&& 31)) &&& 255)) (n + 1 + 1 + 1 + 1 + 1 + 1 + 1 + 1 + 1 + 1 + 1 + 1 + 1 + 1) ((x4 >>> (8 &&& 31)) &&& 255)) (n + 1 + 1 + 1 + 1 + 1 + 1 + 1 + 1 + 1 + 1 + 1 + 1 + 1 + 1 + 1) ((x4 >>> (0 &&& 31)) &&& 255))))] := hD
  refine lv_aload_n hx hb d_Mo_feed_104 rfl (lv_at hl 2 rfl) ?_
  refine lv_dup hx hb d_Mo_feed_105 rfl ?_
  refine va_get (D := D) (ci := 8) (v := .int (nI (n + 1 + 1 + 1 + 1 + 1 + 1 + 1 + 1 + 1 + 1 + 1 + 1 + 1 + 1 + 1))) (C := R_Mo) (T := F_Mo) (N := 29) hx hb hts i_Mo hown hZ.1 hP 0 rfl rfl 1 (by decide) (hts _ fl_Mo_48) (fun _ h9 => h9) rfl d_Mo_feed_106 ?_
  refine lv_iconst (v := 1) hx hb d_Mo_feed_109 (by decide) ?_
  refine lv_iadd hx hb d_Mo_feed_110 ?_
  refine lv_tv (y := nI (n + 1 + 1 + 1 + 1 + 1 + 1 + 1 + 1 + 1 + 1 + 1 + 1 + 1 + 1 + 1 + 1)) (nI_add (n + 1 + 1 + 1 + 1 + 1 + 1 + 1 + 1 + 1 + 1 + 1 + 1 + 1 + 1 + 1) 1) ?_
  refine va_put (D := D) (ci := 8) (v := .int (nI (n + 1 + 1 + 1 + 1 + 1 + 1 + 1 + 1 + 1 + 1 + 1 + 1 + 1 + 1 + 1 + 1))) (ty := .int) (C := R_Mo) (T := F_Mo) (N := 29) hx hb hts i_Mo t_Mo t_Mo_ok n_Mo hown hZ.1 hP hD hS 0 rfl rfl 1 (by decide) (hts _ fl_Mo_48) (fun _ h9 => h9) rfl (by decide +kernel) rfl rfl (Nat.le_of_ble_eq_true rfl) d_Mo_feed_111 (fun H locs hP hD hS => ?_)
  have hP : va_P D classes [(mo, .inr (8, [.int 0, .int (nI (n + 1 + 1 + 1 + 1 + 1 + 1 + 1 + 1 + 1 + 1 + 1 + 1 + 1 + 1 + 1 + 1)), .ref m_row, .ref m_shelves, .ref m_many, .ref m_widths, .int z_marks, .ref m_mark, .int z_shown, .ref m_shownMark, .int z_wasRun, .int z_wrong, .int z_ended, .int z_steps, .int z_hints, .int z_hasWidth, .int z_width, .int z_first, .int z_moved, .int z_deepest, .int z_x, .int z_y, .int z_top, .ref m_stack, .ref m_places, .int z_depth, .ref m_kinds, .ref m_ats, .ref m_ends])), (m_row, .inl (cI, 16384, .inl (upd (upd (upd (upd (upd (upd (upd (upd (upd (upd (upd (upd (upd (upd (upd (upd g_row n ((x1 >>> (24 &&& 31)) &&& 255)) (n + 1) ((x1 >>> (16 &&& 31)) &&& 255)) (n + 1 + 1) ((x1 >>> (8 &&& 31)) &&& 255)) (n + 1 + 1 + 1) ((x1 >>> (0 &&& 31)) &&& 255)) (n + 1 + 1 + 1 + 1) ((x2 >>> (24 &&& 31)) &&& 255)) (n + 1 + 1 + 1 + 1 + 1) ((x2 >>> (16 &&& 31)) &&& 255)) (n + 1 + 1 + 1 + 1 + 1 + 1) ((x2 >>> (8 &&& 31)) &&& 255)) (n + 1 + 1 + 1 + 1 + 1 + 1 + 1) ((x2 >>> (0 &&& 31)) &&& 255)) (n + 1 + 1 + 1 + 1 + 1 + 1 + 1 + 1) ((x3 >>> (24 &&& 31)) &&& 255)) (n + 1 + 1 + 1 + 1 + 1 + 1 + 1 + 1 + 1) ((x3 >>> (16 &&& 31)) &&& 255)) (n + 1 + 1 + 1 + 1 + 1 + 1 + 1 + 1 + 1 + 1) ((x3 >>> (8 &&& 31)) &&& 255)) (n + 1 + 1 + 1 + 1 + 1 + 1 + 1 + 1 + 1 + 1 + 1) ((x3 >>> (0 &&& 31)) &&& 255)) (n + 1 + 1 + 1 + 1 + 1 + 1 + 1 + 1 + 1 + 1 + 1 + 1) ((x4 >>> (24 &&& 31)) &&& 255)) (n + 1 + 1 + 1 + 1 + 1 + 1 + 1 + 1 + 1 + 1 + 1 + 1 + 1) ((x4 >>> (16 &&& 31)) &&& 255)) (n + 1 + 1 + 1 + 1 + 1 + 1 + 1 + 1 + 1 + 1 + 1 + 1 + 1 + 1) ((x4 >>> (8 &&& 31)) &&& 255)) (n + 1 + 1 + 1 + 1 + 1 + 1 + 1 + 1 + 1 + 1 + 1 + 1 + 1 + 1 + 1) ((x4 >>> (0 &&& 31)) &&& 255))))] H := hP
  have hD : va_D A_ [(mo, .inr (8, [.int 0, .int (nI (n + 1 + 1 + 1 + 1 + 1 + 1 + 1 + 1 + 1 + 1 + 1 + 1 + 1 + 1 + 1 + 1)), .ref m_row, .ref m_shelves, .ref m_many, .ref m_widths, .int z_marks, .ref m_mark, .int z_shown, .ref m_shownMark, .int z_wasRun, .int z_wrong, .int z_ended, .int z_steps, .int z_hints, .int z_hasWidth, .int z_width, .int z_first, .int z_moved, .int z_deepest, .int z_x, .int z_y, .int z_top, .ref m_stack, .ref m_places, .int z_depth, .ref m_kinds, .ref m_ats, .ref m_ends])), (m_row, .inl (cI, 16384, .inl (upd (upd (upd (upd (upd (upd (upd (upd (upd (upd (upd (upd (upd (upd (upd (upd g_row n ((x1 >>> (24 &&& 31)) &&& 255)) (n + 1) ((x1 >>> (16 &&& 31)) &&& 255)) (n + 1 + 1) ((x1 >>> (8 &&& 31)) &&& 255)) (n + 1 + 1 + 1) ((x1 >>> (0 &&& 31)) &&& 255)) (n + 1 + 1 + 1 + 1) ((x2 >>> (24 &&& 31)) &&& 255)) (n + 1 + 1 + 1 + 1 + 1) ((x2 >>> (16 &&& 31)) &&& 255)) (n + 1 + 1 + 1 + 1 + 1 + 1) ((x2 >>> (8 &&& 31)) &&& 255)) (n + 1 + 1 + 1 + 1 + 1 + 1 + 1) ((x2 >>> (0 &&& 31)) &&& 255)) (n + 1 + 1 + 1 + 1 + 1 + 1 + 1 + 1) ((x3 >>> (24 &&& 31)) &&& 255)) (n + 1 + 1 + 1 + 1 + 1 + 1 + 1 + 1 + 1) ((x3 >>> (16 &&& 31)) &&& 255)) (n + 1 + 1 + 1 + 1 + 1 + 1 + 1 + 1 + 1 + 1) ((x3 >>> (8 &&& 31)) &&& 255)) (n + 1 + 1 + 1 + 1 + 1 + 1 + 1 + 1 + 1 + 1 + 1) ((x3 >>> (0 &&& 31)) &&& 255)) (n + 1 + 1 + 1 + 1 + 1 + 1 + 1 + 1 + 1 + 1 + 1 + 1) ((x4 >>> (24 &&& 31)) &&& 255)) (n + 1 + 1 + 1 + 1 + 1 + 1 + 1 + 1 + 1 + 1 + 1 + 1 + 1) ((x4 >>> (16 &&& 31)) &&& 255)) (n + 1 + 1 + 1 + 1 + 1 + 1 + 1 + 1 + 1 + 1 + 1 + 1 + 1 + 1) ((x4 >>> (8 &&& 31)) &&& 255)) (n + 1 + 1 + 1 + 1 + 1 + 1 + 1 + 1 + 1 + 1 + 1 + 1 + 1 + 1 + 1) ((x4 >>> (0 &&& 31)) &&& 255))))] := hD
  refine lv_iinc (v := 16) (lv' := [(6, .int 16), (7, .int x4), (0, .ref mo), (1, .int x1), (2, .int x2), (3, .int x3), (4, .int x4), (5, .int x5)]) hx hb d_Mo_feed_114 hl (k := 1) rfl (by decide) (by decide) rfl (fun ls hl => ?_)
  refine lv_goto (tgt := 23) hx hb d_Mo_feed_117 (by decide) ?_
  refine lv_iload hx hb d_Mo_feed_23 (lv_at hl 0 rfl) ?_
  refine lv_bipush (v := 20) hx hb d_Mo_feed_25 (by decide) ?_
  refine lv_icmp_ge (tgt := 120) hx hb d_Mo_feed_27 (by decide) (fun c_27 => absurd c_27 (by decide)) (fun c_27 => ?_)
  clear c_27
  refine lv_iload hx hb d_Mo_feed_30 (lv_at hl 0 rfl) ?_
  refine lv_iconst (v := 4) hx hb d_Mo_feed_32 (by decide) ?_
  refine lv_icmp_ge (tgt := 40) hx hb d_Mo_feed_33 (by decide) (fun c_33 => ?_) (fun c_33 => absurd (by decide) c_33)
  clear c_33
  refine lv_iload hx hb d_Mo_feed_40 (lv_at hl 0 rfl) ?_
  refine lv_bipush (v := 8) hx hb d_Mo_feed_42 (by decide) ?_
  refine lv_icmp_ge (tgt := 51) hx hb d_Mo_feed_44 (by decide) (fun c_44 => ?_) (fun c_44 => absurd (by decide) c_44)
  clear c_44
  refine lv_iload hx hb d_Mo_feed_51 (lv_at hl 0 rfl) ?_
  refine lv_bipush (v := 12) hx hb d_Mo_feed_53 (by decide) ?_
  refine lv_icmp_ge (tgt := 62) hx hb d_Mo_feed_55 (by decide) (fun c_55 => ?_) (fun c_55 => absurd (by decide) c_55)
  clear c_55
  refine lv_iload hx hb d_Mo_feed_62 (lv_at hl 0 rfl) ?_
  refine lv_bipush (v := 16) hx hb d_Mo_feed_64 (by decide) ?_
  refine lv_icmp_ge (tgt := 74) hx hb d_Mo_feed_66 (by decide) (fun c_66 => ?_) (fun c_66 => absurd (by decide) c_66)
  clear c_66
  refine lv_iload hx hb d_Mo_feed_74 (lv_at hl 7 rfl) ?_
  refine lv_istore (lv' := [(7, .int x5), (6, .int 16), (0, .ref mo), (1, .int x1), (2, .int x2), (3, .int x3), (4, .int x4), (5, .int x5)]) hx hb d_Mo_feed_76 hl (by decide) rfl (fun ls hl => ?_)
  refine lv_aload_n hx hb d_Mo_feed_78 rfl (lv_at hl 2 rfl) ?_
  refine va_get (D := D) (ci := 8) (v := .ref m_row) (C := R_Mo) (T := F_Mo) (N := 29) hx hb hts i_Mo hown hZ.1 hP 0 rfl rfl 2 (by decide) (hts _ fl_Mo_7) (fun _ h9 => h9) rfl d_Mo_feed_79 ?_
  refine lv_aload_n hx hb d_Mo_feed_82 rfl (lv_at hl 2 rfl) ?_
  refine va_get (D := D) (ci := 8) (v := .int (nI (n + 1 + 1 + 1 + 1 + 1 + 1 + 1 + 1 + 1 + 1 + 1 + 1 + 1 + 1 + 1 + 1))) (C := R_Mo) (T := F_Mo) (N := 29) hx hb hts i_Mo hown hZ.1 hP 0 rfl rfl 1 (by decide) (hts _ fl_Mo_48) (fun _ h9 => h9) rfl d_Mo_feed_83 ?_
  refine lv_iload hx hb d_Mo_feed_86 (lv_at hl 0 rfl) ?_
  refine lv_bipush (v := 24) hx hb d_Mo_feed_88 (by decide) ?_
  refine lv_bipush (v := 8) hx hb d_Mo_feed_90 (by decide) ?_
  refine lv_iload hx hb d_Mo_feed_92 (lv_at hl 1 rfl) ?_
  refine lv_iconst (v := 4) hx hb d_Mo_feed_94 (by decide) ?_
  refine lv_irem hx hb d_Mo_feed_95 (by decide) ?_
  refine lv_tv (y := 0) (by decide) ?_
  refine lv_imul hx hb d_Mo_feed_96 ?_
  refine lv_tv (y := 0) (by decide) ?_
  refine lv_isub hx hb d_Mo_feed_97 ?_
  refine lv_tv (y := 24) (by decide) ?_
  refine lv_ishr hx hb d_Mo_feed_98 ?_
  refine lv_sipush (v := 255) hx hb d_Mo_feed_99 (by decide) ?_
  refine lv_iand hx hb d_Mo_feed_102 ?_
  refine va_iast hx hb hZ.1 hP hD hS 1 1 rfl rfl (vp_in_nI (by omega) (by omega)) d_Mo_feed_103 (fun H locs hP hD hS => ?_)
  rw [show ((nI (n + 1 + 1 + 1 + 1 + 1 + 1 + 1 + 1 + 1 + 1 + 1 + 1 + 1 + 1 + 1 + 1)).toNatClampNeg) = n + 1 + 1 + 1 + 1 + 1 + 1 + 1 + 1 + 1 + 1 + 1 + 1 + 1 + 1 + 1 + 1 from nI_clamp (by omega)] at hP hD
  have hP : va_P D classes [(mo, .inr (8, [.int 0, .int (nI (n + 1 + 1 + 1 + 1 + 1 + 1 + 1 + 1 + 1 + 1 + 1 + 1 + 1 + 1 + 1 + 1)), .ref m_row, .ref m_shelves, .ref m_many, .ref m_widths, .int z_marks, .ref m_mark, .int z_shown, .ref m_shownMark, .int z_wasRun, .int z_wrong, .int z_ended, .int z_steps, .int z_hints, .int z_hasWidth, .int z_width, .int z_first, .int z_moved, .int z_deepest, .int z_x, .int z_y, .int z_top, .ref m_stack, .ref m_places, .int z_depth, .ref m_kinds, .ref m_ats, .ref m_ends])), (m_row, .inl (cI, 16384, .inl (upd (upd (upd (upd (upd (upd (upd (upd (upd (upd (upd (upd (upd (upd (upd (upd (upd g_row n ((x1 >>> (24 &&& 31)) &&& 255)) (n + 1) ((x1 >>> (16 &&& 31)) &&& 255)) (n + 1 + 1) ((x1 >>> (8 &&& 31)) &&& 255)) (n + 1 + 1 + 1) ((x1 >>> (0 &&& 31)) &&& 255)) (n + 1 + 1 + 1 + 1) ((x2 >>> (24 &&& 31)) &&& 255)) (n + 1 + 1 + 1 + 1 + 1) ((x2 >>> (16 &&& 31)) &&& 255)) (n + 1 + 1 + 1 + 1 + 1 + 1) ((x2 >>> (8 &&& 31)) &&& 255)) (n + 1 + 1 + 1 + 1 + 1 + 1 + 1) ((x2 >>> (0 &&& 31)) &&& 255)) (n + 1 + 1 + 1 + 1 + 1 + 1 + 1 + 1) ((x3 >>> (24 &&& 31)) &&& 255)) (n + 1 + 1 + 1 + 1 + 1 + 1 + 1 + 1 + 1) ((x3 >>> (16 &&& 31)) &&& 255)) (n + 1 + 1 + 1 + 1 + 1 + 1 + 1 + 1 + 1 + 1) ((x3 >>> (8 &&& 31)) &&& 255)) (n + 1 + 1 + 1 + 1 + 1 + 1 + 1 + 1 + 1 + 1 + 1) ((x3 >>> (0 &&& 31)) &&& 255)) (n + 1 + 1 + 1 + 1 + 1 + 1 + 1 + 1 + 1 + 1 + 1 + 1) ((x4 >>> (24 &&& 31)) &&& 255)) (n + 1 + 1 + 1 + 1 + 1 + 1 + 1 + 1 + 1 + 1 + 1 + 1 + 1) ((x4 >>> (16 &&& 31)) &&& 255)) (n + 1 + 1 + 1 + 1 + 1 + 1 + 1 + 1 + 1 + 1 + 1 + 1 + 1 + 1) ((x4 >>> (8 &&& 31)) &&& 255)) (n + 1 + 1 + 1 + 1 + 1 + 1 + 1 + 1 + 1 + 1 + 1 + 1 + 1 + 1 + 1) ((x4 >>> (0 &&& 31)) &&& 255)) (n + 1 + 1 + 1 + 1 + 1 + 1 + 1 + 1 + 1 + 1 + 1 + 1 + 1 + 1 + 1 + 1) ((x5 >>> (24 &&& 31)) &&& 255))))] H := hP
  have hD : va_D A_ [(mo, .inr (8, [.int 0, .int (nI (n + 1 + 1 + 1 + 1 + 1 + 1 + 1 + 1 + 1 + 1 + 1 + 1 + 1 + 1 + 1 + 1)), .ref m_row, .ref m_shelves, .ref m_many, .ref m_widths, .int z_marks, .ref m_mark, .int z_shown, .ref m_shownMark, .int z_wasRun, .int z_wrong, .int z_ended, .int z_steps, .int z_hints, .int z_hasWidth, .int z_width, .int z_first, .int z_moved, .int z_deepest, .int z_x, .int z_y, .int z_top, .ref m_stack, .ref m_places, .int z_depth, .ref m_kinds, .ref m_ats, .ref m_ends])), (m_row, .inl (cI, 16384, .inl (upd (upd (upd (upd (upd (upd (upd (upd (upd (upd (upd (upd (upd (upd (upd (upd (upd g_row n ((x1 >>> (24 &&& 31)) &&& 255)) (n + 1) ((x1 >>> (16 &&& 31)) &&& 255)) (n + 1 + 1) ((x1 >>> (8 &&& 31)) &&& 255)) (n + 1 + 1 + 1) ((x1 >>> (0 &&& 31)) &&& 255)) (n + 1 + 1 + 1 + 1) ((x2 >>> (24 &&& 31)) &&& 255)) (n + 1 + 1 + 1 + 1 + 1) ((x2 >>> (16 &&& 31)) &&& 255)) (n + 1 + 1 + 1 + 1 + 1 + 1) ((x2 >>> (8 &&& 31)) &&& 255)) (n + 1 + 1 + 1 + 1 + 1 + 1 + 1) ((x2 >>> (0 &&& 31)) &&& 255)) (n + 1 + 1 + 1 + 1 + 1 + 1 + 1 + 1) ((x3 >>> (24 &&& 31)) &&& 255)) (n + 1 + 1 + 1 + 1 + 1 + 1 + 1 + 1 + 1) ((x3 >>> (16 &&& 31)) &&& 255)) (n + 1 + 1 + 1 + 1 + 1 + 1 + 1 + 1 + 1 + 1) ((x3 >>> (8 &&& 31)) &&& 255)) (n + 1 + 1 + 1 + 1 + 1 + 1 + 1 + 1 + 1 + 1 + 1) ((x3 >>> (0 &&& 31)) &&& 255)) (n + 1 + 1 + 1 + 1 + 1 + 1 + 1 + 1 + 1 + 1 + 1 + 1) ((x4 >>> (24 &&& 31)) &&& 255)) (n + 1 + 1 + 1 + 1 + 1 + 1 + 1 + 1 + 1 + 1 + 1 + 1 + 1) ((x4 >>> (16 &&& 31)) &&& 255)) (n + 1 + 1 + 1 + 1 + 1 + 1 + 1 + 1 + 1 + 1 + 1 + 1 + 1 + 1) ((x4 >>> (8 &&& 31)) &&& 255)) (n + 1 + 1 + 1 + 1 + 1 + 1 + 1 + 1 + 1 + 1 + 1 + 1 + 1 + 1 + 1) ((x4 >>> (0 &&& 31)) &&& 255)) (n + 1 + 1 + 1 + 1 + 1 + 1 + 1 + 1 + 1 + 1 + 1 + 1 + 1 + 1 + 1 + 1) ((x5 >>> (24 &&& 31)) &&& 255))))] := hD
  refine lv_aload_n hx hb d_Mo_feed_104 rfl (lv_at hl 2 rfl) ?_
  refine lv_dup hx hb d_Mo_feed_105 rfl ?_
  refine va_get (D := D) (ci := 8) (v := .int (nI (n + 1 + 1 + 1 + 1 + 1 + 1 + 1 + 1 + 1 + 1 + 1 + 1 + 1 + 1 + 1 + 1))) (C := R_Mo) (T := F_Mo) (N := 29) hx hb hts i_Mo hown hZ.1 hP 0 rfl rfl 1 (by decide) (hts _ fl_Mo_48) (fun _ h9 => h9) rfl d_Mo_feed_106 ?_
  refine lv_iconst (v := 1) hx hb d_Mo_feed_109 (by decide) ?_
  refine lv_iadd hx hb d_Mo_feed_110 ?_
  refine lv_tv (y := nI (n + 1 + 1 + 1 + 1 + 1 + 1 + 1 + 1 + 1 + 1 + 1 + 1 + 1 + 1 + 1 + 1 + 1)) (nI_add (n + 1 + 1 + 1 + 1 + 1 + 1 + 1 + 1 + 1 + 1 + 1 + 1 + 1 + 1 + 1 + 1) 1) ?_
  refine va_put (D := D) (ci := 8) (v := .int (nI (n + 1 + 1 + 1 + 1 + 1 + 1 + 1 + 1 + 1 + 1 + 1 + 1 + 1 + 1 + 1 + 1 + 1))) (ty := .int) (C := R_Mo) (T := F_Mo) (N := 29) hx hb hts i_Mo t_Mo t_Mo_ok n_Mo hown hZ.1 hP hD hS 0 rfl rfl 1 (by decide) (hts _ fl_Mo_48) (fun _ h9 => h9) rfl (by decide +kernel) rfl rfl (Nat.le_of_ble_eq_true rfl) d_Mo_feed_111 (fun H locs hP hD hS => ?_)
  have hP : va_P D classes [(mo, .inr (8, [.int 0, .int (nI (n + 1 + 1 + 1 + 1 + 1 + 1 + 1 + 1 + 1 + 1 + 1 + 1 + 1 + 1 + 1 + 1 + 1)), .ref m_row, .ref m_shelves, .ref m_many, .ref m_widths, .int z_marks, .ref m_mark, .int z_shown, .ref m_shownMark, .int z_wasRun, .int z_wrong, .int z_ended, .int z_steps, .int z_hints, .int z_hasWidth, .int z_width, .int z_first, .int z_moved, .int z_deepest, .int z_x, .int z_y, .int z_top, .ref m_stack, .ref m_places, .int z_depth, .ref m_kinds, .ref m_ats, .ref m_ends])), (m_row, .inl (cI, 16384, .inl (upd (upd (upd (upd (upd (upd (upd (upd (upd (upd (upd (upd (upd (upd (upd (upd (upd g_row n ((x1 >>> (24 &&& 31)) &&& 255)) (n + 1) ((x1 >>> (16 &&& 31)) &&& 255)) (n + 1 + 1) ((x1 >>> (8 &&& 31)) &&& 255)) (n + 1 + 1 + 1) ((x1 >>> (0 &&& 31)) &&& 255)) (n + 1 + 1 + 1 + 1) ((x2 >>> (24 &&& 31)) &&& 255)) (n + 1 + 1 + 1 + 1 + 1) ((x2 >>> (16 &&& 31)) &&& 255)) (n + 1 + 1 + 1 + 1 + 1 + 1) ((x2 >>> (8 &&& 31)) &&& 255)) (n + 1 + 1 + 1 + 1 + 1 + 1 + 1) ((x2 >>> (0 &&& 31)) &&& 255)) (n + 1 + 1 + 1 + 1 + 1 + 1 + 1 + 1) ((x3 >>> (24 &&& 31)) &&& 255)) (n + 1 + 1 + 1 + 1 + 1 + 1 + 1 + 1 + 1) ((x3 >>> (16 &&& 31)) &&& 255)) (n + 1 + 1 + 1 + 1 + 1 + 1 + 1 + 1 + 1 + 1) ((x3 >>> (8 &&& 31)) &&& 255)) (n + 1 + 1 + 1 + 1 + 1 + 1 + 1 + 1 + 1 + 1 + 1) ((x3 >>> (0 &&& 31)) &&& 255)) (n + 1 + 1 + 1 + 1 + 1 + 1 + 1 + 1 + 1 + 1 + 1 + 1) ((x4 >>> (24 &&& 31)) &&& 255)) (n + 1 + 1 + 1 + 1 + 1 + 1 + 1 + 1 + 1 + 1 + 1 + 1 + 1) ((x4 >>> (16 &&& 31)) &&& 255)) (n + 1 + 1 + 1 + 1 + 1 + 1 + 1 + 1 + 1 + 1 + 1 + 1 + 1 + 1) ((x4 >>> (8 &&& 31)) &&& 255)) (n + 1 + 1 + 1 + 1 + 1 + 1 + 1 + 1 + 1 + 1 + 1 + 1 + 1 + 1 + 1) ((x4 >>> (0 &&& 31)) &&& 255)) (n + 1 + 1 + 1 + 1 + 1 + 1 + 1 + 1 + 1 + 1 + 1 + 1 + 1 + 1 + 1 + 1) ((x5 >>> (24 &&& 31)) &&& 255))))] H := hP
  have hD : va_D A_ [(mo, .inr (8, [.int 0, .int (nI (n + 1 + 1 + 1 + 1 + 1 + 1 + 1 + 1 + 1 + 1 + 1 + 1 + 1 + 1 + 1 + 1 + 1)), .ref m_row, .ref m_shelves, .ref m_many, .ref m_widths, .int z_marks, .ref m_mark, .int z_shown, .ref m_shownMark, .int z_wasRun, .int z_wrong, .int z_ended, .int z_steps, .int z_hints, .int z_hasWidth, .int z_width, .int z_first, .int z_moved, .int z_deepest, .int z_x, .int z_y, .int z_top, .ref m_stack, .ref m_places, .int z_depth, .ref m_kinds, .ref m_ats, .ref m_ends])), (m_row, .inl (cI, 16384, .inl (upd (upd (upd (upd (upd (upd (upd (upd (upd (upd (upd (upd (upd (upd (upd (upd (upd g_row n ((x1 >>> (24 &&& 31)) &&& 255)) (n + 1) ((x1 >>> (16 &&& 31)) &&& 255)) (n + 1 + 1) ((x1 >>> (8 &&& 31)) &&& 255)) (n + 1 + 1 + 1) ((x1 >>> (0 &&& 31)) &&& 255)) (n + 1 + 1 + 1 + 1) ((x2 >>> (24 &&& 31)) &&& 255)) (n + 1 + 1 + 1 + 1 + 1) ((x2 >>> (16 &&& 31)) &&& 255)) (n + 1 + 1 + 1 + 1 + 1 + 1) ((x2 >>> (8 &&& 31)) &&& 255)) (n + 1 + 1 + 1 + 1 + 1 + 1 + 1) ((x2 >>> (0 &&& 31)) &&& 255)) (n + 1 + 1 + 1 + 1 + 1 + 1 + 1 + 1) ((x3 >>> (24 &&& 31)) &&& 255)) (n + 1 + 1 + 1 + 1 + 1 + 1 + 1 + 1 + 1) ((x3 >>> (16 &&& 31)) &&& 255)) (n + 1 + 1 + 1 + 1 + 1 + 1 + 1 + 1 + 1 + 1) ((x3 >>> (8 &&& 31)) &&& 255)) (n + 1 + 1 + 1 + 1 + 1 + 1 + 1 + 1 + 1 + 1 + 1) ((x3 >>> (0 &&& 31)) &&& 255)) (n + 1 + 1 + 1 + 1 + 1 + 1 + 1 + 1 + 1 + 1 + 1 + 1) ((x4 >>> (24 &&& 31)) &&& 255)) (n + 1 + 1 + 1 + 1 + 1 + 1 + 1 + 1 + 1 + 1 + 1 + 1 + 1) ((x4 >>> (16 &&& 31)) &&& 255)) (n + 1 + 1 + 1 + 1 + 1 + 1 + 1 + 1 + 1 + 1 + 1 + 1 + 1 + 1) ((x4 >>> (8 &&& 31)) &&& 255)) (n + 1 + 1 + 1 + 1 + 1 + 1 + 1 + 1 + 1 + 1 + 1 + 1 + 1 + 1 + 1) ((x4 >>> (0 &&& 31)) &&& 255)) (n + 1 + 1 + 1 + 1 + 1 + 1 + 1 + 1 + 1 + 1 + 1 + 1 + 1 + 1 + 1 + 1) ((x5 >>> (24 &&& 31)) &&& 255))))] := hD
  refine lv_iinc (v := 17) (lv' := [(6, .int 17), (7, .int x5), (0, .ref mo), (1, .int x1), (2, .int x2), (3, .int x3), (4, .int x4), (5, .int x5)]) hx hb d_Mo_feed_114 hl (k := 1) rfl (by decide) (by decide) rfl (fun ls hl => ?_)
  refine lv_goto (tgt := 23) hx hb d_Mo_feed_117 (by decide) ?_
  refine lv_iload hx hb d_Mo_feed_23 (lv_at hl 0 rfl) ?_
  refine lv_bipush (v := 20) hx hb d_Mo_feed_25 (by decide) ?_
  refine lv_icmp_ge (tgt := 120) hx hb d_Mo_feed_27 (by decide) (fun c_27 => absurd c_27 (by decide)) (fun c_27 => ?_)
  clear c_27
  refine lv_iload hx hb d_Mo_feed_30 (lv_at hl 0 rfl) ?_
  refine lv_iconst (v := 4) hx hb d_Mo_feed_32 (by decide) ?_
  refine lv_icmp_ge (tgt := 40) hx hb d_Mo_feed_33 (by decide) (fun c_33 => ?_) (fun c_33 => absurd (by decide) c_33)
  clear c_33
  refine lv_iload hx hb d_Mo_feed_40 (lv_at hl 0 rfl) ?_
  refine lv_bipush (v := 8) hx hb d_Mo_feed_42 (by decide) ?_
  refine lv_icmp_ge (tgt := 51) hx hb d_Mo_feed_44 (by decide) (fun c_44 => ?_) (fun c_44 => absurd (by decide) c_44)
  clear c_44
  refine lv_iload hx hb d_Mo_feed_51 (lv_at hl 0 rfl) ?_
  refine lv_bipush (v := 12) hx hb d_Mo_feed_53 (by decide) ?_
  refine lv_icmp_ge (tgt := 62) hx hb d_Mo_feed_55 (by decide) (fun c_55 => ?_) (fun c_55 => absurd (by decide) c_55)
  clear c_55
  refine lv_iload hx hb d_Mo_feed_62 (lv_at hl 0 rfl) ?_
  refine lv_bipush (v := 16) hx hb d_Mo_feed_64 (by decide) ?_
  refine lv_icmp_ge (tgt := 74) hx hb d_Mo_feed_66 (by decide) (fun c_66 => ?_) (fun c_66 => absurd (by decide) c_66)
  clear c_66
  refine lv_iload hx hb d_Mo_feed_74 (lv_at hl 7 rfl) ?_
  refine lv_istore (lv' := [(7, .int x5), (6, .int 17), (0, .ref mo), (1, .int x1), (2, .int x2), (3, .int x3), (4, .int x4), (5, .int x5)]) hx hb d_Mo_feed_76 hl (by decide) rfl (fun ls hl => ?_)
  refine lv_aload_n hx hb d_Mo_feed_78 rfl (lv_at hl 2 rfl) ?_
  refine va_get (D := D) (ci := 8) (v := .ref m_row) (C := R_Mo) (T := F_Mo) (N := 29) hx hb hts i_Mo hown hZ.1 hP 0 rfl rfl 2 (by decide) (hts _ fl_Mo_7) (fun _ h9 => h9) rfl d_Mo_feed_79 ?_
  refine lv_aload_n hx hb d_Mo_feed_82 rfl (lv_at hl 2 rfl) ?_
  refine va_get (D := D) (ci := 8) (v := .int (nI (n + 1 + 1 + 1 + 1 + 1 + 1 + 1 + 1 + 1 + 1 + 1 + 1 + 1 + 1 + 1 + 1 + 1))) (C := R_Mo) (T := F_Mo) (N := 29) hx hb hts i_Mo hown hZ.1 hP 0 rfl rfl 1 (by decide) (hts _ fl_Mo_48) (fun _ h9 => h9) rfl d_Mo_feed_83 ?_
  refine lv_iload hx hb d_Mo_feed_86 (lv_at hl 0 rfl) ?_
  refine lv_bipush (v := 24) hx hb d_Mo_feed_88 (by decide) ?_
  refine lv_bipush (v := 8) hx hb d_Mo_feed_90 (by decide) ?_
  refine lv_iload hx hb d_Mo_feed_92 (lv_at hl 1 rfl) ?_
  refine lv_iconst (v := 4) hx hb d_Mo_feed_94 (by decide) ?_
  refine lv_irem hx hb d_Mo_feed_95 (by decide) ?_
  refine lv_tv (y := 1) (by decide) ?_
  refine lv_imul hx hb d_Mo_feed_96 ?_
  refine lv_tv (y := 8) (by decide) ?_
  refine lv_isub hx hb d_Mo_feed_97 ?_
  refine lv_tv (y := 16) (by decide) ?_
  refine lv_ishr hx hb d_Mo_feed_98 ?_
  refine lv_sipush (v := 255) hx hb d_Mo_feed_99 (by decide) ?_
  refine lv_iand hx hb d_Mo_feed_102 ?_
  refine va_iast hx hb hZ.1 hP hD hS 1 1 rfl rfl (vp_in_nI (by omega) (by omega)) d_Mo_feed_103 (fun H locs hP hD hS => ?_)
  rw [show ((nI (n + 1 + 1 + 1 + 1 + 1 + 1 + 1 + 1 + 1 + 1 + 1 + 1 + 1 + 1 + 1 + 1 + 1)).toNatClampNeg) = n + 1 + 1 + 1 + 1 + 1 + 1 + 1 + 1 + 1 + 1 + 1 + 1 + 1 + 1 + 1 + 1 + 1 from nI_clamp (by omega)] at hP hD
  have hP : va_P D classes [(mo, .inr (8, [.int 0, .int (nI (n + 1 + 1 + 1 + 1 + 1 + 1 + 1 + 1 + 1 + 1 + 1 + 1 + 1 + 1 + 1 + 1 + 1)), .ref m_row, .ref m_shelves, .ref m_many, .ref m_widths, .int z_marks, .ref m_mark, .int z_shown, .ref m_shownMark, .int z_wasRun, .int z_wrong, .int z_ended, .int z_steps, .int z_hints, .int z_hasWidth, .int z_width, .int z_first, .int z_moved, .int z_deepest, .int z_x, .int z_y, .int z_top, .ref m_stack, .ref m_places, .int z_depth, .ref m_kinds, .ref m_ats, .ref m_ends])), (m_row, .inl (cI, 16384, .inl (upd (upd (upd (upd (upd (upd (upd (upd (upd (upd (upd (upd (upd (upd (upd (upd (upd (upd g_row n ((x1 >>> (24 &&& 31)) &&& 255)) (n + 1) ((x1 >>> (16 &&& 31)) &&& 255)) (n + 1 + 1) ((x1 >>> (8 &&& 31)) &&& 255)) (n + 1 + 1 + 1) ((x1 >>> (0 &&& 31)) &&& 255)) (n + 1 + 1 + 1 + 1) ((x2 >>> (24 &&& 31)) &&& 255)) (n + 1 + 1 + 1 + 1 + 1) ((x2 >>> (16 &&& 31)) &&& 255)) (n + 1 + 1 + 1 + 1 + 1 + 1) ((x2 >>> (8 &&& 31)) &&& 255)) (n + 1 + 1 + 1 + 1 + 1 + 1 + 1) ((x2 >>> (0 &&& 31)) &&& 255)) (n + 1 + 1 + 1 + 1 + 1 + 1 + 1 + 1) ((x3 >>> (24 &&& 31)) &&& 255)) (n + 1 + 1 + 1 + 1 + 1 + 1 + 1 + 1 + 1) ((x3 >>> (16 &&& 31)) &&& 255)) (n + 1 + 1 + 1 + 1 + 1 + 1 + 1 + 1 + 1 + 1) ((x3 >>> (8 &&& 31)) &&& 255)) (n + 1 + 1 + 1 + 1 + 1 + 1 + 1 + 1 + 1 + 1 + 1) ((x3 >>> (0 &&& 31)) &&& 255)) (n + 1 + 1 + 1 + 1 + 1 + 1 + 1 + 1 + 1 + 1 + 1 + 1) ((x4 >>> (24 &&& 31)) &&& 255)) (n + 1 + 1 + 1 + 1 + 1 + 1 + 1 + 1 + 1 + 1 + 1 + 1 + 1) ((x4 >>> (16 &&& 31)) &&& 255)) (n + 1 + 1 + 1 + 1 + 1 + 1 + 1 + 1 + 1 + 1 + 1 + 1 + 1 + 1) ((x4 >>> (8 &&& 31)) &&& 255)) (n + 1 + 1 + 1 + 1 + 1 + 1 + 1 + 1 + 1 + 1 + 1 + 1 + 1 + 1 + 1) ((x4 >>> (0 &&& 31)) &&& 255)) (n + 1 + 1 + 1 + 1 + 1 + 1 + 1 + 1 + 1 + 1 + 1 + 1 + 1 + 1 + 1 + 1) ((x5 >>> (24 &&& 31)) &&& 255)) (n + 1 + 1 + 1 + 1 + 1 + 1 + 1 + 1 + 1 + 1 + 1 + 1 + 1 + 1 + 1 + 1 + 1) ((x5 >>> (16 &&& 31)) &&& 255))))] H := hP
  have hD : va_D A_ [(mo, .inr (8, [.int 0, .int (nI (n + 1 + 1 + 1 + 1 + 1 + 1 + 1 + 1 + 1 + 1 + 1 + 1 + 1 + 1 + 1 + 1 + 1)), .ref m_row, .ref m_shelves, .ref m_many, .ref m_widths, .int z_marks, .ref m_mark, .int z_shown, .ref m_shownMark, .int z_wasRun, .int z_wrong, .int z_ended, .int z_steps, .int z_hints, .int z_hasWidth, .int z_width, .int z_first, .int z_moved, .int z_deepest, .int z_x, .int z_y, .int z_top, .ref m_stack, .ref m_places, .int z_depth, .ref m_kinds, .ref m_ats, .ref m_ends])), (m_row, .inl (cI, 16384, .inl (upd (upd (upd (upd (upd (upd (upd (upd (upd (upd (upd (upd (upd (upd (upd (upd (upd (upd g_row n ((x1 >>> (24 &&& 31)) &&& 255)) (n + 1) ((x1 >>> (16 &&& 31)) &&& 255)) (n + 1 + 1) ((x1 >>> (8 &&& 31)) &&& 255)) (n + 1 + 1 + 1) ((x1 >>> (0 &&& 31)) &&& 255)) (n + 1 + 1 + 1 + 1) ((x2 >>> (24 &&& 31)) &&& 255)) (n + 1 + 1 + 1 + 1 + 1) ((x2 >>> (16 &&& 31)) &&& 255)) (n + 1 + 1 + 1 + 1 + 1 + 1) ((x2 >>> (8 &&& 31)) &&& 255)) (n + 1 + 1 + 1 + 1 + 1 + 1 + 1) ((x2 >>> (0 &&& 31)) &&& 255)) (n + 1 + 1 + 1 + 1 + 1 + 1 + 1 + 1) ((x3 >>> (24 &&& 31)) &&& 255)) (n + 1 + 1 + 1 + 1 + 1 + 1 + 1 + 1 + 1) ((x3 >>> (16 &&& 31)) &&& 255)) (n + 1 + 1 + 1 + 1 + 1 + 1 + 1 + 1 + 1 + 1) ((x3 >>> (8 &&& 31)) &&& 255)) (n + 1 + 1 + 1 + 1 + 1 + 1 + 1 + 1 + 1 + 1 + 1) ((x3 >>> (0 &&& 31)) &&& 255)) (n + 1 + 1 + 1 + 1 + 1 + 1 + 1 + 1 + 1 + 1 + 1 + 1) ((x4 >>> (24 &&& 31)) &&& 255)) (n + 1 + 1 + 1 + 1 + 1 + 1 + 1 + 1 + 1 + 1 + 1 + 1 + 1) ((x4 >>> (16 &&& 31)) &&& 255)) (n + 1 + 1 + 1 + 1 + 1 + 1 + 1 + 1 + 1 + 1 + 1 + 1 + 1 + 1) ((x4 >>> (8 &&& 31)) &&& 255)) (n + 1 + 1 + 1 + 1 + 1 + 1 + 1 + 1 + 1 + 1 + 1 + 1 + 1 + 1 + 1) ((x4 >>> (0 &&& 31)) &&& 255)) (n + 1 + 1 + 1 + 1 + 1 + 1 + 1 + 1 + 1 + 1 + 1 + 1 + 1 + 1 + 1 + 1) ((x5 >>> (24 &&& 31)) &&& 255)) (n + 1 + 1 + 1 + 1 + 1 + 1 + 1 + 1 + 1 + 1 + 1 + 1 + 1 + 1 + 1 + 1 + 1) ((x5 >>> (16 &&& 31)) &&& 255))))] := hD
  refine lv_aload_n hx hb d_Mo_feed_104 rfl (lv_at hl 2 rfl) ?_
  refine lv_dup hx hb d_Mo_feed_105 rfl ?_
  refine va_get (D := D) (ci := 8) (v := .int (nI (n + 1 + 1 + 1 + 1 + 1 + 1 + 1 + 1 + 1 + 1 + 1 + 1 + 1 + 1 + 1 + 1 + 1))) (C := R_Mo) (T := F_Mo) (N := 29) hx hb hts i_Mo hown hZ.1 hP 0 rfl rfl 1 (by decide) (hts _ fl_Mo_48) (fun _ h9 => h9) rfl d_Mo_feed_106 ?_
  refine lv_iconst (v := 1) hx hb d_Mo_feed_109 (by decide) ?_
  refine lv_iadd hx hb d_Mo_feed_110 ?_
  refine lv_tv (y := nI (n + 1 + 1 + 1 + 1 + 1 + 1 + 1 + 1 + 1 + 1 + 1 + 1 + 1 + 1 + 1 + 1 + 1 + 1)) (nI_add (n + 1 + 1 + 1 + 1 + 1 + 1 + 1 + 1 + 1 + 1 + 1 + 1 + 1 + 1 + 1 + 1 + 1) 1) ?_
  refine va_put (D := D) (ci := 8) (v := .int (nI (n + 1 + 1 + 1 + 1 + 1 + 1 + 1 + 1 + 1 + 1 + 1 + 1 + 1 + 1 + 1 + 1 + 1 + 1))) (ty := .int) (C := R_Mo) (T := F_Mo) (N := 29) hx hb hts i_Mo t_Mo t_Mo_ok n_Mo hown hZ.1 hP hD hS 0 rfl rfl 1 (by decide) (hts _ fl_Mo_48) (fun _ h9 => h9) rfl (by decide +kernel) rfl rfl (Nat.le_of_ble_eq_true rfl) d_Mo_feed_111 (fun H locs hP hD hS => ?_)
  have hP : va_P D classes [(mo, .inr (8, [.int 0, .int (nI (n + 1 + 1 + 1 + 1 + 1 + 1 + 1 + 1 + 1 + 1 + 1 + 1 + 1 + 1 + 1 + 1 + 1 + 1)), .ref m_row, .ref m_shelves, .ref m_many, .ref m_widths, .int z_marks, .ref m_mark, .int z_shown, .ref m_shownMark, .int z_wasRun, .int z_wrong, .int z_ended, .int z_steps, .int z_hints, .int z_hasWidth, .int z_width, .int z_first, .int z_moved, .int z_deepest, .int z_x, .int z_y, .int z_top, .ref m_stack, .ref m_places, .int z_depth, .ref m_kinds, .ref m_ats, .ref m_ends])), (m_row, .inl (cI, 16384, .inl (upd (upd (upd (upd (upd (upd (upd (upd (upd (upd (upd (upd (upd (upd (upd (upd (upd (upd g_row n ((x1 >>> (24 &&& 31)) &&& 255)) (n + 1) ((x1 >>> (16 &&& 31)) &&& 255)) (n + 1 + 1) ((x1 >>> (8 &&& 31)) &&& 255)) (n + 1 + 1 + 1) ((x1 >>> (0 &&& 31)) &&& 255)) (n + 1 + 1 + 1 + 1) ((x2 >>> (24 &&& 31)) &&& 255)) (n + 1 + 1 + 1 + 1 + 1) ((x2 >>> (16 &&& 31)) &&& 255)) (n + 1 + 1 + 1 + 1 + 1 + 1) ((x2 >>> (8 &&& 31)) &&& 255)) (n + 1 + 1 + 1 + 1 + 1 + 1 + 1) ((x2 >>> (0 &&& 31)) &&& 255)) (n + 1 + 1 + 1 + 1 + 1 + 1 + 1 + 1) ((x3 >>> (24 &&& 31)) &&& 255)) (n + 1 + 1 + 1 + 1 + 1 + 1 + 1 + 1 + 1) ((x3 >>> (16 &&& 31)) &&& 255)) (n + 1 + 1 + 1 + 1 + 1 + 1 + 1 + 1 + 1 + 1) ((x3 >>> (8 &&& 31)) &&& 255)) (n + 1 + 1 + 1 + 1 + 1 + 1 + 1 + 1 + 1 + 1 + 1) ((x3 >>> (0 &&& 31)) &&& 255)) (n + 1 + 1 + 1 + 1 + 1 + 1 + 1 + 1 + 1 + 1 + 1 + 1) ((x4 >>> (24 &&& 31)) &&& 255)) (n + 1 + 1 + 1 + 1 + 1 + 1 + 1 + 1 + 1 + 1 + 1 + 1 + 1) ((x4 >>> (16 &&& 31)) &&& 255)) (n + 1 + 1 + 1 + 1 + 1 + 1 + 1 + 1 + 1 + 1 + 1 + 1 + 1 + 1) ((x4 >>> (8 &&& 31)) &&& 255)) (n + 1 + 1 + 1 + 1 + 1 + 1 + 1 + 1 + 1 + 1 + 1 + 1 + 1 + 1 + 1) ((x4 >>> (0 &&& 31)) &&& 255)) (n + 1 + 1 + 1 + 1 + 1 + 1 + 1 + 1 + 1 + 1 + 1 + 1 + 1 + 1 + 1 + 1) ((x5 >>> (24 &&& 31)) &&& 255)) (n + 1 + 1 + 1 + 1 + 1 + 1 + 1 + 1 + 1 + 1 + 1 + 1 + 1 + 1 + 1 + 1 + 1) ((x5 >>> (16 &&& 31)) &&& 255))))] H := hP
  have hD : va_D A_ [(mo, .inr (8, [.int 0, .int (nI (n + 1 + 1 + 1 + 1 + 1 + 1 + 1 + 1 + 1 + 1 + 1 + 1 + 1 + 1 + 1 + 1 + 1 + 1)), .ref m_row, .ref m_shelves, .ref m_many, .ref m_widths, .int z_marks, .ref m_mark, .int z_shown, .ref m_shownMark, .int z_wasRun, .int z_wrong, .int z_ended, .int z_steps, .int z_hints, .int z_hasWidth, .int z_width, .int z_first, .int z_moved, .int z_deepest, .int z_x, .int z_y, .int z_top, .ref m_stack, .ref m_places, .int z_depth, .ref m_kinds, .ref m_ats, .ref m_ends])), (m_row, .inl (cI, 16384, .inl (upd (upd (upd (upd (upd (upd (upd (upd (upd (upd (upd (upd (upd (upd (upd (upd (upd (upd g_row n ((x1 >>> (24 &&& 31)) &&& 255)) (n + 1) ((x1 >>> (16 &&& 31)) &&& 255)) (n + 1 + 1) ((x1 >>> (8 &&& 31)) &&& 255)) (n + 1 + 1 + 1) ((x1 >>> (0 &&& 31)) &&& 255)) (n + 1 + 1 + 1 + 1) ((x2 >>> (24 &&& 31)) &&& 255)) (n + 1 + 1 + 1 + 1 + 1) ((x2 >>> (16 &&& 31)) &&& 255)) (n + 1 + 1 + 1 + 1 + 1 + 1) ((x2 >>> (8 &&& 31)) &&& 255)) (n + 1 + 1 + 1 + 1 + 1 + 1 + 1) ((x2 >>> (0 &&& 31)) &&& 255)) (n + 1 + 1 + 1 + 1 + 1 + 1 + 1 + 1) ((x3 >>> (24 &&& 31)) &&& 255)) (n + 1 + 1 + 1 + 1 + 1 + 1 + 1 + 1 + 1) ((x3 >>> (16 &&& 31)) &&& 255)) (n + 1 + 1 + 1 + 1 + 1 + 1 + 1 + 1 + 1 + 1) ((x3 >>> (8 &&& 31)) &&& 255)) (n + 1 + 1 + 1 + 1 + 1 + 1 + 1 + 1 + 1 + 1 + 1) ((x3 >>> (0 &&& 31)) &&& 255)) (n + 1 + 1 + 1 + 1 + 1 + 1 + 1 + 1 + 1 + 1 + 1 + 1) ((x4 >>> (24 &&& 31)) &&& 255)) (n + 1 + 1 + 1 + 1 + 1 + 1 + 1 + 1 + 1 + 1 + 1 + 1 + 1) ((x4 >>> (16 &&& 31)) &&& 255)) (n + 1 + 1 + 1 + 1 + 1 + 1 + 1 + 1 + 1 + 1 + 1 + 1 + 1 + 1) ((x4 >>> (8 &&& 31)) &&& 255)) (n + 1 + 1 + 1 + 1 + 1 + 1 + 1 + 1 + 1 + 1 + 1 + 1 + 1 + 1 + 1) ((x4 >>> (0 &&& 31)) &&& 255)) (n + 1 + 1 + 1 + 1 + 1 + 1 + 1 + 1 + 1 + 1 + 1 + 1 + 1 + 1 + 1 + 1) ((x5 >>> (24 &&& 31)) &&& 255)) (n + 1 + 1 + 1 + 1 + 1 + 1 + 1 + 1 + 1 + 1 + 1 + 1 + 1 + 1 + 1 + 1 + 1) ((x5 >>> (16 &&& 31)) &&& 255))))] := hD
  refine lv_iinc (v := 18) (lv' := [(6, .int 18), (7, .int x5), (0, .ref mo), (1, .int x1), (2, .int x2), (3, .int x3), (4, .int x4), (5, .int x5)]) hx hb d_Mo_feed_114 hl (k := 1) rfl (by decide) (by decide) rfl (fun ls hl => ?_)
  refine lv_goto (tgt := 23) hx hb d_Mo_feed_117 (by decide) ?_
  refine lv_iload hx hb d_Mo_feed_23 (lv_at hl 0 rfl) ?_
  refine lv_bipush (v := 20) hx hb d_Mo_feed_25 (by decide) ?_
  refine lv_icmp_ge (tgt := 120) hx hb d_Mo_feed_27 (by decide) (fun c_27 => absurd c_27 (by decide)) (fun c_27 => ?_)
  clear c_27
  refine lv_iload hx hb d_Mo_feed_30 (lv_at hl 0 rfl) ?_
  refine lv_iconst (v := 4) hx hb d_Mo_feed_32 (by decide) ?_
  refine lv_icmp_ge (tgt := 40) hx hb d_Mo_feed_33 (by decide) (fun c_33 => ?_) (fun c_33 => absurd (by decide) c_33)
  clear c_33
  refine lv_iload hx hb d_Mo_feed_40 (lv_at hl 0 rfl) ?_
  refine lv_bipush (v := 8) hx hb d_Mo_feed_42 (by decide) ?_
  refine lv_icmp_ge (tgt := 51) hx hb d_Mo_feed_44 (by decide) (fun c_44 => ?_) (fun c_44 => absurd (by decide) c_44)
  clear c_44
  refine lv_iload hx hb d_Mo_feed_51 (lv_at hl 0 rfl) ?_
  refine lv_bipush (v := 12) hx hb d_Mo_feed_53 (by decide) ?_
  refine lv_icmp_ge (tgt := 62) hx hb d_Mo_feed_55 (by decide) (fun c_55 => ?_) (fun c_55 => absurd (by decide) c_55)
  clear c_55
  refine lv_iload hx hb d_Mo_feed_62 (lv_at hl 0 rfl) ?_
  refine lv_bipush (v := 16) hx hb d_Mo_feed_64 (by decide) ?_
  refine lv_icmp_ge (tgt := 74) hx hb d_Mo_feed_66 (by decide) (fun c_66 => ?_) (fun c_66 => absurd (by decide) c_66)
  clear c_66
  refine lv_iload hx hb d_Mo_feed_74 (lv_at hl 7 rfl) ?_
  refine lv_istore (lv' := [(7, .int x5), (6, .int 18), (0, .ref mo), (1, .int x1), (2, .int x2), (3, .int x3), (4, .int x4), (5, .int x5)]) hx hb d_Mo_feed_76 hl (by decide) rfl (fun ls hl => ?_)
  refine lv_aload_n hx hb d_Mo_feed_78 rfl (lv_at hl 2 rfl) ?_
  refine va_get (D := D) (ci := 8) (v := .ref m_row) (C := R_Mo) (T := F_Mo) (N := 29) hx hb hts i_Mo hown hZ.1 hP 0 rfl rfl 2 (by decide) (hts _ fl_Mo_7) (fun _ h9 => h9) rfl d_Mo_feed_79 ?_
  refine lv_aload_n hx hb d_Mo_feed_82 rfl (lv_at hl 2 rfl) ?_
  refine va_get (D := D) (ci := 8) (v := .int (nI (n + 1 + 1 + 1 + 1 + 1 + 1 + 1 + 1 + 1 + 1 + 1 + 1 + 1 + 1 + 1 + 1 + 1 + 1))) (C := R_Mo) (T := F_Mo) (N := 29) hx hb hts i_Mo hown hZ.1 hP 0 rfl rfl 1 (by decide) (hts _ fl_Mo_48) (fun _ h9 => h9) rfl d_Mo_feed_83 ?_
  refine lv_iload hx hb d_Mo_feed_86 (lv_at hl 0 rfl) ?_
  refine lv_bipush (v := 24) hx hb d_Mo_feed_88 (by decide) ?_
  refine lv_bipush (v := 8) hx hb d_Mo_feed_90 (by decide) ?_
  refine lv_iload hx hb d_Mo_feed_92 (lv_at hl 1 rfl) ?_
  refine lv_iconst (v := 4) hx hb d_Mo_feed_94 (by decide) ?_
  refine lv_irem hx hb d_Mo_feed_95 (by decide) ?_
  refine lv_tv (y := 2) (by decide) ?_
  refine lv_imul hx hb d_Mo_feed_96 ?_
  refine lv_tv (y := 16) (by decide) ?_
  refine lv_isub hx hb d_Mo_feed_97 ?_
  refine lv_tv (y := 8) (by decide) ?_
  refine lv_ishr hx hb d_Mo_feed_98 ?_
  refine lv_sipush (v := 255) hx hb d_Mo_feed_99 (by decide) ?_
  refine lv_iand hx hb d_Mo_feed_102 ?_
  refine va_iast hx hb hZ.1 hP hD hS 1 1 rfl rfl (vp_in_nI (by omega) (by omega)) d_Mo_feed_103 (fun H locs hP hD hS => ?_)
  rw [show ((nI (n + 1 + 1 + 1 + 1 + 1 + 1 + 1 + 1 + 1 + 1 + 1 + 1 + 1 + 1 + 1 + 1 + 1 + 1)).toNatClampNeg) = n + 1 + 1 + 1 + 1 + 1 + 1 + 1 + 1 + 1 + 1 + 1 + 1 + 1 + 1 + 1 + 1 + 1 + 1 from nI_clamp (by omega)] at hP hD
  have hP : va_P D classes [(mo, .inr (8, [.int 0, .int (nI (n + 1 + 1 + 1 + 1 + 1 + 1 + 1 + 1 + 1 + 1 + 1 + 1 + 1 + 1 + 1 + 1 + 1 + 1)), .ref m_row, .ref m_shelves, .ref m_many, .ref m_widths, .int z_marks, .ref m_mark, .int z_shown, .ref m_shownMark, .int z_wasRun, .int z_wrong, .int z_ended, .int z_steps, .int z_hints, .int z_hasWidth, .int z_width, .int z_first, .int z_moved, .int z_deepest, .int z_x, .int z_y, .int z_top, .ref m_stack, .ref m_places, .int z_depth, .ref m_kinds, .ref m_ats, .ref m_ends])), (m_row, .inl (cI, 16384, .inl (upd (upd (upd (upd (upd (upd (upd (upd (upd (upd (upd (upd (upd (upd (upd (upd (upd (upd (upd g_row n ((x1 >>> (24 &&& 31)) &&& 255)) (n + 1) ((x1 >>> (16 &&& 31)) &&& 255)) (n + 1 + 1) ((x1 >>> (8 &&& 31)) &&& 255)) (n + 1 + 1 + 1) ((x1 >>> (0 &&& 31)) &&& 255)) (n + 1 + 1 + 1 + 1) ((x2 >>> (24 &&& 31)) &&& 255)) (n + 1 + 1 + 1 + 1 + 1) ((x2 >>> (16 &&& 31)) &&& 255)) (n + 1 + 1 + 1 + 1 + 1 + 1) ((x2 >>> (8 &&& 31)) &&& 255)) (n + 1 + 1 + 1 + 1 + 1 + 1 + 1) ((x2 >>> (0 &&& 31)) &&& 255)) (n + 1 + 1 + 1 + 1 + 1 + 1 + 1 + 1) ((x3 >>> (24 &&& 31)) &&& 255)) (n + 1 + 1 + 1 + 1 + 1 + 1 + 1 + 1 + 1) ((x3 >>> (16 &&& 31)) &&& 255)) (n + 1 + 1 + 1 + 1 + 1 + 1 + 1 + 1 + 1 + 1) ((x3 >>> (8 &&& 31)) &&& 255)) (n + 1 + 1 + 1 + 1 + 1 + 1 + 1 + 1 + 1 + 1 + 1) ((x3 >>> (0 &&& 31)) &&& 255)) (n + 1 + 1 + 1 + 1 + 1 + 1 + 1 + 1 + 1 + 1 + 1 + 1) ((x4 >>> (24 &&& 31)) &&& 255)) (n + 1 + 1 + 1 + 1 + 1 + 1 + 1 + 1 + 1 + 1 + 1 + 1 + 1) ((x4 >>> (16 &&& 31)) &&& 255)) (n + 1 + 1 + 1 + 1 + 1 + 1 + 1 + 1 + 1 + 1 + 1 + 1 + 1 + 1) ((x4 >>> (8 &&& 31)) &&& 255)) (n + 1 + 1 + 1 + 1 + 1 + 1 + 1 + 1 + 1 + 1 + 1 + 1 + 1 + 1 + 1) ((x4 >>> (0 &&& 31)) &&& 255)) (n + 1 + 1 + 1 + 1 + 1 + 1 + 1 + 1 + 1 + 1 + 1 + 1 + 1 + 1 + 1 + 1) ((x5 >>> (24 &&& 31)) &&& 255)) (n + 1 + 1 + 1 + 1 + 1 + 1 + 1 + 1 + 1 + 1 + 1 + 1 + 1 + 1 + 1 + 1 + 1) ((x5 >>> (16 &&& 31)) &&& 255)) (n + 1 + 1 + 1 + 1 + 1 + 1 + 1 + 1 + 1 + 1 + 1 + 1 + 1 + 1 + 1 + 1 + 1 + 1) ((x5 >>> (8 &&& 31)) &&& 255))))] H := hP
  have hD : va_D A_ [(mo, .inr (8, [.int 0, .int (nI (n + 1 + 1 + 1 + 1 + 1 + 1 + 1 + 1 + 1 + 1 + 1 + 1 + 1 + 1 + 1 + 1 + 1 + 1)), .ref m_row, .ref m_shelves, .ref m_many, .ref m_widths, .int z_marks, .ref m_mark, .int z_shown, .ref m_shownMark, .int z_wasRun, .int z_wrong, .int z_ended, .int z_steps, .int z_hints, .int z_hasWidth, .int z_width, .int z_first, .int z_moved, .int z_deepest, .int z_x, .int z_y, .int z_top, .ref m_stack, .ref m_places, .int z_depth, .ref m_kinds, .ref m_ats, .ref m_ends])), (m_row, .inl (cI, 16384, .inl (upd (upd (upd (upd (upd (upd (upd (upd (upd (upd (upd (upd (upd (upd (upd (upd (upd (upd (upd g_row n ((x1 >>> (24 &&& 31)) &&& 255)) (n + 1) ((x1 >>> (16 &&& 31)) &&& 255)) (n + 1 + 1) ((x1 >>> (8 &&& 31)) &&& 255)) (n + 1 + 1 + 1) ((x1 >>> (0 &&& 31)) &&& 255)) (n + 1 + 1 + 1 + 1) ((x2 >>> (24 &&& 31)) &&& 255)) (n + 1 + 1 + 1 + 1 + 1) ((x2 >>> (16 &&& 31)) &&& 255)) (n + 1 + 1 + 1 + 1 + 1 + 1) ((x2 >>> (8 &&& 31)) &&& 255)) (n + 1 + 1 + 1 + 1 + 1 + 1 + 1) ((x2 >>> (0 &&& 31)) &&& 255)) (n + 1 + 1 + 1 + 1 + 1 + 1 + 1 + 1) ((x3 >>> (24 &&& 31)) &&& 255)) (n + 1 + 1 + 1 + 1 + 1 + 1 + 1 + 1 + 1) ((x3 >>> (16 &&& 31)) &&& 255)) (n + 1 + 1 + 1 + 1 + 1 + 1 + 1 + 1 + 1 + 1) ((x3 >>> (8 &&& 31)) &&& 255)) (n + 1 + 1 + 1 + 1 + 1 + 1 + 1 + 1 + 1 + 1 + 1) ((x3 >>> (0 &&& 31)) &&& 255)) (n + 1 + 1 + 1 + 1 + 1 + 1 + 1 + 1 + 1 + 1 + 1 + 1) ((x4 >>> (24 &&& 31)) &&& 255)) (n + 1 + 1 + 1 + 1 + 1 + 1 + 1 + 1 + 1 + 1 + 1 + 1 + 1) ((x4 >>> (16 &&& 31)) &&& 255)) (n + 1 + 1 + 1 + 1 + 1 + 1 + 1 + 1 + 1 + 1 + 1 + 1 + 1 + 1) ((x4 >>> (8 &&& 31)) &&& 255)) (n + 1 + 1 + 1 + 1 + 1 + 1 + 1 + 1 + 1 + 1 + 1 + 1 + 1 + 1 + 1) ((x4 >>> (0 &&& 31)) &&& 255)) (n + 1 + 1 + 1 + 1 + 1 + 1 + 1 + 1 + 1 + 1 + 1 + 1 + 1 + 1 + 1 + 1) ((x5 >>> (24 &&& 31)) &&& 255)) (n + 1 + 1 + 1 + 1 + 1 + 1 + 1 + 1 + 1 + 1 + 1 + 1 + 1 + 1 + 1 + 1 + 1) ((x5 >>> (16 &&& 31)) &&& 255)) (n + 1 + 1 + 1 + 1 + 1 + 1 + 1 + 1 + 1 + 1 + 1 + 1 + 1 + 1 + 1 + 1 + 1 + 1) ((x5 >>> (8 &&& 31)) &&& 255))))] := hD
  refine lv_aload_n hx hb d_Mo_feed_104 rfl (lv_at hl 2 rfl) ?_
  refine lv_dup hx hb d_Mo_feed_105 rfl ?_
  refine va_get (D := D) (ci := 8) (v := .int (nI (n + 1 + 1 + 1 + 1 + 1 + 1 + 1 + 1 + 1 + 1 + 1 + 1 + 1 + 1 + 1 + 1 + 1 + 1))) (C := R_Mo) (T := F_Mo) (N := 29) hx hb hts i_Mo hown hZ.1 hP 0 rfl rfl 1 (by decide) (hts _ fl_Mo_48) (fun _ h9 => h9) rfl d_Mo_feed_106 ?_
  refine lv_iconst (v := 1) hx hb d_Mo_feed_109 (by decide) ?_
  refine lv_iadd hx hb d_Mo_feed_110 ?_
  refine lv_tv (y := nI (n + 1 + 1 + 1 + 1 + 1 + 1 + 1 + 1 + 1 + 1 + 1 + 1 + 1 + 1 + 1 + 1 + 1 + 1 + 1)) (nI_add (n + 1 + 1 + 1 + 1 + 1 + 1 + 1 + 1 + 1 + 1 + 1 + 1 + 1 + 1 + 1 + 1 + 1 + 1) 1) ?_
  refine va_put (D := D) (ci := 8) (v := .int (nI (n + 1 + 1 + 1 + 1 + 1 + 1 + 1 + 1 + 1 + 1 + 1 + 1 + 1 + 1 + 1 + 1 + 1 + 1 + 1))) (ty := .int) (C := R_Mo) (T := F_Mo) (N := 29) hx hb hts i_Mo t_Mo t_Mo_ok n_Mo hown hZ.1 hP hD hS 0 rfl rfl 1 (by decide) (hts _ fl_Mo_48) (fun _ h9 => h9) rfl (by decide +kernel) rfl rfl (Nat.le_of_ble_eq_true rfl) d_Mo_feed_111 (fun H locs hP hD hS => ?_)
  have hP : va_P D classes [(mo, .inr (8, [.int 0, .int (nI (n + 1 + 1 + 1 + 1 + 1 + 1 + 1 + 1 + 1 + 1 + 1 + 1 + 1 + 1 + 1 + 1 + 1 + 1 + 1)), .ref m_row, .ref m_shelves, .ref m_many, .ref m_widths, .int z_marks, .ref m_mark, .int z_shown, .ref m_shownMark, .int z_wasRun, .int z_wrong, .int z_ended, .int z_steps, .int z_hints, .int z_hasWidth, .int z_width, .int z_first, .int z_moved, .int z_deepest, .int z_x, .int z_y, .int z_top, .ref m_stack, .ref m_places, .int z_depth, .ref m_kinds, .ref m_ats, .ref m_ends])), (m_row, .inl (cI, 16384, .inl (upd (upd (upd (upd (upd (upd (upd (upd (upd (upd (upd (upd (upd (upd (upd (upd (upd (upd (upd g_row n ((x1 >>> (24 &&& 31)) &&& 255)) (n + 1) ((x1 >>> (16 &&& 31)) &&& 255)) (n + 1 + 1) ((x1 >>> (8 &&& 31)) &&& 255)) (n + 1 + 1 + 1) ((x1 >>> (0 &&& 31)) &&& 255)) (n + 1 + 1 + 1 + 1) ((x2 >>> (24 &&& 31)) &&& 255)) (n + 1 + 1 + 1 + 1 + 1) ((x2 >>> (16 &&& 31)) &&& 255)) (n + 1 + 1 + 1 + 1 + 1 + 1) ((x2 >>> (8 &&& 31)) &&& 255)) (n + 1 + 1 + 1 + 1 + 1 + 1 + 1) ((x2 >>> (0 &&& 31)) &&& 255)) (n + 1 + 1 + 1 + 1 + 1 + 1 + 1 + 1) ((x3 >>> (24 &&& 31)) &&& 255)) (n + 1 + 1 + 1 + 1 + 1 + 1 + 1 + 1 + 1) ((x3 >>> (16 &&& 31)) &&& 255)) (n + 1 + 1 + 1 + 1 + 1 + 1 + 1 + 1 + 1 + 1) ((x3 >>> (8 &&& 31)) &&& 255)) (n + 1 + 1 + 1 + 1 + 1 + 1 + 1 + 1 + 1 + 1 + 1) ((x3 >>> (0 &&& 31)) &&& 255)) (n + 1 + 1 + 1 + 1 + 1 + 1 + 1 + 1 + 1 + 1 + 1 + 1) ((x4 >>> (24 &&& 31)) &&& 255)) (n + 1 + 1 + 1 + 1 + 1 + 1 + 1 + 1 + 1 + 1 + 1 + 1 + 1) ((x4 >>> (16 &&& 31)) &&& 255)) (n + 1 + 1 + 1 + 1 + 1 + 1 + 1 + 1 + 1 + 1 + 1 + 1 + 1 + 1) ((x4 >>> (8 &&& 31)) &&& 255)) (n + 1 + 1 + 1 + 1 + 1 + 1 + 1 + 1 + 1 + 1 + 1 + 1 + 1 + 1 + 1) ((x4 >>> (0 &&& 31)) &&& 255)) (n + 1 + 1 + 1 + 1 + 1 + 1 + 1 + 1 + 1 + 1 + 1 + 1 + 1 + 1 + 1 + 1) ((x5 >>> (24 &&& 31)) &&& 255)) (n + 1 + 1 + 1 + 1 + 1 + 1 + 1 + 1 + 1 + 1 + 1 + 1 + 1 + 1 + 1 + 1 + 1) ((x5 >>> (16 &&& 31)) &&& 255)) (n + 1 + 1 + 1 + 1 + 1 + 1 + 1 + 1 + 1 + 1 + 1 + 1 + 1 + 1 + 1 + 1 + 1 + 1) ((x5 >>> (8 &&& 31)) &&& 255))))] H := hP
  have hD : va_D A_ [(mo, .inr (8, [.int 0, .int (nI (n + 1 + 1 + 1 + 1 + 1 + 1 + 1 + 1 + 1 + 1 + 1 + 1 + 1 + 1 + 1 + 1 + 1 + 1 + 1)), .ref m_row, .ref m_shelves, .ref m_many, .ref m_widths, .int z_marks, .ref m_mark, .int z_shown, .ref m_shownMark, .int z_wasRun, .int z_wrong, .int z_ended, .int z_steps, .int z_hints, .int z_hasWidth, .int z_width, .int z_first, .int z_moved, .int z_deepest, .int z_x, .int z_y, .int z_top, .ref m_stack, .ref m_places, .int z_depth, .ref m_kinds, .ref m_ats, .ref m_ends])), (m_row, .inl (cI, 16384, .inl (upd (upd (upd (upd (upd (upd (upd (upd (upd (upd (upd (upd (upd (upd (upd (upd (upd (upd (upd g_row n ((x1 >>> (24 &&& 31)) &&& 255)) (n + 1) ((x1 >>> (16 &&& 31)) &&& 255)) (n + 1 + 1) ((x1 >>> (8 &&& 31)) &&& 255)) (n + 1 + 1 + 1) ((x1 >>> (0 &&& 31)) &&& 255)) (n + 1 + 1 + 1 + 1) ((x2 >>> (24 &&& 31)) &&& 255)) (n + 1 + 1 + 1 + 1 + 1) ((x2 >>> (16 &&& 31)) &&& 255)) (n + 1 + 1 + 1 + 1 + 1 + 1) ((x2 >>> (8 &&& 31)) &&& 255)) (n + 1 + 1 + 1 + 1 + 1 + 1 + 1) ((x2 >>> (0 &&& 31)) &&& 255)) (n + 1 + 1 + 1 + 1 + 1 + 1 + 1 + 1) ((x3 >>> (24 &&& 31)) &&& 255)) (n + 1 + 1 + 1 + 1 + 1 + 1 + 1 + 1 + 1) ((x3 >>> (16 &&& 31)) &&& 255)) (n + 1 + 1 + 1 + 1 + 1 + 1 + 1 + 1 + 1 + 1) ((x3 >>> (8 &&& 31)) &&& 255)) (n + 1 + 1 + 1 + 1 + 1 + 1 + 1 + 1 + 1 + 1 + 1) ((x3 >>> (0 &&& 31)) &&& 255)) (n + 1 + 1 + 1 + 1 + 1 + 1 + 1 + 1 + 1 + 1 + 1 + 1) ((x4 >>> (24 &&& 31)) &&& 255)) (n + 1 + 1 + 1 + 1 + 1 + 1 + 1 + 1 + 1 + 1 + 1 + 1 + 1) ((x4 >>> (16 &&& 31)) &&& 255)) (n + 1 + 1 + 1 + 1 + 1 + 1 + 1 + 1 + 1 + 1 + 1 + 1 + 1 + 1) ((x4 >>> (8 &&& 31)) &&& 255)) (n + 1 + 1 + 1 + 1 + 1 + 1 + 1 + 1 + 1 + 1 + 1 + 1 + 1 + 1 + 1) ((x4 >>> (0 &&& 31)) &&& 255)) (n + 1 + 1 + 1 + 1 + 1 + 1 + 1 + 1 + 1 + 1 + 1 + 1 + 1 + 1 + 1 + 1) ((x5 >>> (24 &&& 31)) &&& 255)) (n + 1 + 1 + 1 + 1 + 1 + 1 + 1 + 1 + 1 + 1 + 1 + 1 + 1 + 1 + 1 + 1 + 1) ((x5 >>> (16 &&& 31)) &&& 255)) (n + 1 + 1 + 1 + 1 + 1 + 1 + 1 + 1 + 1 + 1 + 1 + 1 + 1 + 1 + 1 + 1 + 1 + 1) ((x5 >>> (8 &&& 31)) &&& 255))))] := hD
  refine lv_iinc (v := 19) (lv' := [(6, .int 19), (7, .int x5), (0, .ref mo), (1, .int x1), (2, .int x2), (3, .int x3), (4, .int x4), (5, .int x5)]) hx hb d_Mo_feed_114 hl (k := 1) rfl (by decide) (by decide) rfl (fun ls hl => ?_)
  refine lv_goto (tgt := 23) hx hb d_Mo_feed_117 (by decide) ?_
  refine lv_iload hx hb d_Mo_feed_23 (lv_at hl 0 rfl) ?_
  refine lv_bipush (v := 20) hx hb d_Mo_feed_25 (by decide) ?_
  refine lv_icmp_ge (tgt := 120) hx hb d_Mo_feed_27 (by decide) (fun c_27 => absurd c_27 (by decide)) (fun c_27 => ?_)
  clear c_27
  refine lv_iload hx hb d_Mo_feed_30 (lv_at hl 0 rfl) ?_
  refine lv_iconst (v := 4) hx hb d_Mo_feed_32 (by decide) ?_
  refine lv_icmp_ge (tgt := 40) hx hb d_Mo_feed_33 (by decide) (fun c_33 => ?_) (fun c_33 => absurd (by decide) c_33)
  clear c_33
  refine lv_iload hx hb d_Mo_feed_40 (lv_at hl 0 rfl) ?_
  refine lv_bipush (v := 8) hx hb d_Mo_feed_42 (by decide) ?_
  refine lv_icmp_ge (tgt := 51) hx hb d_Mo_feed_44 (by decide) (fun c_44 => ?_) (fun c_44 => absurd (by decide) c_44)
  clear c_44
  refine lv_iload hx hb d_Mo_feed_51 (lv_at hl 0 rfl) ?_
  refine lv_bipush (v := 12) hx hb d_Mo_feed_53 (by decide) ?_
  refine lv_icmp_ge (tgt := 62) hx hb d_Mo_feed_55 (by decide) (fun c_55 => ?_) (fun c_55 => absurd (by decide) c_55)
  clear c_55
  refine lv_iload hx hb d_Mo_feed_62 (lv_at hl 0 rfl) ?_
  refine lv_bipush (v := 16) hx hb d_Mo_feed_64 (by decide) ?_
  refine lv_icmp_ge (tgt := 74) hx hb d_Mo_feed_66 (by decide) (fun c_66 => ?_) (fun c_66 => absurd (by decide) c_66)
  clear c_66
  refine lv_iload hx hb d_Mo_feed_74 (lv_at hl 7 rfl) ?_
  refine lv_istore (lv' := [(7, .int x5), (6, .int 19), (0, .ref mo), (1, .int x1), (2, .int x2), (3, .int x3), (4, .int x4), (5, .int x5)]) hx hb d_Mo_feed_76 hl (by decide) rfl (fun ls hl => ?_)
  refine lv_aload_n hx hb d_Mo_feed_78 rfl (lv_at hl 2 rfl) ?_
  refine va_get (D := D) (ci := 8) (v := .ref m_row) (C := R_Mo) (T := F_Mo) (N := 29) hx hb hts i_Mo hown hZ.1 hP 0 rfl rfl 2 (by decide) (hts _ fl_Mo_7) (fun _ h9 => h9) rfl d_Mo_feed_79 ?_
  refine lv_aload_n hx hb d_Mo_feed_82 rfl (lv_at hl 2 rfl) ?_
  refine va_get (D := D) (ci := 8) (v := .int (nI (n + 1 + 1 + 1 + 1 + 1 + 1 + 1 + 1 + 1 + 1 + 1 + 1 + 1 + 1 + 1 + 1 + 1 + 1 + 1))) (C := R_Mo) (T := F_Mo) (N := 29) hx hb hts i_Mo hown hZ.1 hP 0 rfl rfl 1 (by decide) (hts _ fl_Mo_48) (fun _ h9 => h9) rfl d_Mo_feed_83 ?_
  refine lv_iload hx hb d_Mo_feed_86 (lv_at hl 0 rfl) ?_
  refine lv_bipush (v := 24) hx hb d_Mo_feed_88 (by decide) ?_
  refine lv_bipush (v := 8) hx hb d_Mo_feed_90 (by decide) ?_
  refine lv_iload hx hb d_Mo_feed_92 (lv_at hl 1 rfl) ?_
  refine lv_iconst (v := 4) hx hb d_Mo_feed_94 (by decide) ?_
  refine lv_irem hx hb d_Mo_feed_95 (by decide) ?_
  refine lv_tv (y := 3) (by decide) ?_
  refine lv_imul hx hb d_Mo_feed_96 ?_
  refine lv_tv (y := 24) (by decide) ?_
  refine lv_isub hx hb d_Mo_feed_97 ?_
  refine lv_tv (y := 0) (by decide) ?_
  refine lv_ishr hx hb d_Mo_feed_98 ?_
  refine lv_sipush (v := 255) hx hb d_Mo_feed_99 (by decide) ?_
  refine lv_iand hx hb d_Mo_feed_102 ?_
  refine va_iast hx hb hZ.1 hP hD hS 1 1 rfl rfl (vp_in_nI (by omega) (by omega)) d_Mo_feed_103 (fun H locs hP hD hS => ?_)
  rw [show ((nI (n + 1 + 1 + 1 + 1 + 1 + 1 + 1 + 1 + 1 + 1 + 1 + 1 + 1 + 1 + 1 + 1 + 1 + 1 + 1)).toNatClampNeg) = n + 1 + 1 + 1 + 1 + 1 + 1 + 1 + 1 + 1 + 1 + 1 + 1 + 1 + 1 + 1 + 1 + 1 + 1 + 1 from nI_clamp (by omega)] at hP hD
  have hP : va_P D classes [(mo, .inr (8, [.int 0, .int (nI (n + 1 + 1 + 1 + 1 + 1 + 1 + 1 + 1 + 1 + 1 + 1 + 1 + 1 + 1 + 1 + 1 + 1 + 1 + 1)), .ref m_row, .ref m_shelves, .ref m_many, .ref m_widths, .int z_marks, .ref m_mark, .int z_shown, .ref m_shownMark, .int z_wasRun, .int z_wrong, .int z_ended, .int z_steps, .int z_hints, .int z_hasWidth, .int z_width, .int z_first, .int z_moved, .int z_deepest, .int z_x, .int z_y, .int z_top, .ref m_stack, .ref m_places, .int z_depth, .ref m_kinds, .ref m_ats, .ref m_ends])), (m_row, .inl (cI, 16384, .inl (upd (upd (upd (upd (upd (upd (upd (upd (upd (upd (upd (upd (upd (upd (upd (upd (upd (upd (upd (upd g_row n ((x1 >>> (24 &&& 31)) &&& 255)) (n + 1) ((x1 >>> (16 &&& 31)) &&& 255)) (n + 1 + 1) ((x1 >>> (8 &&& 31)) &&& 255)) (n + 1 + 1 + 1) ((x1 >>> (0 &&& 31)) &&& 255)) (n + 1 + 1 + 1 + 1) ((x2 >>> (24 &&& 31)) &&& 255)) (n + 1 + 1 + 1 + 1 + 1) ((x2 >>> (16 &&& 31)) &&& 255)) (n + 1 + 1 + 1 + 1 + 1 + 1) ((x2 >>> (8 &&& 31)) &&& 255)) (n + 1 + 1 + 1 + 1 + 1 + 1 + 1) ((x2 >>> (0 &&& 31)) &&& 255)) (n + 1 + 1 + 1 + 1 + 1 + 1 + 1 + 1) ((x3 >>> (24 &&& 31)) &&& 255)) (n + 1 + 1 + 1 + 1 + 1 + 1 + 1 + 1 + 1) ((x3 >>> (16 &&& 31)) &&& 255)) (n + 1 + 1 + 1 + 1 + 1 + 1 + 1 + 1 + 1 + 1) ((x3 >>> (8 &&& 31)) &&& 255)) (n + 1 + 1 + 1 + 1 + 1 + 1 + 1 + 1 + 1 + 1 + 1) ((x3 >>> (0 &&& 31)) &&& 255)) (n + 1 + 1 + 1 + 1 + 1 + 1 + 1 + 1 + 1 + 1 + 1 + 1) ((x4 >>> (24 &&& 31)) &&& 255)) (n + 1 + 1 + 1 + 1 + 1 + 1 + 1 + 1 + 1 + 1 + 1 + 1 + 1) ((x4 >>> (16 &&& 31)) &&& 255)) (n + 1 + 1 + 1 + 1 + 1 + 1 + 1 + 1 + 1 + 1 + 1 + 1 + 1 + 1) ((x4 >>> (8 &&& 31)) &&& 255)) (n + 1 + 1 + 1 + 1 + 1 + 1 + 1 + 1 + 1 + 1 + 1 + 1 + 1 + 1 + 1) ((x4 >>> (0 &&& 31)) &&& 255)) (n + 1 + 1 + 1 + 1 + 1 + 1 + 1 + 1 + 1 + 1 + 1 + 1 + 1 + 1 + 1 + 1) ((x5 >>> (24 &&& 31)) &&& 255)) (n + 1 + 1 + 1 + 1 + 1 + 1 + 1 + 1 + 1 + 1 + 1 + 1 + 1 + 1 + 1 + 1 + 1) ((x5 >>> (16 &&& 31)) &&& 255)) (n + 1 + 1 + 1 + 1 + 1 + 1 + 1 + 1 + 1 + 1 + 1 + 1 + 1 + 1 + 1 + 1 + 1 + 1) ((x5 >>> (8 &&& 31)) &&& 255)) (n + 1 + 1 + 1 + 1 + 1 + 1 + 1 + 1 + 1 + 1 + 1 + 1 + 1 + 1 + 1 + 1 + 1 + 1 + 1) ((x5 >>> (0 &&& 31)) &&& 255))))] H := hP
  have hD : va_D A_ [(mo, .inr (8, [.int 0, .int (nI (n + 1 + 1 + 1 + 1 + 1 + 1 + 1 + 1 + 1 + 1 + 1 + 1 + 1 + 1 + 1 + 1 + 1 + 1 + 1)), .ref m_row, .ref m_shelves, .ref m_many, .ref m_widths, .int z_marks, .ref m_mark, .int z_shown, .ref m_shownMark, .int z_wasRun, .int z_wrong, .int z_ended, .int z_steps, .int z_hints, .int z_hasWidth, .int z_width, .int z_first, .int z_moved, .int z_deepest, .int z_x, .int z_y, .int z_top, .ref m_stack, .ref m_places, .int z_depth, .ref m_kinds, .ref m_ats, .ref m_ends])), (m_row, .inl (cI, 16384, .inl (upd (upd (upd (upd (upd (upd (upd (upd (upd (upd (upd (upd (upd (upd (upd (upd (upd (upd (upd (upd g_row n ((x1 >>> (24 &&& 31)) &&& 255)) (n + 1) ((x1 >>> (16 &&& 31)) &&& 255)) (n + 1 + 1) ((x1 >>> (8 &&& 31)) &&& 255)) (n + 1 + 1 + 1) ((x1 >>> (0 &&& 31)) &&& 255)) (n + 1 + 1 + 1 + 1) ((x2 >>> (24 &&& 31)) &&& 255)) (n + 1 + 1 + 1 + 1 + 1) ((x2 >>> (16 &&& 31)) &&& 255)) (n + 1 + 1 + 1 + 1 + 1 + 1) ((x2 >>> (8 &&& 31)) &&& 255)) (n + 1 + 1 + 1 + 1 + 1 + 1 + 1) ((x2 >>> (0 &&& 31)) &&& 255)) (n + 1 + 1 + 1 + 1 + 1 + 1 + 1 + 1) ((x3 >>> (24 &&& 31)) &&& 255)) (n + 1 + 1 + 1 + 1 + 1 + 1 + 1 + 1 + 1) ((x3 >>> (16 &&& 31)) &&& 255)) (n + 1 + 1 + 1 + 1 + 1 + 1 + 1 + 1 + 1 + 1) ((x3 >>> (8 &&& 31)) &&& 255)) (n + 1 + 1 + 1 + 1 + 1 + 1 + 1 + 1 + 1 + 1 + 1) ((x3 >>> (0 &&& 31)) &&& 255)) (n + 1 + 1 + 1 + 1 + 1 + 1 + 1 + 1 + 1 + 1 + 1 + 1) ((x4 >>> (24 &&& 31)) &&& 255)) (n + 1 + 1 + 1 + 1 + 1 + 1 + 1 + 1 + 1 + 1 + 1 + 1 + 1) ((x4 >>> (16 &&& 31)) &&& 255)) (n + 1 + 1 + 1 + 1 + 1 + 1 + 1 + 1 + 1 + 1 + 1 + 1 + 1 + 1) ((x4 >>> (8 &&& 31)) &&& 255)) (n + 1 + 1 + 1 + 1 + 1 + 1 + 1 + 1 + 1 + 1 + 1 + 1 + 1 + 1 + 1) ((x4 >>> (0 &&& 31)) &&& 255)) (n + 1 + 1 + 1 + 1 + 1 + 1 + 1 + 1 + 1 + 1 + 1 + 1 + 1 + 1 + 1 + 1) ((x5 >>> (24 &&& 31)) &&& 255)) (n + 1 + 1 + 1 + 1 + 1 + 1 + 1 + 1 + 1 + 1 + 1 + 1 + 1 + 1 + 1 + 1 + 1) ((x5 >>> (16 &&& 31)) &&& 255)) (n + 1 + 1 + 1 + 1 + 1 + 1 + 1 + 1 + 1 + 1 + 1 + 1 + 1 + 1 + 1 + 1 + 1 + 1) ((x5 >>> (8 &&& 31)) &&& 255)) (n + 1 + 1 + 1 + 1 + 1 + 1 + 1 + 1 + 1 + 1 + 1 + 1 + 1 + 1 + 1 + 1 + 1 + 1 + 1) ((x5 >>> (0 &&& 31)) &&& 255))))] := hD
  refine lv_aload_n hx hb d_Mo_feed_104 rfl (lv_at hl 2 rfl) ?_
  refine lv_dup hx hb d_Mo_feed_105 rfl ?_
  refine va_get (D := D) (ci := 8) (v := .int (nI (n + 1 + 1 + 1 + 1 + 1 + 1 + 1 + 1 + 1 + 1 + 1 + 1 + 1 + 1 + 1 + 1 + 1 + 1 + 1))) (C := R_Mo) (T := F_Mo) (N := 29) hx hb hts i_Mo hown hZ.1 hP 0 rfl rfl 1 (by decide) (hts _ fl_Mo_48) (fun _ h9 => h9) rfl d_Mo_feed_106 ?_
  refine lv_iconst (v := 1) hx hb d_Mo_feed_109 (by decide) ?_
  refine lv_iadd hx hb d_Mo_feed_110 ?_
  refine lv_tv (y := nI (n + 1 + 1 + 1 + 1 + 1 + 1 + 1 + 1 + 1 + 1 + 1 + 1 + 1 + 1 + 1 + 1 + 1 + 1 + 1 + 1)) (nI_add (n + 1 + 1 + 1 + 1 + 1 + 1 + 1 + 1 + 1 + 1 + 1 + 1 + 1 + 1 + 1 + 1 + 1 + 1 + 1) 1) ?_
  refine va_put (D := D) (ci := 8) (v := .int (nI (n + 1 + 1 + 1 + 1 + 1 + 1 + 1 + 1 + 1 + 1 + 1 + 1 + 1 + 1 + 1 + 1 + 1 + 1 + 1 + 1))) (ty := .int) (C := R_Mo) (T := F_Mo) (N := 29) hx hb hts i_Mo t_Mo t_Mo_ok n_Mo hown hZ.1 hP hD hS 0 rfl rfl 1 (by decide) (hts _ fl_Mo_48) (fun _ h9 => h9) rfl (by decide +kernel) rfl rfl (Nat.le_of_ble_eq_true rfl) d_Mo_feed_111 (fun H locs hP hD hS => ?_)
  have hP : va_P D classes [(mo, .inr (8, [.int 0, .int (nI (n + 1 + 1 + 1 + 1 + 1 + 1 + 1 + 1 + 1 + 1 + 1 + 1 + 1 + 1 + 1 + 1 + 1 + 1 + 1 + 1)), .ref m_row, .ref m_shelves, .ref m_many, .ref m_widths, .int z_marks, .ref m_mark, .int z_shown, .ref m_shownMark, .int z_wasRun, .int z_wrong, .int z_ended, .int z_steps, .int z_hints, .int z_hasWidth, .int z_width, .int z_first, .int z_moved, .int z_deepest, .int z_x, .int z_y, .int z_top, .ref m_stack, .ref m_places, .int z_depth, .ref m_kinds, .ref m_ats, .ref m_ends])), (m_row, .inl (cI, 16384, .inl (upd (upd (upd (upd (upd (upd (upd (upd (upd (upd (upd (upd (upd (upd (upd (upd (upd (upd (upd (upd g_row n ((x1 >>> (24 &&& 31)) &&& 255)) (n + 1) ((x1 >>> (16 &&& 31)) &&& 255)) (n + 1 + 1) ((x1 >>> (8 &&& 31)) &&& 255)) (n + 1 + 1 + 1) ((x1 >>> (0 &&& 31)) &&& 255)) (n + 1 + 1 + 1 + 1) ((x2 >>> (24 &&& 31)) &&& 255)) (n + 1 + 1 + 1 + 1 + 1) ((x2 >>> (16 &&& 31)) &&& 255)) (n + 1 + 1 + 1 + 1 + 1 + 1) ((x2 >>> (8 &&& 31)) &&& 255)) (n + 1 + 1 + 1 + 1 + 1 + 1 + 1) ((x2 >>> (0 &&& 31)) &&& 255)) (n + 1 + 1 + 1 + 1 + 1 + 1 + 1 + 1) ((x3 >>> (24 &&& 31)) &&& 255)) (n + 1 + 1 + 1 + 1 + 1 + 1 + 1 + 1 + 1) ((x3 >>> (16 &&& 31)) &&& 255)) (n + 1 + 1 + 1 + 1 + 1 + 1 + 1 + 1 + 1 + 1) ((x3 >>> (8 &&& 31)) &&& 255)) (n + 1 + 1 + 1 + 1 + 1 + 1 + 1 + 1 + 1 + 1 + 1) ((x3 >>> (0 &&& 31)) &&& 255)) (n + 1 + 1 + 1 + 1 + 1 + 1 + 1 + 1 + 1 + 1 + 1 + 1) ((x4 >>> (24 &&& 31)) &&& 255)) (n + 1 + 1 + 1 + 1 + 1 + 1 + 1 + 1 + 1 + 1 + 1 + 1 + 1) ((x4 >>> (16 &&& 31)) &&& 255)) (n + 1 + 1 + 1 + 1 + 1 + 1 + 1 + 1 + 1 + 1 + 1 + 1 + 1 + 1) ((x4 >>> (8 &&& 31)) &&& 255)) (n + 1 + 1 + 1 + 1 + 1 + 1 + 1 + 1 + 1 + 1 + 1 + 1 + 1 + 1 + 1) ((x4 >>> (0 &&& 31)) &&& 255)) (n + 1 + 1 + 1 + 1 + 1 + 1 + 1 + 1 + 1 + 1 + 1 + 1 + 1 + 1 + 1 + 1) ((x5 >>> (24 &&& 31)) &&& 255)) (n + 1 + 1 + 1 + 1 + 1 + 1 + 1 + 1 + 1 + 1 + 1 + 1 + 1 + 1 + 1 + 1 + 1) ((x5 >>> (16 &&& 31)) &&& 255)) (n + 1 + 1 + 1 + 1 + 1 + 1 + 1 + 1 + 1 + 1 + 1 + 1 + 1 + 1 + 1 + 1 + 1 + 1) ((x5 >>> (8 &&& 31)) &&& 255)) (n + 1 + 1 + 1 + 1 + 1 + 1 + 1 + 1 + 1 + 1 + 1 + 1 + 1 + 1 + 1 + 1 + 1 + 1 + 1) ((x5 >>> (0 &&& 31)) &&& 255))))] H := hP
  have hD : va_D A_ [(mo, .inr (8, [.int 0, .int (nI (n + 1 + 1 + 1 + 1 + 1 + 1 + 1 + 1 + 1 + 1 + 1 + 1 + 1 + 1 + 1 + 1 + 1 + 1 + 1 + 1)), .ref m_row, .ref m_shelves, .ref m_many, .ref m_widths, .int z_marks, .ref m_mark, .int z_shown, .ref m_shownMark, .int z_wasRun, .int z_wrong, .int z_ended, .int z_steps, .int z_hints, .int z_hasWidth, .int z_width, .int z_first, .int z_moved, .int z_deepest, .int z_x, .int z_y, .int z_top, .ref m_stack, .ref m_places, .int z_depth, .ref m_kinds, .ref m_ats, .ref m_ends])), (m_row, .inl (cI, 16384, .inl (upd (upd (upd (upd (upd (upd (upd (upd (upd (upd (upd (upd (upd (upd (upd (upd (upd (upd (upd (upd g_row n ((x1 >>> (24 &&& 31)) &&& 255)) (n + 1) ((x1 >>> (16 &&& 31)) &&& 255)) (n + 1 + 1) ((x1 >>> (8 &&& 31)) &&& 255)) (n + 1 + 1 + 1) ((x1 >>> (0 &&& 31)) &&& 255)) (n + 1 + 1 + 1 + 1) ((x2 >>> (24 &&& 31)) &&& 255)) (n + 1 + 1 + 1 + 1 + 1) ((x2 >>> (16 &&& 31)) &&& 255)) (n + 1 + 1 + 1 + 1 + 1 + 1) ((x2 >>> (8 &&& 31)) &&& 255)) (n + 1 + 1 + 1 + 1 + 1 + 1 + 1) ((x2 >>> (0 &&& 31)) &&& 255)) (n + 1 + 1 + 1 + 1 + 1 + 1 + 1 + 1) ((x3 >>> (24 &&& 31)) &&& 255)) (n + 1 + 1 + 1 + 1 + 1 + 1 + 1 + 1 + 1) ((x3 >>> (16 &&& 31)) &&& 255)) (n + 1 + 1 + 1 + 1 + 1 + 1 + 1 + 1 + 1 + 1) ((x3 >>> (8 &&& 31)) &&& 255)) (n + 1 + 1 + 1 + 1 + 1 + 1 + 1 + 1 + 1 + 1 + 1) ((x3 >>> (0 &&& 31)) &&& 255)) (n + 1 + 1 + 1 + 1 + 1 + 1 + 1 + 1 + 1 + 1 + 1 + 1) ((x4 >>> (24 &&& 31)) &&& 255)) (n + 1 + 1 + 1 + 1 + 1 + 1 + 1 + 1 + 1 + 1 + 1 + 1 + 1) ((x4 >>> (16 &&& 31)) &&& 255)) (n + 1 + 1 + 1 + 1 + 1 + 1 + 1 + 1 + 1 + 1 + 1 + 1 + 1 + 1) ((x4 >>> (8 &&& 31)) &&& 255)) (n + 1 + 1 + 1 + 1 + 1 + 1 + 1 + 1 + 1 + 1 + 1 + 1 + 1 + 1 + 1) ((x4 >>> (0 &&& 31)) &&& 255)) (n + 1 + 1 + 1 + 1 + 1 + 1 + 1 + 1 + 1 + 1 + 1 + 1 + 1 + 1 + 1 + 1) ((x5 >>> (24 &&& 31)) &&& 255)) (n + 1 + 1 + 1 + 1 + 1 + 1 + 1 + 1 + 1 + 1 + 1 + 1 + 1 + 1 + 1 + 1 + 1) ((x5 >>> (16 &&& 31)) &&& 255)) (n + 1 + 1 + 1 + 1 + 1 + 1 + 1 + 1 + 1 + 1 + 1 + 1 + 1 + 1 + 1 + 1 + 1 + 1) ((x5 >>> (8 &&& 31)) &&& 255)) (n + 1 + 1 + 1 + 1 + 1 + 1 + 1 + 1 + 1 + 1 + 1 + 1 + 1 + 1 + 1 + 1 + 1 + 1 + 1) ((x5 >>> (0 &&& 31)) &&& 255))))] := hD
  refine lv_iinc (v := 20) (lv' := [(6, .int 20), (7, .int x5), (0, .ref mo), (1, .int x1), (2, .int x2), (3, .int x3), (4, .int x4), (5, .int x5)]) hx hb d_Mo_feed_114 hl (k := 1) rfl (by decide) (by decide) rfl (fun ls hl => ?_)
  refine lv_goto (tgt := 23) hx hb d_Mo_feed_117 (by decide) ?_
  refine lv_iload hx hb d_Mo_feed_23 (lv_at hl 0 rfl) ?_
  refine lv_bipush (v := 20) hx hb d_Mo_feed_25 (by decide) ?_
  refine lv_icmp_ge (tgt := 120) hx hb d_Mo_feed_27 (by decide) (fun c_27 => ?_) (fun c_27 => absurd (by decide) c_27)
  clear c_27
  refine lv_aload_n hx hb d_Mo_feed_120 rfl (lv_at hl 2 rfl) ?_
  refine va_get (D := D) (ci := 8) (v := .int (nI (n + 1 + 1 + 1 + 1 + 1 + 1 + 1 + 1 + 1 + 1 + 1 + 1 + 1 + 1 + 1 + 1 + 1 + 1 + 1 + 1))) (C := R_Mo) (T := F_Mo) (N := 29) hx hb hts i_Mo hown hZ.1 hP 0 rfl rfl 1 (by decide) (hts _ fl_Mo_48) (fun _ h9 => h9) rfl d_Mo_feed_121 ?_
  exact t_iret hx hb hr hlk d_Mo_feed_124 hP hD hS ⟨_, rfl, rfl, rfl, rfl, _, rfl⟩
set_option maxHeartbeats 1000000 in
set_option maxRecDepth 100000 in
theorem c_Mo_cut (l : Launch) (D : va_G) (cB cI cJ : ClassId) (mo m_row m_shelves m_many m_widths m_mark m_shownMark m_stack m_places m_kinds m_ats m_ends : Nat) (z_fault z_marks z_shown z_wasRun z_wrong z_ended z_steps z_hints z_hasWidth z_width z_first z_moved z_deepest z_x z_y z_top z_depth : Int32) (n : Nat) (y : Int32) (hn : n ≤ 16384) : Tr l D classes (TY cB cI cJ) gd_tbl nx_tbl y_Mo_cut b_Mo_cut 3 (some .int) ({ frames := 1, cells := 0, slots := 0, locals := 21 }) [.ref mo, .int y] [(mo, .inr (8, [.int z_fault, .int (nI n), .ref m_row, .ref m_shelves, .ref m_many, .ref m_widths, .int z_marks, .ref m_mark, .int z_shown, .ref m_shownMark, .int z_wasRun, .int z_wrong, .int z_ended, .int z_steps, .int z_hints, .int z_hasWidth, .int z_width, .int z_first, .int z_moved, .int z_deepest, .int z_x, .int z_y, .int z_top, .ref m_stack, .ref m_places, .int z_depth, .ref m_kinds, .ref m_ats, .ref m_ends]))] (pI0 (fun r w => (y < 0 ∧ r = 0 ∧ w = [(mo, .inr (8, [.int 1, .int (nI n), .ref m_row, .ref m_shelves, .ref m_many, .ref m_widths, .int z_marks, .ref m_mark, .int z_shown, .ref m_shownMark, .int z_wasRun, .int z_wrong, .int z_ended, .int z_steps, .int z_hints, .int z_hasWidth, .int z_width, .int z_first, .int z_moved, .int z_deepest, .int z_x, .int z_y, .int z_top, .ref m_stack, .ref m_places, .int z_depth, .ref m_kinds, .ref m_ats, .ref m_ends]))]) ∨ ∃ j n' : Nat, y = nI j ∧ j < 2 ^ 31 ∧ n' = min j n ∧ r = nI (n - n') ∧ w = [(mo, .inr (8, [.int 0, .int (nI n'), .ref m_row, .ref m_shelves, .ref m_many, .ref m_widths, .int z_marks, .ref m_mark, .int z_shown, .ref m_shownMark, .int z_wasRun, .int z_wrong, .int z_ended, .int z_steps, .int z_hints, .int z_hasWidth, .int z_width, .int z_first, .int z_moved, .int z_deepest, .int z_x, .int z_y, .int z_top, .ref m_stack, .ref m_places, .int z_depth, .ref m_kinds, .ref m_ats, .ref m_ends]))])) := by
  refine Tr.intro (by decide +kernel) nx_ok (Nat.le_of_ble_eq_true rfl) ?_
  intro p_ e_ s_ m_ args_ below_ meth_ c_ A_ ls hx hb hml hown hts hr hlk hnm hZ hP hD hS hl
  have hl : lv_has ls 3 [(0, .ref mo), (1, .int y)] := hl
  refine lv_aload_n hx hb d_Mo_cut_0 rfl (lv_at hl 0 rfl) ?_
  refine lv_iload_n hx hb d_Mo_cut_1 rfl (lv_at hl 1 rfl) ?_
  refine lv_if_ge (tgt := 9) hx hb d_Mo_cut_2 (by decide) (fun c_2 => ?_) (fun c_2 => ?_)
  · refine lv_iconst (v := 0) hx hb d_Mo_cut_9 (by decide) ?_
    have hC : Cut [(mo, .inr (8, [.int z_fault, .int (nI n), .ref m_row, .ref m_shelves, .ref m_many, .ref m_widths, .int z_marks, .ref m_mark, .int z_shown, .ref m_shownMark, .int z_wasRun, .int z_wrong, .int z_ended, .int z_steps, .int z_hints, .int z_hasWidth, .int z_width, .int z_first, .int z_moved, .int z_deepest, .int z_x, .int z_y, .int z_top, .ref m_stack, .ref m_places, .int z_depth, .ref m_kinds, .ref m_ats, .ref m_ends]))] [(mo, .inr (8, [.int z_fault, .int (nI n), .ref m_row, .ref m_shelves, .ref m_many, .ref m_widths, .int z_marks, .ref m_mark, .int z_shown, .ref m_shownMark, .int z_wasRun, .int z_wrong, .int z_ended, .int z_steps, .int z_hints, .int z_hasWidth, .int z_width, .int z_first, .int z_moved, .int z_deepest, .int z_x, .int z_y, .int z_top, .ref m_stack, .ref m_places, .int z_depth, .ref m_kinds, .ref m_ats, .ref m_ends]))] [] [0] [] := ⟨rfl, rfl, rfl, rfl, by decide⟩
    refine goI0 (trV (As := [.int 0]) (rest := []) ⟨hx, hb, hml, hown, hts⟩ gd_good (c_Mo_refused l D cB cI cJ mo m_row m_shelves m_many m_widths m_mark m_shownMark m_stack m_places m_kinds m_ats m_ends z_fault (nI n) z_marks z_shown z_wasRun z_wrong z_ended z_steps z_hints z_hasWidth z_width z_first z_moved z_deepest z_x z_y z_top z_depth 0) cal_Mo_refused ml_Mo_51 ⟨Nat.le_of_ble_eq_true rfl, Nat.le_of_ble_eq_true rfl⟩ hZ hP hD hC 0 (ci := 8) rfl rfl rfl rfl hl.1 rfl (Nat.le_of_ble_eq_true rfl) d_Mo_cut_10 ⟨Nat.le_of_ble_eq_true rfl, Nat.le_of_ble_eq_true rfl⟩) hZ hP hD hS hC (fun r_10 w1 H locs hq hP hD hS => ?_)
    obtain ⟨rq_10, rfl⟩ := hq
    have rq_10 : r_10 = 0 := rq_10
    subst rq_10
    have hP : va_P D classes [(mo, .inr (8, [.int 0, .int (nI n), .ref m_row, .ref m_shelves, .ref m_many, .ref m_widths, .int z_marks, .ref m_mark, .int z_shown, .ref m_shownMark, .int z_wasRun, .int z_wrong, .int z_ended, .int z_steps, .int z_hints, .int z_hasWidth, .int z_width, .int z_first, .int z_moved, .int z_deepest, .int z_x, .int z_y, .int z_top, .ref m_stack, .ref m_places, .int z_depth, .ref m_kinds, .ref m_ats, .ref m_ends]))] H := hP
    have hD : va_D A_ [(mo, .inr (8, [.int 0, .int (nI n), .ref m_row, .ref m_shelves, .ref m_many, .ref m_widths, .int z_marks, .ref m_mark, .int z_shown, .ref m_shownMark, .int z_wasRun, .int z_wrong, .int z_ended, .int z_steps, .int z_hints, .int z_hasWidth, .int z_width, .int z_first, .int z_moved, .int z_deepest, .int z_x, .int z_y, .int z_top, .ref m_stack, .ref m_places, .int z_depth, .ref m_kinds, .ref m_ats, .ref m_ends]))] := hD
    refine lv_if_eq (tgt := 18) hx hb d_Mo_cut_13 (by decide) (fun c_13 => ?_) (fun c_13 => absurd (by decide) c_13)
    clear c_13
    obtain ⟨j, hj, ej⟩ := nI_of (Int32.not_lt.mpr c_2)
    subst ej
    refine lv_aload_n hx hb d_Mo_cut_18 rfl (lv_at hl 0 rfl) ?_
    refine va_get (D := D) (ci := 8) (v := .int (nI n)) (C := R_Mo) (T := F_Mo) (N := 29) hx hb hts i_Mo hown hZ.1 hP 0 rfl rfl 1 (by decide) (hts _ fl_Mo_48) (fun _ h9 => h9) rfl d_Mo_cut_19 ?_
    refine lv_iload_n hx hb d_Mo_cut_22 rfl (lv_at hl 1 rfl) ?_
    refine lv_icmp_le (tgt := 35) hx hb d_Mo_cut_23 (by decide) (fun c_23 => ?_) (fun c_23 => ?_)
    · refine lv_iconst (v := 0) hx hb d_Mo_cut_35 (by decide) ?_
      refine lv_istore_n (lv' := [(2, .int 0), (0, .ref mo), (1, .int (nI j))]) hx hb d_Mo_cut_36 rfl hl (by decide) rfl (fun ls hl => ?_)
      refine lv_aload_n hx hb d_Mo_cut_37 rfl (lv_at hl 1 rfl) ?_
      refine lv_aload_n hx hb d_Mo_cut_38 rfl (lv_at hl 1 rfl) ?_
      refine va_get (D := D) (ci := 8) (v := .int (nI n)) (C := R_Mo) (T := F_Mo) (N := 29) hx hb hts i_Mo hown hZ.1 hP 0 rfl rfl 1 (by decide) (hts _ fl_Mo_48) (fun _ h9 => h9) rfl d_Mo_cut_39 ?_
      refine lv_iload_n hx hb d_Mo_cut_42 rfl (lv_at hl 0 rfl) ?_
      refine lv_isub hx hb d_Mo_cut_43 ?_
      refine lv_tv (y := nI n) (pk_m0 _) ?_
      refine va_put (D := D) (ci := 8) (v := .int (nI n)) (ty := .int) (C := R_Mo) (T := F_Mo) (N := 29) hx hb hts i_Mo t_Mo t_Mo_ok n_Mo hown hZ.1 hP hD hS 0 rfl rfl 1 (by decide) (hts _ fl_Mo_48) (fun _ h9 => h9) rfl (by decide +kernel) rfl rfl (Nat.le_of_ble_eq_true rfl) d_Mo_cut_44 (fun H locs hP hD hS => ?_)
      have hP : va_P D classes [(mo, .inr (8, [.int 0, .int (nI n), .ref m_row, .ref m_shelves, .ref m_many, .ref m_widths, .int z_marks, .ref m_mark, .int z_shown, .ref m_shownMark, .int z_wasRun, .int z_wrong, .int z_ended, .int z_steps, .int z_hints, .int z_hasWidth, .int z_width, .int z_first, .int z_moved, .int z_deepest, .int z_x, .int z_y, .int z_top, .ref m_stack, .ref m_places, .int z_depth, .ref m_kinds, .ref m_ats, .ref m_ends]))] H := hP
      have hD : va_D A_ [(mo, .inr (8, [.int 0, .int (nI n), .ref m_row, .ref m_shelves, .ref m_many, .ref m_widths, .int z_marks, .ref m_mark, .int z_shown, .ref m_shownMark, .int z_wasRun, .int z_wrong, .int z_ended, .int z_steps, .int z_hints, .int z_hasWidth, .int z_width, .int z_first, .int z_moved, .int z_deepest, .int z_x, .int z_y, .int z_top, .ref m_stack, .ref m_places, .int z_depth, .ref m_kinds, .ref m_ats, .ref m_ends]))] := hD
      refine lv_iload_n hx hb d_Mo_cut_47 rfl (lv_at hl 0 rfl) ?_
      exact t_iret hx hb hr hlk d_Mo_cut_48 hP hD hS ⟨_, rfl, rfl, rfl, Or.inr ⟨j, n, rfl, hj, by have := (nI_leI (by omega) hj).mp c_23; omega, by rw [Nat.sub_self]; rfl, rfl⟩⟩
    · refine lv_aload_n hx hb d_Mo_cut_26 rfl (lv_at hl 0 rfl) ?_
      refine va_get (D := D) (ci := 8) (v := .int (nI n)) (C := R_Mo) (T := F_Mo) (N := 29) hx hb hts i_Mo hown hZ.1 hP 0 rfl rfl 1 (by decide) (hts _ fl_Mo_48) (fun _ h9 => h9) rfl d_Mo_cut_27 ?_
      refine lv_iload_n hx hb d_Mo_cut_30 rfl (lv_at hl 1 rfl) ?_
      refine lv_isub hx hb d_Mo_cut_31 ?_
      refine lv_tv (y := nI (n - j)) (pk_sub (lt_le (fun q => c_23 (nI_le q hj)))) ?_
      refine lv_goto (tgt := 36) hx hb d_Mo_cut_32 (by decide) ?_
      refine lv_istore_n (lv' := [(2, .int (nI (n - j))), (0, .ref mo), (1, .int (nI j))]) hx hb d_Mo_cut_36 rfl hl (by decide) rfl (fun ls hl => ?_)
      refine lv_aload_n hx hb d_Mo_cut_37 rfl (lv_at hl 1 rfl) ?_
      refine lv_aload_n hx hb d_Mo_cut_38 rfl (lv_at hl 1 rfl) ?_
      refine va_get (D := D) (ci := 8) (v := .int (nI n)) (C := R_Mo) (T := F_Mo) (N := 29) hx hb hts i_Mo hown hZ.1 hP 0 rfl rfl 1 (by decide) (hts _ fl_Mo_48) (fun _ h9 => h9) rfl d_Mo_cut_39 ?_
      refine lv_iload_n hx hb d_Mo_cut_42 rfl (lv_at hl 0 rfl) ?_
      refine lv_isub hx hb d_Mo_cut_43 ?_
      refine lv_tv (y := nI j) (pk_s2 (lt_le (fun q => c_23 (nI_le q hj)))) ?_
      refine va_put (D := D) (ci := 8) (v := .int (nI j)) (ty := .int) (C := R_Mo) (T := F_Mo) (N := 29) hx hb hts i_Mo t_Mo t_Mo_ok n_Mo hown hZ.1 hP hD hS 0 rfl rfl 1 (by decide) (hts _ fl_Mo_48) (fun _ h9 => h9) rfl (by decide +kernel) rfl rfl (Nat.le_of_ble_eq_true rfl) d_Mo_cut_44 (fun H locs hP hD hS => ?_)
      have hP : va_P D classes [(mo, .inr (8, [.int 0, .int (nI j), .ref m_row, .ref m_shelves, .ref m_many, .ref m_widths, .int z_marks, .ref m_mark, .int z_shown, .ref m_shownMark, .int z_wasRun, .int z_wrong, .int z_ended, .int z_steps, .int z_hints, .int z_hasWidth, .int z_width, .int z_first, .int z_moved, .int z_deepest, .int z_x, .int z_y, .int z_top, .ref m_stack, .ref m_places, .int z_depth, .ref m_kinds, .ref m_ats, .ref m_ends]))] H := hP
      have hD : va_D A_ [(mo, .inr (8, [.int 0, .int (nI j), .ref m_row, .ref m_shelves, .ref m_many, .ref m_widths, .int z_marks, .ref m_mark, .int z_shown, .ref m_shownMark, .int z_wasRun, .int z_wrong, .int z_ended, .int z_steps, .int z_hints, .int z_hasWidth, .int z_width, .int z_first, .int z_moved, .int z_deepest, .int z_x, .int z_y, .int z_top, .ref m_stack, .ref m_places, .int z_depth, .ref m_kinds, .ref m_ats, .ref m_ends]))] := hD
      refine lv_iload_n hx hb d_Mo_cut_47 rfl (lv_at hl 0 rfl) ?_
      exact t_iret hx hb hr hlk d_Mo_cut_48 hP hD hS ⟨_, rfl, rfl, rfl, Or.inr ⟨j, j, rfl, hj, lt_min (fun q => c_23 (nI_le q hj)), rfl, rfl⟩⟩
  · refine lv_iconst (v := 1) hx hb d_Mo_cut_5 (by decide) ?_
    refine lv_goto (tgt := 10) hx hb d_Mo_cut_6 (by decide) ?_
    have hC : Cut [(mo, .inr (8, [.int z_fault, .int (nI n), .ref m_row, .ref m_shelves, .ref m_many, .ref m_widths, .int z_marks, .ref m_mark, .int z_shown, .ref m_shownMark, .int z_wasRun, .int z_wrong, .int z_ended, .int z_steps, .int z_hints, .int z_hasWidth, .int z_width, .int z_first, .int z_moved, .int z_deepest, .int z_x, .int z_y, .int z_top, .ref m_stack, .ref m_places, .int z_depth, .ref m_kinds, .ref m_ats, .ref m_ends]))] [(mo, .inr (8, [.int z_fault, .int (nI n), .ref m_row, .ref m_shelves, .ref m_many, .ref m_widths, .int z_marks, .ref m_mark, .int z_shown, .ref m_shownMark, .int z_wasRun, .int z_wrong, .int z_ended, .int z_steps, .int z_hints, .int z_hasWidth, .int z_width, .int z_first, .int z_moved, .int z_deepest, .int z_x, .int z_y, .int z_top, .ref m_stack, .ref m_places, .int z_depth, .ref m_kinds, .ref m_ats, .ref m_ends]))] [] [0] [] := ⟨rfl, rfl, rfl, rfl, by decide⟩
    refine goI0 (trV (As := [.int 1]) (rest := []) ⟨hx, hb, hml, hown, hts⟩ gd_good (c_Mo_refused l D cB cI cJ mo m_row m_shelves m_many m_widths m_mark m_shownMark m_stack m_places m_kinds m_ats m_ends z_fault (nI n) z_marks z_shown z_wasRun z_wrong z_ended z_steps z_hints z_hasWidth z_width z_first z_moved z_deepest z_x z_y z_top z_depth 1) cal_Mo_refused ml_Mo_51 ⟨Nat.le_of_ble_eq_true rfl, Nat.le_of_ble_eq_true rfl⟩ hZ hP hD hC 0 (ci := 8) rfl rfl rfl rfl hl.1 rfl (Nat.le_of_ble_eq_true rfl) d_Mo_cut_10 ⟨Nat.le_of_ble_eq_true rfl, Nat.le_of_ble_eq_true rfl⟩) hZ hP hD hS hC (fun r_10 w1 H locs hq hP hD hS => ?_)
    obtain ⟨rq_10, rfl⟩ := hq
    have rq_10 : r_10 = 1 := rq_10
    subst rq_10
    have hP : va_P D classes [(mo, .inr (8, [.int 1, .int (nI n), .ref m_row, .ref m_shelves, .ref m_many, .ref m_widths, .int z_marks, .ref m_mark, .int z_shown, .ref m_shownMark, .int z_wasRun, .int z_wrong, .int z_ended, .int z_steps, .int z_hints, .int z_hasWidth, .int z_width, .int z_first, .int z_moved, .int z_deepest, .int z_x, .int z_y, .int z_top, .ref m_stack, .ref m_places, .int z_depth, .ref m_kinds, .ref m_ats, .ref m_ends]))] H := hP
    have hD : va_D A_ [(mo, .inr (8, [.int 1, .int (nI n), .ref m_row, .ref m_shelves, .ref m_many, .ref m_widths, .int z_marks, .ref m_mark, .int z_shown, .ref m_shownMark, .int z_wasRun, .int z_wrong, .int z_ended, .int z_steps, .int z_hints, .int z_hasWidth, .int z_width, .int z_first, .int z_moved, .int z_deepest, .int z_x, .int z_y, .int z_top, .ref m_stack, .ref m_places, .int z_depth, .ref m_kinds, .ref m_ats, .ref m_ends]))] := hD
    refine lv_if_eq (tgt := 18) hx hb d_Mo_cut_13 (by decide) (fun c_13 => absurd c_13 (by decide)) (fun c_13 => ?_)
    clear c_13
    refine lv_iconst (v := 0) hx hb d_Mo_cut_16 (by decide) ?_
    exact t_iret hx hb hr hlk d_Mo_cut_17 hP hD hS ⟨_, rfl, rfl, rfl, Or.inl ⟨Int32.not_le.mp c_2, rfl, rfl⟩⟩
set_option maxHeartbeats 1000000 in
set_option maxRecDepth 100000 in
theorem c_Mo_put (l : Launch) (D : va_G) (cB cI cJ : ClassId) (mo m_row m_shelves m_many m_widths m_mark m_shownMark m_stack m_places m_kinds m_ats m_ends : Nat) (z_fault z_marks z_shown z_wasRun z_wrong z_ended z_steps z_hints z_hasWidth z_width z_first z_moved z_deepest z_x z_y z_top z_depth : Int32) (g_row : Nat → Int32) (n : Nat) (i b : Int32) (hn : n ≤ 16384) : Tr l D classes (TY cB cI cJ) gd_tbl nx_tbl y_Mo_put b_Mo_put 4 (some .int) ({ frames := 1, cells := 0, slots := 0, locals := 21 }) [.ref mo, .int i, .int b] [(mo, .inr (8, [.int z_fault, .int (nI n), .ref m_row, .ref m_shelves, .ref m_many, .ref m_widths, .int z_marks, .ref m_mark, .int z_shown, .ref m_shownMark, .int z_wasRun, .int z_wrong, .int z_ended, .int z_steps, .int z_hints, .int z_hasWidth, .int z_width, .int z_first, .int z_moved, .int z_deepest, .int z_x, .int z_y, .int z_top, .ref m_stack, .ref m_places, .int z_depth, .ref m_kinds, .ref m_ats, .ref m_ends])), (m_row, .inl (cI, 16384, .inl g_row))] (pI0 (fun r w => (¬ okI n i ∧ r = 0 ∧ w = [(mo, .inr (8, [.int 1, .int (nI n), .ref m_row, .ref m_shelves, .ref m_many, .ref m_widths, .int z_marks, .ref m_mark, .int z_shown, .ref m_shownMark, .int z_wasRun, .int z_wrong, .int z_ended, .int z_steps, .int z_hints, .int z_hasWidth, .int z_width, .int z_first, .int z_moved, .int z_deepest, .int z_x, .int z_y, .int z_top, .ref m_stack, .ref m_places, .int z_depth, .ref m_kinds, .ref m_ats, .ref m_ends])), (m_row, .inl (cI, 16384, .inl g_row))]) ∨ (okI n i ∧ ¬ okB b ∧ r = 0 ∧ w = [(mo, .inr (8, [.int 2, .int (nI n), .ref m_row, .ref m_shelves, .ref m_many, .ref m_widths, .int z_marks, .ref m_mark, .int z_shown, .ref m_shownMark, .int z_wasRun, .int z_wrong, .int z_ended, .int z_steps, .int z_hints, .int z_hasWidth, .int z_width, .int z_first, .int z_moved, .int z_deepest, .int z_x, .int z_y, .int z_top, .ref m_stack, .ref m_places, .int z_depth, .ref m_kinds, .ref m_ats, .ref m_ends])), (m_row, .inl (cI, 16384, .inl g_row))]) ∨ ∃ j : Nat, i = nI j ∧ j < n ∧ okB b ∧ r = g_row j ∧ w = [(mo, .inr (8, [.int 0, .int (nI n), .ref m_row, .ref m_shelves, .ref m_many, .ref m_widths, .int z_marks, .ref m_mark, .int z_shown, .ref m_shownMark, .int z_wasRun, .int z_wrong, .int z_ended, .int z_steps, .int z_hints, .int z_hasWidth, .int z_width, .int z_first, .int z_moved, .int z_deepest, .int z_x, .int z_y, .int z_top, .ref m_stack, .ref m_places, .int z_depth, .ref m_kinds, .ref m_ats, .ref m_ends])), (m_row, .inl (cI, 16384, .inl (upd g_row j b)))])) := by
  refine Tr.intro (by decide +kernel) nx_ok (Nat.le_of_ble_eq_true rfl) ?_
  intro p_ e_ s_ m_ args_ below_ meth_ c_ A_ ls hx hb hml hown hts hr hlk hnm hZ hP hD hS hl
  have hl : lv_has ls 4 [(0, .ref mo), (1, .int i), (2, .int b)] := hl
  refine lv_aload_n hx hb d_Mo_put_0 rfl (lv_at hl 0 rfl) ?_
  refine lv_iload_n hx hb d_Mo_put_1 rfl (lv_at hl 1 rfl) ?_
  refine lv_if_lt (tgt := 13) hx hb d_Mo_put_2 (by decide) (fun c_2 => ?_) (fun c_2 => ?_)
  · refine lv_iconst (v := 1) hx hb d_Mo_put_13 (by decide) ?_
    refine lv_goto (tgt := 33) hx hb d_Mo_put_14 (by decide) ?_
    have hC : Cut [(mo, .inr (8, [.int z_fault, .int (nI n), .ref m_row, .ref m_shelves, .ref m_many, .ref m_widths, .int z_marks, .ref m_mark, .int z_shown, .ref m_shownMark, .int z_wasRun, .int z_wrong, .int z_ended, .int z_steps, .int z_hints, .int z_hasWidth, .int z_width, .int z_first, .int z_moved, .int z_deepest, .int z_x, .int z_y, .int z_top, .ref m_stack, .ref m_places, .int z_depth, .ref m_kinds, .ref m_ats, .ref m_ends])), (m_row, .inl (cI, 16384, .inl g_row))] [(mo, .inr (8, [.int z_fault, .int (nI n), .ref m_row, .ref m_shelves, .ref m_many, .ref m_widths, .int z_marks, .ref m_mark, .int z_shown, .ref m_shownMark, .int z_wasRun, .int z_wrong, .int z_ended, .int z_steps, .int z_hints, .int z_hasWidth, .int z_width, .int z_first, .int z_moved, .int z_deepest, .int z_x, .int z_y, .int z_top, .ref m_stack, .ref m_places, .int z_depth, .ref m_kinds, .ref m_ats, .ref m_ends]))] [(m_row, .inl (cI, 16384, .inl g_row))] [0] [1] := ⟨rfl, rfl, rfl, rfl, by decide⟩
    refine goI0 (trV (As := [.int 1]) (rest := []) ⟨hx, hb, hml, hown, hts⟩ gd_good (c_Mo_refused l D cB cI cJ mo m_row m_shelves m_many m_widths m_mark m_shownMark m_stack m_places m_kinds m_ats m_ends z_fault (nI n) z_marks z_shown z_wasRun z_wrong z_ended z_steps z_hints z_hasWidth z_width z_first z_moved z_deepest z_x z_y z_top z_depth 1) cal_Mo_refused ml_Mo_51 ⟨Nat.le_of_ble_eq_true rfl, Nat.le_of_ble_eq_true rfl⟩ hZ hP hD hC 0 (ci := 8) rfl rfl rfl rfl hl.1 rfl (Nat.le_of_ble_eq_true rfl) d_Mo_put_33 ⟨Nat.le_of_ble_eq_true rfl, Nat.le_of_ble_eq_true rfl⟩) hZ hP hD hS hC (fun r_33 w1 H locs hq hP hD hS => ?_)
    obtain ⟨rq_33, rfl⟩ := hq
    have rq_33 : r_33 = 1 := rq_33
    subst rq_33
    have hP : va_P D classes [(m_row, .inl (cI, 16384, .inl g_row)), (mo, .inr (8, [.int 1, .int (nI n), .ref m_row, .ref m_shelves, .ref m_many, .ref m_widths, .int z_marks, .ref m_mark, .int z_shown, .ref m_shownMark, .int z_wasRun, .int z_wrong, .int z_ended, .int z_steps, .int z_hints, .int z_hasWidth, .int z_width, .int z_first, .int z_moved, .int z_deepest, .int z_x, .int z_y, .int z_top, .ref m_stack, .ref m_places, .int z_depth, .ref m_kinds, .ref m_ats, .ref m_ends]))] H := hP
    have hD : va_D A_ [(m_row, .inl (cI, 16384, .inl g_row)), (mo, .inr (8, [.int 1, .int (nI n), .ref m_row, .ref m_shelves, .ref m_many, .ref m_widths, .int z_marks, .ref m_mark, .int z_shown, .ref m_shownMark, .int z_wasRun, .int z_wrong, .int z_ended, .int z_steps, .int z_hints, .int z_hasWidth, .int z_width, .int z_first, .int z_moved, .int z_deepest, .int z_x, .int z_y, .int z_top, .ref m_stack, .ref m_places, .int z_depth, .ref m_kinds, .ref m_ats, .ref m_ends]))] := hD
    refine lv_if_eq (tgt := 41) hx hb d_Mo_put_36 (by decide) (fun c_36 => absurd c_36 (by decide)) (fun c_36 => ?_)
    clear c_36
    refine lv_iconst (v := 0) hx hb d_Mo_put_39 (by decide) ?_
    exact t_iret hx hb hr hlk d_Mo_put_40 (hP.subm (ws' := [(mo, .inr (8, [.int 1, .int (nI n), .ref m_row, .ref m_shelves, .ref m_many, .ref m_widths, .int z_marks, .ref m_mark, .int z_shown, .ref m_shownMark, .int z_wasRun, .int z_wrong, .int z_ended, .int z_steps, .int z_hints, .int z_hasWidth, .int z_width, .int z_first, .int z_moved, .int z_deepest, .int z_x, .int z_y, .int z_top, .ref m_stack, .ref m_places, .int z_depth, .ref m_kinds, .ref m_ats, .ref m_ends])), (m_row, .inl (cI, 16384, .inl g_row))]) [1, 0] rfl) (hD.sub (ws' := [(mo, .inr (8, [.int 1, .int (nI n), .ref m_row, .ref m_shelves, .ref m_many, .ref m_widths, .int z_marks, .ref m_mark, .int z_shown, .ref m_shownMark, .int z_wasRun, .int z_wrong, .int z_ended, .int z_steps, .int z_hints, .int z_hasWidth, .int z_width, .int z_first, .int z_moved, .int z_deepest, .int z_x, .int z_y, .int z_top, .ref m_stack, .ref m_places, .int z_depth, .ref m_kinds, .ref m_ats, .ref m_ends])), (m_row, .inl (cI, 16384, .inl g_row))]) [1, 0] rfl rfl) hS ⟨_, rfl, rfl, rfl, Or.inl ⟨fun z => z.1 c_2, rfl, rfl⟩⟩
  · refine lv_iload_n hx hb d_Mo_put_5 rfl (lv_at hl 1 rfl) ?_
    refine lv_aload_n hx hb d_Mo_put_6 rfl (lv_at hl 0 rfl) ?_
    refine va_get (D := D) (ci := 8) (v := .int (nI n)) (C := R_Mo) (T := F_Mo) (N := 29) hx hb hts i_Mo hown hZ.1 hP 0 rfl rfl 1 (by decide) (hts _ fl_Mo_48) (fun _ h9 => h9) rfl d_Mo_put_7 ?_
    refine lv_icmp_lt (tgt := 17) hx hb d_Mo_put_10 (by decide) (fun c_10 => ?_) (fun c_10 => ?_)
    · refine lv_iload_n hx hb d_Mo_put_17 rfl (lv_at hl 2 rfl) ?_
      refine lv_if_lt (tgt := 28) hx hb d_Mo_put_18 (by decide) (fun c_18 => ?_) (fun c_18 => ?_)
      · refine lv_iconst (v := 2) hx hb d_Mo_put_28 (by decide) ?_
        refine lv_goto (tgt := 33) hx hb d_Mo_put_29 (by decide) ?_
        have hC : Cut [(mo, .inr (8, [.int z_fault, .int (nI n), .ref m_row, .ref m_shelves, .ref m_many, .ref m_widths, .int z_marks, .ref m_mark, .int z_shown, .ref m_shownMark, .int z_wasRun, .int z_wrong, .int z_ended, .int z_steps, .int z_hints, .int z_hasWidth, .int z_width, .int z_first, .int z_moved, .int z_deepest, .int z_x, .int z_y, .int z_top, .ref m_stack, .ref m_places, .int z_depth, .ref m_kinds, .ref m_ats, .ref m_ends])), (m_row, .inl (cI, 16384, .inl g_row))] [(mo, .inr (8, [.int z_fault, .int (nI n), .ref m_row, .ref m_shelves, .ref m_many, .ref m_widths, .int z_marks, .ref m_mark, .int z_shown, .ref m_shownMark, .int z_wasRun, .int z_wrong, .int z_ended, .int z_steps, .int z_hints, .int z_hasWidth, .int z_width, .int z_first, .int z_moved, .int z_deepest, .int z_x, .int z_y, .int z_top, .ref m_stack, .ref m_places, .int z_depth, .ref m_kinds, .ref m_ats, .ref m_ends]))] [(m_row, .inl (cI, 16384, .inl g_row))] [0] [1] := ⟨rfl, rfl, rfl, rfl, by decide⟩
        refine goI0 (trV (As := [.int 2]) (rest := []) ⟨hx, hb, hml, hown, hts⟩ gd_good (c_Mo_refused l D cB cI cJ mo m_row m_shelves m_many m_widths m_mark m_shownMark m_stack m_places m_kinds m_ats m_ends z_fault (nI n) z_marks z_shown z_wasRun z_wrong z_ended z_steps z_hints z_hasWidth z_width z_first z_moved z_deepest z_x z_y z_top z_depth 2) cal_Mo_refused ml_Mo_51 ⟨Nat.le_of_ble_eq_true rfl, Nat.le_of_ble_eq_true rfl⟩ hZ hP hD hC 0 (ci := 8) rfl rfl rfl rfl hl.1 rfl (Nat.le_of_ble_eq_true rfl) d_Mo_put_33 ⟨Nat.le_of_ble_eq_true rfl, Nat.le_of_ble_eq_true rfl⟩) hZ hP hD hS hC (fun r_33 w1 H locs hq hP hD hS => ?_)
        obtain ⟨rq_33, rfl⟩ := hq
        have rq_33 : r_33 = 1 := rq_33
        subst rq_33
        have hP : va_P D classes [(m_row, .inl (cI, 16384, .inl g_row)), (mo, .inr (8, [.int 2, .int (nI n), .ref m_row, .ref m_shelves, .ref m_many, .ref m_widths, .int z_marks, .ref m_mark, .int z_shown, .ref m_shownMark, .int z_wasRun, .int z_wrong, .int z_ended, .int z_steps, .int z_hints, .int z_hasWidth, .int z_width, .int z_first, .int z_moved, .int z_deepest, .int z_x, .int z_y, .int z_top, .ref m_stack, .ref m_places, .int z_depth, .ref m_kinds, .ref m_ats, .ref m_ends]))] H := hP
        have hD : va_D A_ [(m_row, .inl (cI, 16384, .inl g_row)), (mo, .inr (8, [.int 2, .int (nI n), .ref m_row, .ref m_shelves, .ref m_many, .ref m_widths, .int z_marks, .ref m_mark, .int z_shown, .ref m_shownMark, .int z_wasRun, .int z_wrong, .int z_ended, .int z_steps, .int z_hints, .int z_hasWidth, .int z_width, .int z_first, .int z_moved, .int z_deepest, .int z_x, .int z_y, .int z_top, .ref m_stack, .ref m_places, .int z_depth, .ref m_kinds, .ref m_ats, .ref m_ends]))] := hD
        refine lv_if_eq (tgt := 41) hx hb d_Mo_put_36 (by decide) (fun c_36 => absurd c_36 (by decide)) (fun c_36 => ?_)
        clear c_36
        refine lv_iconst (v := 0) hx hb d_Mo_put_39 (by decide) ?_
        exact t_iret hx hb hr hlk d_Mo_put_40 (hP.subm (ws' := [(mo, .inr (8, [.int 2, .int (nI n), .ref m_row, .ref m_shelves, .ref m_many, .ref m_widths, .int z_marks, .ref m_mark, .int z_shown, .ref m_shownMark, .int z_wasRun, .int z_wrong, .int z_ended, .int z_steps, .int z_hints, .int z_hasWidth, .int z_width, .int z_first, .int z_moved, .int z_deepest, .int z_x, .int z_y, .int z_top, .ref m_stack, .ref m_places, .int z_depth, .ref m_kinds, .ref m_ats, .ref m_ends])), (m_row, .inl (cI, 16384, .inl g_row))]) [1, 0] rfl) (hD.sub (ws' := [(mo, .inr (8, [.int 2, .int (nI n), .ref m_row, .ref m_shelves, .ref m_many, .ref m_widths, .int z_marks, .ref m_mark, .int z_shown, .ref m_shownMark, .int z_wasRun, .int z_wrong, .int z_ended, .int z_steps, .int z_hints, .int z_hasWidth, .int z_width, .int z_first, .int z_moved, .int z_deepest, .int z_x, .int z_y, .int z_top, .ref m_stack, .ref m_places, .int z_depth, .ref m_kinds, .ref m_ats, .ref m_ends])), (m_row, .inl (cI, 16384, .inl g_row))]) [1, 0] rfl rfl) hS ⟨_, rfl, rfl, rfl, Or.inr (Or.inl ⟨⟨c_2, c_10⟩, fun z => z.1 c_18, rfl, rfl⟩)⟩
      · refine lv_iload_n hx hb d_Mo_put_21 rfl (lv_at hl 2 rfl) ?_
        refine lv_sipush (v := 255) hx hb d_Mo_put_22 (by decide) ?_
        refine lv_icmp_le (tgt := 32) hx hb d_Mo_put_25 (by decide) (fun c_25 => ?_) (fun c_25 => ?_)
        · refine lv_iconst (v := 0) hx hb d_Mo_put_32 (by decide) ?_
          have hC : Cut [(mo, .inr (8, [.int z_fault, .int (nI n), .ref m_row, .ref m_shelves, .ref m_many, .ref m_widths, .int z_marks, .ref m_mark, .int z_shown, .ref m_shownMark, .int z_wasRun, .int z_wrong, .int z_ended, .int z_steps, .int z_hints, .int z_hasWidth, .int z_width, .int z_first, .int z_moved, .int z_deepest, .int z_x, .int z_y, .int z_top, .ref m_stack, .ref m_places, .int z_depth, .ref m_kinds, .ref m_ats, .ref m_ends])), (m_row, .inl (cI, 16384, .inl g_row))] [(mo, .inr (8, [.int z_fault, .int (nI n), .ref m_row, .ref m_shelves, .ref m_many, .ref m_widths, .int z_marks, .ref m_mark, .int z_shown, .ref m_shownMark, .int z_wasRun, .int z_wrong, .int z_ended, .int z_steps, .int z_hints, .int z_hasWidth, .int z_width, .int z_first, .int z_moved, .int z_deepest, .int z_x, .int z_y, .int z_top, .ref m_stack, .ref m_places, .int z_depth, .ref m_kinds, .ref m_ats, .ref m_ends]))] [(m_row, .inl (cI, 16384, .inl g_row))] [0] [1] := ⟨rfl, rfl, rfl, rfl, by decide⟩
          refine goI0 (trV (As := [.int 0]) (rest := []) ⟨hx, hb, hml, hown, hts⟩ gd_good (c_Mo_refused l D cB cI cJ mo m_row m_shelves m_many m_widths m_mark m_shownMark m_stack m_places m_kinds m_ats m_ends z_fault (nI n) z_marks z_shown z_wasRun z_wrong z_ended z_steps z_hints z_hasWidth z_width z_first z_moved z_deepest z_x z_y z_top z_depth 0) cal_Mo_refused ml_Mo_51 ⟨Nat.le_of_ble_eq_true rfl, Nat.le_of_ble_eq_true rfl⟩ hZ hP hD hC 0 (ci := 8) rfl rfl rfl rfl hl.1 rfl (Nat.le_of_ble_eq_true rfl) d_Mo_put_33 ⟨Nat.le_of_ble_eq_true rfl, Nat.le_of_ble_eq_true rfl⟩) hZ hP hD hS hC (fun r_33 w1 H locs hq hP hD hS => ?_)
          obtain ⟨rq_33, rfl⟩ := hq
          have rq_33 : r_33 = 0 := rq_33
          subst rq_33
          have hP : va_P D classes [(m_row, .inl (cI, 16384, .inl g_row)), (mo, .inr (8, [.int 0, .int (nI n), .ref m_row, .ref m_shelves, .ref m_many, .ref m_widths, .int z_marks, .ref m_mark, .int z_shown, .ref m_shownMark, .int z_wasRun, .int z_wrong, .int z_ended, .int z_steps, .int z_hints, .int z_hasWidth, .int z_width, .int z_first, .int z_moved, .int z_deepest, .int z_x, .int z_y, .int z_top, .ref m_stack, .ref m_places, .int z_depth, .ref m_kinds, .ref m_ats, .ref m_ends]))] H := hP
          have hD : va_D A_ [(m_row, .inl (cI, 16384, .inl g_row)), (mo, .inr (8, [.int 0, .int (nI n), .ref m_row, .ref m_shelves, .ref m_many, .ref m_widths, .int z_marks, .ref m_mark, .int z_shown, .ref m_shownMark, .int z_wasRun, .int z_wrong, .int z_ended, .int z_steps, .int z_hints, .int z_hasWidth, .int z_width, .int z_first, .int z_moved, .int z_deepest, .int z_x, .int z_y, .int z_top, .ref m_stack, .ref m_places, .int z_depth, .ref m_kinds, .ref m_ats, .ref m_ends]))] := hD
          refine lv_if_eq (tgt := 41) hx hb d_Mo_put_36 (by decide) (fun c_36 => ?_) (fun c_36 => absurd (by decide) c_36)
          clear c_36
          obtain ⟨j, hj, ej⟩ := in_ok c_2 c_10 (by omega)
          subst ej
          refine lv_aload_n hx hb d_Mo_put_41 rfl (lv_at hl 0 rfl) ?_
          refine va_get (D := D) (ci := 8) (v := .ref m_row) (C := R_Mo) (T := F_Mo) (N := 29) hx hb hts i_Mo hown hZ.1 hP 1 rfl rfl 2 (by decide) (hts _ fl_Mo_7) (fun _ h9 => h9) rfl d_Mo_put_42 ?_
          refine lv_iload_n hx hb d_Mo_put_45 rfl (lv_at hl 1 rfl) ?_
          refine va_iald hx hb hZ.1 hP 0 1 rfl rfl (vp_in_nI (by omega) (by omega)) d_Mo_put_46 ?_
          refine lv_tv (y := g_row j) (by rw [nI_clamp (by omega)]) ?_
          refine lv_istore_n (lv' := [(3, .int (g_row j)), (0, .ref mo), (1, .int (nI j)), (2, .int b)]) hx hb d_Mo_put_47 rfl hl (by decide) rfl (fun ls hl => ?_)
          refine lv_aload_n hx hb d_Mo_put_48 rfl (lv_at hl 1 rfl) ?_
          refine va_get (D := D) (ci := 8) (v := .ref m_row) (C := R_Mo) (T := F_Mo) (N := 29) hx hb hts i_Mo hown hZ.1 hP 1 rfl rfl 2 (by decide) (hts _ fl_Mo_7) (fun _ h9 => h9) rfl d_Mo_put_49 ?_
          refine lv_iload_n hx hb d_Mo_put_52 rfl (lv_at hl 2 rfl) ?_
          refine lv_iload_n hx hb d_Mo_put_53 rfl (lv_at hl 3 rfl) ?_
          refine va_iast hx hb hZ.1 hP hD hS 0 1 rfl rfl (vp_in_nI (by omega) (by omega)) d_Mo_put_54 (fun H locs hP hD hS => ?_)
          rw [show ((nI j).toNatClampNeg) = j from nI_clamp (by omega)] at hP hD
          have hP : va_P D classes [(m_row, .inl (cI, 16384, .inl (upd g_row j b))), (mo, .inr (8, [.int 0, .int (nI n), .ref m_row, .ref m_shelves, .ref m_many, .ref m_widths, .int z_marks, .ref m_mark, .int z_shown, .ref m_shownMark, .int z_wasRun, .int z_wrong, .int z_ended, .int z_steps, .int z_hints, .int z_hasWidth, .int z_width, .int z_first, .int z_moved, .int z_deepest, .int z_x, .int z_y, .int z_top, .ref m_stack, .ref m_places, .int z_depth, .ref m_kinds, .ref m_ats, .ref m_ends]))] H := hP
          have hD : va_D A_ [(m_row, .inl (cI, 16384, .inl (upd g_row j b))), (mo, .inr (8, [.int 0, .int (nI n), .ref m_row, .ref m_shelves, .ref m_many, .ref m_widths, .int z_marks, .ref m_mark, .int z_shown, .ref m_shownMark, .int z_wasRun, .int z_wrong, .int z_ended, .int z_steps, .int z_hints, .int z_hasWidth, .int z_width, .int z_first, .int z_moved, .int z_deepest, .int z_x, .int z_y, .int z_top, .ref m_stack, .ref m_places, .int z_depth, .ref m_kinds, .ref m_ats, .ref m_ends]))] := hD
          refine lv_iload_n hx hb d_Mo_put_55 rfl (lv_at hl 0 rfl) ?_
          exact t_iret hx hb hr hlk d_Mo_put_56 (hP.subm (ws' := [(mo, .inr (8, [.int 0, .int (nI n), .ref m_row, .ref m_shelves, .ref m_many, .ref m_widths, .int z_marks, .ref m_mark, .int z_shown, .ref m_shownMark, .int z_wasRun, .int z_wrong, .int z_ended, .int z_steps, .int z_hints, .int z_hasWidth, .int z_width, .int z_first, .int z_moved, .int z_deepest, .int z_x, .int z_y, .int z_top, .ref m_stack, .ref m_places, .int z_depth, .ref m_kinds, .ref m_ats, .ref m_ends])), (m_row, .inl (cI, 16384, .inl (upd g_row j b)))]) [1, 0] rfl) (hD.sub (ws' := [(mo, .inr (8, [.int 0, .int (nI n), .ref m_row, .ref m_shelves, .ref m_many, .ref m_widths, .int z_marks, .ref m_mark, .int z_shown, .ref m_shownMark, .int z_wasRun, .int z_wrong, .int z_ended, .int z_steps, .int z_hints, .int z_hasWidth, .int z_width, .int z_first, .int z_moved, .int z_deepest, .int z_x, .int z_y, .int z_top, .ref m_stack, .ref m_places, .int z_depth, .ref m_kinds, .ref m_ats, .ref m_ends])), (m_row, .inl (cI, 16384, .inl (upd g_row j b)))]) [1, 0] rfl rfl) hS ⟨_, rfl, rfl, rfl, Or.inr (Or.inr ⟨j, rfl, hj, ⟨c_18, c_25⟩, rfl, rfl⟩)⟩
        · refine lv_iconst (v := 2) hx hb d_Mo_put_28 (by decide) ?_
          refine lv_goto (tgt := 33) hx hb d_Mo_put_29 (by decide) ?_
          have hC : Cut [(mo, .inr (8, [.int z_fault, .int (nI n), .ref m_row, .ref m_shelves, .ref m_many, .ref m_widths, .int z_marks, .ref m_mark, .int z_shown, .ref m_shownMark, .int z_wasRun, .int z_wrong, .int z_ended, .int z_steps, .int z_hints, .int z_hasWidth, .int z_width, .int z_first, .int z_moved, .int z_deepest, .int z_x, .int z_y, .int z_top, .ref m_stack, .ref m_places, .int z_depth, .ref m_kinds, .ref m_ats, .ref m_ends])), (m_row, .inl (cI, 16384, .inl g_row))] [(mo, .inr (8, [.int z_fault, .int (nI n), .ref m_row, .ref m_shelves, .ref m_many, .ref m_widths, .int z_marks, .ref m_mark, .int z_shown, .ref m_shownMark, .int z_wasRun, .int z_wrong, .int z_ended, .int z_steps, .int z_hints, .int z_hasWidth, .int z_width, .int z_first, .int z_moved, .int z_deepest, .int z_x, .int z_y, .int z_top, .ref m_stack, .ref m_places, .int z_depth, .ref m_kinds, .ref m_ats, .ref m_ends]))] [(m_row, .inl (cI, 16384, .inl g_row))] [0] [1] := ⟨rfl, rfl, rfl, rfl, by decide⟩
          refine goI0 (trV (As := [.int 2]) (rest := []) ⟨hx, hb, hml, hown, hts⟩ gd_good (c_Mo_refused l D cB cI cJ mo m_row m_shelves m_many m_widths m_mark m_shownMark m_stack m_places m_kinds m_ats m_ends z_fault (nI n) z_marks z_shown z_wasRun z_wrong z_ended z_steps z_hints z_hasWidth z_width z_first z_moved z_deepest z_x z_y z_top z_depth 2) cal_Mo_refused ml_Mo_51 ⟨Nat.le_of_ble_eq_true rfl, Nat.le_of_ble_eq_true rfl⟩ hZ hP hD hC 0 (ci := 8) rfl rfl rfl rfl hl.1 rfl (Nat.le_of_ble_eq_true rfl) d_Mo_put_33 ⟨Nat.le_of_ble_eq_true rfl, Nat.le_of_ble_eq_true rfl⟩) hZ hP hD hS hC (fun r_33 w1 H locs hq hP hD hS => ?_)
          obtain ⟨rq_33, rfl⟩ := hq
          have rq_33 : r_33 = 1 := rq_33
          subst rq_33
          have hP : va_P D classes [(m_row, .inl (cI, 16384, .inl g_row)), (mo, .inr (8, [.int 2, .int (nI n), .ref m_row, .ref m_shelves, .ref m_many, .ref m_widths, .int z_marks, .ref m_mark, .int z_shown, .ref m_shownMark, .int z_wasRun, .int z_wrong, .int z_ended, .int z_steps, .int z_hints, .int z_hasWidth, .int z_width, .int z_first, .int z_moved, .int z_deepest, .int z_x, .int z_y, .int z_top, .ref m_stack, .ref m_places, .int z_depth, .ref m_kinds, .ref m_ats, .ref m_ends]))] H := hP
          have hD : va_D A_ [(m_row, .inl (cI, 16384, .inl g_row)), (mo, .inr (8, [.int 2, .int (nI n), .ref m_row, .ref m_shelves, .ref m_many, .ref m_widths, .int z_marks, .ref m_mark, .int z_shown, .ref m_shownMark, .int z_wasRun, .int z_wrong, .int z_ended, .int z_steps, .int z_hints, .int z_hasWidth, .int z_width, .int z_first, .int z_moved, .int z_deepest, .int z_x, .int z_y, .int z_top, .ref m_stack, .ref m_places, .int z_depth, .ref m_kinds, .ref m_ats, .ref m_ends]))] := hD
          refine lv_if_eq (tgt := 41) hx hb d_Mo_put_36 (by decide) (fun c_36 => absurd c_36 (by decide)) (fun c_36 => ?_)
          clear c_36
          refine lv_iconst (v := 0) hx hb d_Mo_put_39 (by decide) ?_
          exact t_iret hx hb hr hlk d_Mo_put_40 (hP.subm (ws' := [(mo, .inr (8, [.int 2, .int (nI n), .ref m_row, .ref m_shelves, .ref m_many, .ref m_widths, .int z_marks, .ref m_mark, .int z_shown, .ref m_shownMark, .int z_wasRun, .int z_wrong, .int z_ended, .int z_steps, .int z_hints, .int z_hasWidth, .int z_width, .int z_first, .int z_moved, .int z_deepest, .int z_x, .int z_y, .int z_top, .ref m_stack, .ref m_places, .int z_depth, .ref m_kinds, .ref m_ats, .ref m_ends])), (m_row, .inl (cI, 16384, .inl g_row))]) [1, 0] rfl) (hD.sub (ws' := [(mo, .inr (8, [.int 2, .int (nI n), .ref m_row, .ref m_shelves, .ref m_many, .ref m_widths, .int z_marks, .ref m_mark, .int z_shown, .ref m_shownMark, .int z_wasRun, .int z_wrong, .int z_ended, .int z_steps, .int z_hints, .int z_hasWidth, .int z_width, .int z_first, .int z_moved, .int z_deepest, .int z_x, .int z_y, .int z_top, .ref m_stack, .ref m_places, .int z_depth, .ref m_kinds, .ref m_ats, .ref m_ends])), (m_row, .inl (cI, 16384, .inl g_row))]) [1, 0] rfl rfl) hS ⟨_, rfl, rfl, rfl, Or.inr (Or.inl ⟨⟨c_2, c_10⟩, fun z => c_25 z.2, rfl, rfl⟩)⟩
    · refine lv_iconst (v := 1) hx hb d_Mo_put_13 (by decide) ?_
      refine lv_goto (tgt := 33) hx hb d_Mo_put_14 (by decide) ?_
      have hC : Cut [(mo, .inr (8, [.int z_fault, .int (nI n), .ref m_row, .ref m_shelves, .ref m_many, .ref m_widths, .int z_marks, .ref m_mark, .int z_shown, .ref m_shownMark, .int z_wasRun, .int z_wrong, .int z_ended, .int z_steps, .int z_hints, .int z_hasWidth, .int z_width, .int z_first, .int z_moved, .int z_deepest, .int z_x, .int z_y, .int z_top, .ref m_stack, .ref m_places, .int z_depth, .ref m_kinds, .ref m_ats, .ref m_ends])), (m_row, .inl (cI, 16384, .inl g_row))] [(mo, .inr (8, [.int z_fault, .int (nI n), .ref m_row, .ref m_shelves, .ref m_many, .ref m_widths, .int z_marks, .ref m_mark, .int z_shown, .ref m_shownMark, .int z_wasRun, .int z_wrong, .int z_ended, .int z_steps, .int z_hints, .int z_hasWidth, .int z_width, .int z_first, .int z_moved, .int z_deepest, .int z_x, .int z_y, .int z_top, .ref m_stack, .ref m_places, .int z_depth, .ref m_kinds, .ref m_ats, .ref m_ends]))] [(m_row, .inl (cI, 16384, .inl g_row))] [0] [1] := ⟨rfl, rfl, rfl, rfl, by decide⟩
      refine goI0 (trV (As := [.int 1]) (rest := []) ⟨hx, hb, hml, hown, hts⟩ gd_good (c_Mo_refused l D cB cI cJ mo m_row m_shelves m_many m_widths m_mark m_shownMark m_stack m_places m_kinds m_ats m_ends z_fault (nI n) z_marks z_shown z_wasRun z_wrong z_ended z_steps z_hints z_hasWidth z_width z_first z_moved z_deepest z_x z_y z_top z_depth 1) cal_Mo_refused ml_Mo_51 ⟨Nat.le_of_ble_eq_true rfl, Nat.le_of_ble_eq_true rfl⟩ hZ hP hD hC 0 (ci := 8) rfl rfl rfl rfl hl.1 rfl (Nat.le_of_ble_eq_true rfl) d_Mo_put_33 ⟨Nat.le_of_ble_eq_true rfl, Nat.le_of_ble_eq_true rfl⟩) hZ hP hD hS hC (fun r_33 w1 H locs hq hP hD hS => ?_)
      obtain ⟨rq_33, rfl⟩ := hq
      have rq_33 : r_33 = 1 := rq_33
      subst rq_33
      have hP : va_P D classes [(m_row, .inl (cI, 16384, .inl g_row)), (mo, .inr (8, [.int 1, .int (nI n), .ref m_row, .ref m_shelves, .ref m_many, .ref m_widths, .int z_marks, .ref m_mark, .int z_shown, .ref m_shownMark, .int z_wasRun, .int z_wrong, .int z_ended, .int z_steps, .int z_hints, .int z_hasWidth, .int z_width, .int z_first, .int z_moved, .int z_deepest, .int z_x, .int z_y, .int z_top, .ref m_stack, .ref m_places, .int z_depth, .ref m_kinds, .ref m_ats, .ref m_ends]))] H := hP
      have hD : va_D A_ [(m_row, .inl (cI, 16384, .inl g_row)), (mo, .inr (8, [.int 1, .int (nI n), .ref m_row, .ref m_shelves, .ref m_many, .ref m_widths, .int z_marks, .ref m_mark, .int z_shown, .ref m_shownMark, .int z_wasRun, .int z_wrong, .int z_ended, .int z_steps, .int z_hints, .int z_hasWidth, .int z_width, .int z_first, .int z_moved, .int z_deepest, .int z_x, .int z_y, .int z_top, .ref m_stack, .ref m_places, .int z_depth, .ref m_kinds, .ref m_ats, .ref m_ends]))] := hD
      refine lv_if_eq (tgt := 41) hx hb d_Mo_put_36 (by decide) (fun c_36 => absurd c_36 (by decide)) (fun c_36 => ?_)
      clear c_36
      refine lv_iconst (v := 0) hx hb d_Mo_put_39 (by decide) ?_
      exact t_iret hx hb hr hlk d_Mo_put_40 (hP.subm (ws' := [(mo, .inr (8, [.int 1, .int (nI n), .ref m_row, .ref m_shelves, .ref m_many, .ref m_widths, .int z_marks, .ref m_mark, .int z_shown, .ref m_shownMark, .int z_wasRun, .int z_wrong, .int z_ended, .int z_steps, .int z_hints, .int z_hasWidth, .int z_width, .int z_first, .int z_moved, .int z_deepest, .int z_x, .int z_y, .int z_top, .ref m_stack, .ref m_places, .int z_depth, .ref m_kinds, .ref m_ats, .ref m_ends])), (m_row, .inl (cI, 16384, .inl g_row))]) [1, 0] rfl) (hD.sub (ws' := [(mo, .inr (8, [.int 1, .int (nI n), .ref m_row, .ref m_shelves, .ref m_many, .ref m_widths, .int z_marks, .ref m_mark, .int z_shown, .ref m_shownMark, .int z_wasRun, .int z_wrong, .int z_ended, .int z_steps, .int z_hints, .int z_hasWidth, .int z_width, .int z_first, .int z_moved, .int z_deepest, .int z_x, .int z_y, .int z_top, .ref m_stack, .ref m_places, .int z_depth, .ref m_kinds, .ref m_ats, .ref m_ends])), (m_row, .inl (cI, 16384, .inl g_row))]) [1, 0] rfl rfl) hS ⟨_, rfl, rfl, rfl, Or.inl ⟨fun z => c_10 z.2, rfl, rfl⟩⟩
set_option maxHeartbeats 1000000 in
set_option maxRecDepth 100000 in
theorem c_Mo_isShelf_short (l : Launch) (D : va_G) (cB cI cJ : ClassId) (mo m_row m_shelves m_many m_widths m_mark m_shownMark m_stack m_places m_kinds m_ats m_ends : Nat) (z_fault z_marks z_shown z_wasRun z_wrong z_ended z_steps z_hints z_hasWidth z_width z_first z_moved z_deepest z_x z_y z_top z_depth : Int32) (n : Nat) (hn : n < 2) : Ro l D classes (TY cB cI cJ) gd_tbl nx_tbl y_Mo_isShelf b_Mo_isShelf 5 (some .boolean) ({ frames := 0, cells := 0, slots := 0, locals := 0 }) [.ref mo] [(mo, .inr (8, [.int z_fault, .int (nI n), .ref m_row, .ref m_shelves, .ref m_many, .ref m_widths, .int z_marks, .ref m_mark, .int z_shown, .ref m_shownMark, .int z_wasRun, .int z_wrong, .int z_ended, .int z_steps, .int z_hints, .int z_hasWidth, .int z_width, .int z_first, .int z_moved, .int z_deepest, .int z_x, .int z_y, .int z_top, .ref m_stack, .ref m_places, .int z_depth, .ref m_kinds, .ref m_ats, .ref m_ends]))] (fun v => v = .int 0) := by
  refine Ro.intro (by decide +kernel) nx_ok (Nat.le_of_ble_eq_true rfl) ?_
  intro p_ e_ s_ m_ args_ below_ meth_ c_ A_ ls hx hb hml hown hts hr hlk hnm hZ hP hD hl
  have hl : lv_has ls 5 [(0, .ref mo)] := hl
  refine lv_aload_n hx hb d_Mo_isShelf_0 rfl (lv_at hl 0 rfl) ?_
  refine va_get (D := D) (ci := 8) (v := .int (nI n)) (C := R_Mo) (T := F_Mo) (N := 29) hx hb hts i_Mo hown hZ.1 hP 0 rfl rfl 1 (by decide) (hts _ fl_Mo_48) (fun _ h9 => h9) rfl d_Mo_isShelf_1 ?_
  refine lv_iconst (v := 2) hx hb d_Mo_isShelf_4 (by decide) ?_
  refine lv_icmp_ge (tgt := 10) hx hb d_Mo_isShelf_5 (by decide) (fun c_5 => absurd c_5 (nI_ge (b := 2) hn (by omega))) (fun c_5 => ?_)
  refine lv_iconst (v := 0) hx hb d_Mo_isShelf_8 (by decide) ?_
  exact r_zret hx hb hr hlk (by decide) d_Mo_isShelf_9 rfl
set_option maxHeartbeats 1000000 in
set_option maxRecDepth 100000 in
theorem c_Mo_take_short (l : Launch) (D : va_G) (cB cI cJ : ClassId) (mo m_row m_shelves m_many m_widths m_mark m_shownMark m_stack m_places m_kinds m_ats m_ends : Nat) (z_fault z_marks z_shown z_wasRun z_wrong z_ended z_steps z_hints z_hasWidth z_width z_first z_moved z_deepest z_x z_y z_top z_depth : Int32) (n : Nat) (k : Int32) (hn : n < 2) : Tr l D classes (TY cB cI cJ) gd_tbl nx_tbl y_Mo_take b_Mo_take 3 (some .int) ({ frames := 1, cells := 0, slots := 0, locals := 24 }) [.ref mo, .int k] [(mo, .inr (8, [.int z_fault, .int (nI n), .ref m_row, .ref m_shelves, .ref m_many, .ref m_widths, .int z_marks, .ref m_mark, .int z_shown, .ref m_shownMark, .int z_wasRun, .int z_wrong, .int z_ended, .int z_steps, .int z_hints, .int z_hasWidth, .int z_width, .int z_first, .int z_moved, .int z_deepest, .int z_x, .int z_y, .int z_top, .ref m_stack, .ref m_places, .int z_depth, .ref m_kinds, .ref m_ats, .ref m_ends]))] (pI0 (fun r w => (isK k = 0 ∧ r = 0 ∧ w = [(mo, .inr (8, [.int 1, .int (nI n), .ref m_row, .ref m_shelves, .ref m_many, .ref m_widths, .int z_marks, .ref m_mark, .int z_shown, .ref m_shownMark, .int z_wasRun, .int z_wrong, .int z_ended, .int z_steps, .int z_hints, .int z_hasWidth, .int z_width, .int z_first, .int z_moved, .int z_deepest, .int z_x, .int z_y, .int z_top, .ref m_stack, .ref m_places, .int z_depth, .ref m_kinds, .ref m_ats, .ref m_ends]))]) ∨ (¬ isK k = 0 ∧ r = -2 ∧ w = [(mo, .inr (8, [.int 0, .int (nI n), .ref m_row, .ref m_shelves, .ref m_many, .ref m_widths, .int z_marks, .ref m_mark, .int z_shown, .ref m_shownMark, .int z_wasRun, .int z_wrong, .int z_ended, .int z_steps, .int z_hints, .int z_hasWidth, .int z_width, .int z_first, .int z_moved, .int z_deepest, .int z_x, .int z_y, .int z_top, .ref m_stack, .ref m_places, .int z_depth, .ref m_kinds, .ref m_ats, .ref m_ends]))]))) := by
  refine Tr.intro (by decide +kernel) nx_ok (Nat.le_of_ble_eq_true rfl) ?_
  intro p_ e_ s_ m_ args_ below_ meth_ c_ A_ ls hx hb hml hown hts hr hlk hnm hZ hP hD hS hl
  have hl : lv_has ls 3 [(0, .ref mo), (1, .int k)] := hl
  refine lv_aload_n hx hb d_Mo_take_0 rfl (lv_at hl 0 rfl) ?_
  refine lv_iload_n hx hb d_Mo_take_1 rfl (lv_at hl 1 rfl) ?_
  refine lv_if_lt (tgt := 10) hx hb d_Mo_take_2 (by decide) (fun c_2 => ?_) (fun c_2 => ?_)
  · refine lv_iconst (v := 1) hx hb d_Mo_take_10 (by decide) ?_
    refine lv_goto (tgt := 15) hx hb d_Mo_take_11 (by decide) ?_
    have hC : Cut [(mo, .inr (8, [.int z_fault, .int (nI n), .ref m_row, .ref m_shelves, .ref m_many, .ref m_widths, .int z_marks, .ref m_mark, .int z_shown, .ref m_shownMark, .int z_wasRun, .int z_wrong, .int z_ended, .int z_steps, .int z_hints, .int z_hasWidth, .int z_width, .int z_first, .int z_moved, .int z_deepest, .int z_x, .int z_y, .int z_top, .ref m_stack, .ref m_places, .int z_depth, .ref m_kinds, .ref m_ats, .ref m_ends]))] [(mo, .inr (8, [.int z_fault, .int (nI n), .ref m_row, .ref m_shelves, .ref m_many, .ref m_widths, .int z_marks, .ref m_mark, .int z_shown, .ref m_shownMark, .int z_wasRun, .int z_wrong, .int z_ended, .int z_steps, .int z_hints, .int z_hasWidth, .int z_width, .int z_first, .int z_moved, .int z_deepest, .int z_x, .int z_y, .int z_top, .ref m_stack, .ref m_places, .int z_depth, .ref m_kinds, .ref m_ats, .ref m_ends]))] [] [0] [] := ⟨rfl, rfl, rfl, rfl, by decide⟩
    refine goI0 (trV (As := [.int 1]) (rest := []) ⟨hx, hb, hml, hown, hts⟩ gd_good (c_Mo_refused l D cB cI cJ mo m_row m_shelves m_many m_widths m_mark m_shownMark m_stack m_places m_kinds m_ats m_ends z_fault (nI n) z_marks z_shown z_wasRun z_wrong z_ended z_steps z_hints z_hasWidth z_width z_first z_moved z_deepest z_x z_y z_top z_depth 1) cal_Mo_refused ml_Mo_51 ⟨Nat.le_of_ble_eq_true rfl, Nat.le_of_ble_eq_true rfl⟩ hZ hP hD hC 0 (ci := 8) rfl rfl rfl rfl hl.1 rfl (Nat.le_of_ble_eq_true rfl) d_Mo_take_15 ⟨Nat.le_of_ble_eq_true rfl, Nat.le_of_ble_eq_true rfl⟩) hZ hP hD hS hC (fun r_15 w1 H locs hq hP hD hS => ?_)
    obtain ⟨rq_15, rfl⟩ := hq
    have rq_15 : r_15 = 1 := rq_15
    subst rq_15
    have hP : va_P D classes [(mo, .inr (8, [.int 1, .int (nI n), .ref m_row, .ref m_shelves, .ref m_many, .ref m_widths, .int z_marks, .ref m_mark, .int z_shown, .ref m_shownMark, .int z_wasRun, .int z_wrong, .int z_ended, .int z_steps, .int z_hints, .int z_hasWidth, .int z_width, .int z_first, .int z_moved, .int z_deepest, .int z_x, .int z_y, .int z_top, .ref m_stack, .ref m_places, .int z_depth, .ref m_kinds, .ref m_ats, .ref m_ends]))] H := hP
    have hD : va_D A_ [(mo, .inr (8, [.int 1, .int (nI n), .ref m_row, .ref m_shelves, .ref m_many, .ref m_widths, .int z_marks, .ref m_mark, .int z_shown, .ref m_shownMark, .int z_wasRun, .int z_wrong, .int z_ended, .int z_steps, .int z_hints, .int z_hasWidth, .int z_width, .int z_first, .int z_moved, .int z_deepest, .int z_x, .int z_y, .int z_top, .ref m_stack, .ref m_places, .int z_depth, .ref m_kinds, .ref m_ats, .ref m_ends]))] := hD
    refine lv_if_eq (tgt := 23) hx hb d_Mo_take_18 (by decide) (fun c_18 => absurd c_18 (by decide)) (fun c_18 => ?_)
    clear c_18
    refine lv_iconst (v := 0) hx hb d_Mo_take_21 (by decide) ?_
    exact t_iret hx hb hr hlk d_Mo_take_22 hP hD hS ⟨_, rfl, rfl, rfl, Or.inl ⟨by simp [isK, c_2], rfl, rfl⟩⟩
  · refine lv_iload_n hx hb d_Mo_take_5 rfl (lv_at hl 1 rfl) ?_
    refine lv_iconst (v := 2) hx hb d_Mo_take_6 (by decide) ?_
    refine lv_icmp_le (tgt := 14) hx hb d_Mo_take_7 (by decide) (fun c_7 => ?_) (fun c_7 => ?_)
    · refine lv_iconst (v := 0) hx hb d_Mo_take_14 (by decide) ?_
      have hC : Cut [(mo, .inr (8, [.int z_fault, .int (nI n), .ref m_row, .ref m_shelves, .ref m_many, .ref m_widths, .int z_marks, .ref m_mark, .int z_shown, .ref m_shownMark, .int z_wasRun, .int z_wrong, .int z_ended, .int z_steps, .int z_hints, .int z_hasWidth, .int z_width, .int z_first, .int z_moved, .int z_deepest, .int z_x, .int z_y, .int z_top, .ref m_stack, .ref m_places, .int z_depth, .ref m_kinds, .ref m_ats, .ref m_ends]))] [(mo, .inr (8, [.int z_fault, .int (nI n), .ref m_row, .ref m_shelves, .ref m_many, .ref m_widths, .int z_marks, .ref m_mark, .int z_shown, .ref m_shownMark, .int z_wasRun, .int z_wrong, .int z_ended, .int z_steps, .int z_hints, .int z_hasWidth, .int z_width, .int z_first, .int z_moved, .int z_deepest, .int z_x, .int z_y, .int z_top, .ref m_stack, .ref m_places, .int z_depth, .ref m_kinds, .ref m_ats, .ref m_ends]))] [] [0] [] := ⟨rfl, rfl, rfl, rfl, by decide⟩
      refine goI0 (trV (As := [.int 0]) (rest := []) ⟨hx, hb, hml, hown, hts⟩ gd_good (c_Mo_refused l D cB cI cJ mo m_row m_shelves m_many m_widths m_mark m_shownMark m_stack m_places m_kinds m_ats m_ends z_fault (nI n) z_marks z_shown z_wasRun z_wrong z_ended z_steps z_hints z_hasWidth z_width z_first z_moved z_deepest z_x z_y z_top z_depth 0) cal_Mo_refused ml_Mo_51 ⟨Nat.le_of_ble_eq_true rfl, Nat.le_of_ble_eq_true rfl⟩ hZ hP hD hC 0 (ci := 8) rfl rfl rfl rfl hl.1 rfl (Nat.le_of_ble_eq_true rfl) d_Mo_take_15 ⟨Nat.le_of_ble_eq_true rfl, Nat.le_of_ble_eq_true rfl⟩) hZ hP hD hS hC (fun r_15 w1 H locs hq hP hD hS => ?_)
      obtain ⟨rq_15, rfl⟩ := hq
      have rq_15 : r_15 = 0 := rq_15
      subst rq_15
      have hP : va_P D classes [(mo, .inr (8, [.int 0, .int (nI n), .ref m_row, .ref m_shelves, .ref m_many, .ref m_widths, .int z_marks, .ref m_mark, .int z_shown, .ref m_shownMark, .int z_wasRun, .int z_wrong, .int z_ended, .int z_steps, .int z_hints, .int z_hasWidth, .int z_width, .int z_first, .int z_moved, .int z_deepest, .int z_x, .int z_y, .int z_top, .ref m_stack, .ref m_places, .int z_depth, .ref m_kinds, .ref m_ats, .ref m_ends]))] H := hP
      have hD : va_D A_ [(mo, .inr (8, [.int 0, .int (nI n), .ref m_row, .ref m_shelves, .ref m_many, .ref m_widths, .int z_marks, .ref m_mark, .int z_shown, .ref m_shownMark, .int z_wasRun, .int z_wrong, .int z_ended, .int z_steps, .int z_hints, .int z_hasWidth, .int z_width, .int z_first, .int z_moved, .int z_deepest, .int z_x, .int z_y, .int z_top, .ref m_stack, .ref m_places, .int z_depth, .ref m_kinds, .ref m_ats, .ref m_ends]))] := hD
      refine lv_if_eq (tgt := 23) hx hb d_Mo_take_18 (by decide) (fun c_18 => ?_) (fun c_18 => absurd (by decide) c_18)
      clear c_18
      refine lv_aload_n hx hb d_Mo_take_23 rfl (lv_at hl 0 rfl) ?_
      refine roV (As := []) (rest := []) ⟨hx, hb, hml, hown, hts⟩ gd_good (c_Mo_isShelf_short l D cB cI cJ mo m_row m_shelves m_many m_widths m_mark m_shownMark m_stack m_places m_kinds m_ats m_ends 0 z_marks z_shown z_wasRun z_wrong z_ended z_steps z_hints z_hasWidth z_width z_first z_moved z_deepest z_x z_y z_top z_depth n hn) cal_Mo_isShelf ml_Mo_61 ⟨Nat.le_of_ble_eq_true rfl, Nat.le_of_ble_eq_true rfl⟩ hZ hP hD (isC := [0]) ⟨rfl, rfl⟩ 0 (ci := 8) rfl rfl rfl rfl hl.1 rfl (Nat.le_of_ble_eq_true rfl) d_Mo_take_24 ⟨Nat.le_of_ble_eq_true rfl, Nat.le_of_ble_eq_true rfl⟩ (fun v hv => ?_)
      subst hv
      refine lv_if_ne (tgt := 33) hx hb d_Mo_take_27 (by decide) (fun c_27 => absurd c_27 (by decide)) (fun c_27 => ?_)
      clear c_27
      refine lv_bipush (v := (-2)) hx hb d_Mo_take_30 (by decide) ?_
      exact t_iret hx hb hr hlk d_Mo_take_32 hP hD hS ⟨_, rfl, rfl, rfl, Or.inr ⟨isK_ok c_2 c_7, rfl, rfl⟩⟩
    · refine lv_iconst (v := 1) hx hb d_Mo_take_10 (by decide) ?_
      refine lv_goto (tgt := 15) hx hb d_Mo_take_11 (by decide) ?_
      have hC : Cut [(mo, .inr (8, [.int z_fault, .int (nI n), .ref m_row, .ref m_shelves, .ref m_many, .ref m_widths, .int z_marks, .ref m_mark, .int z_shown, .ref m_shownMark, .int z_wasRun, .int z_wrong, .int z_ended, .int z_steps, .int z_hints, .int z_hasWidth, .int z_width, .int z_first, .int z_moved, .int z_deepest, .int z_x, .int z_y, .int z_top, .ref m_stack, .ref m_places, .int z_depth, .ref m_kinds, .ref m_ats, .ref m_ends]))] [(mo, .inr (8, [.int z_fault, .int (nI n), .ref m_row, .ref m_shelves, .ref m_many, .ref m_widths, .int z_marks, .ref m_mark, .int z_shown, .ref m_shownMark, .int z_wasRun, .int z_wrong, .int z_ended, .int z_steps, .int z_hints, .int z_hasWidth, .int z_width, .int z_first, .int z_moved, .int z_deepest, .int z_x, .int z_y, .int z_top, .ref m_stack, .ref m_places, .int z_depth, .ref m_kinds, .ref m_ats, .ref m_ends]))] [] [0] [] := ⟨rfl, rfl, rfl, rfl, by decide⟩
      refine goI0 (trV (As := [.int 1]) (rest := []) ⟨hx, hb, hml, hown, hts⟩ gd_good (c_Mo_refused l D cB cI cJ mo m_row m_shelves m_many m_widths m_mark m_shownMark m_stack m_places m_kinds m_ats m_ends z_fault (nI n) z_marks z_shown z_wasRun z_wrong z_ended z_steps z_hints z_hasWidth z_width z_first z_moved z_deepest z_x z_y z_top z_depth 1) cal_Mo_refused ml_Mo_51 ⟨Nat.le_of_ble_eq_true rfl, Nat.le_of_ble_eq_true rfl⟩ hZ hP hD hC 0 (ci := 8) rfl rfl rfl rfl hl.1 rfl (Nat.le_of_ble_eq_true rfl) d_Mo_take_15 ⟨Nat.le_of_ble_eq_true rfl, Nat.le_of_ble_eq_true rfl⟩) hZ hP hD hS hC (fun r_15 w1 H locs hq hP hD hS => ?_)
      obtain ⟨rq_15, rfl⟩ := hq
      have rq_15 : r_15 = 1 := rq_15
      subst rq_15
      have hP : va_P D classes [(mo, .inr (8, [.int 1, .int (nI n), .ref m_row, .ref m_shelves, .ref m_many, .ref m_widths, .int z_marks, .ref m_mark, .int z_shown, .ref m_shownMark, .int z_wasRun, .int z_wrong, .int z_ended, .int z_steps, .int z_hints, .int z_hasWidth, .int z_width, .int z_first, .int z_moved, .int z_deepest, .int z_x, .int z_y, .int z_top, .ref m_stack, .ref m_places, .int z_depth, .ref m_kinds, .ref m_ats, .ref m_ends]))] H := hP
      have hD : va_D A_ [(mo, .inr (8, [.int 1, .int (nI n), .ref m_row, .ref m_shelves, .ref m_many, .ref m_widths, .int z_marks, .ref m_mark, .int z_shown, .ref m_shownMark, .int z_wasRun, .int z_wrong, .int z_ended, .int z_steps, .int z_hints, .int z_hasWidth, .int z_width, .int z_first, .int z_moved, .int z_deepest, .int z_x, .int z_y, .int z_top, .ref m_stack, .ref m_places, .int z_depth, .ref m_kinds, .ref m_ats, .ref m_ends]))] := hD
      refine lv_if_eq (tgt := 23) hx hb d_Mo_take_18 (by decide) (fun c_18 => absurd c_18 (by decide)) (fun c_18 => ?_)
      clear c_18
      refine lv_iconst (v := 0) hx hb d_Mo_take_21 (by decide) ?_
      exact t_iret hx hb hr hlk d_Mo_take_22 hP hD hS ⟨_, rfl, rfl, rfl, Or.inl ⟨isK_hi c_7, rfl, rfl⟩⟩
set_option maxHeartbeats 1000000 in
set_option maxRecDepth 100000 in
theorem c_Mo_count (l : Launch) (D : va_G) (cB cI cJ : ClassId) (mo m_row m_shelves m_many m_widths m_mark m_shownMark m_stack m_places m_kinds m_ats m_ends : Nat) (z_fault z_size z_marks z_shown z_wasRun z_wrong z_ended z_steps z_hints z_hasWidth z_width z_first z_moved z_deepest z_x z_y z_top z_depth : Int32) (g_many : Nat → Int32) (k : Int32) : Tr l D classes (TY cB cI cJ) gd_tbl nx_tbl y_Mo_count b_Mo_count 2 (some .int) ({ frames := 1, cells := 0, slots := 0, locals := 21 }) [.ref mo, .int k] [(mo, .inr (8, [.int z_fault, .int z_size, .ref m_row, .ref m_shelves, .ref m_many, .ref m_widths, .int z_marks, .ref m_mark, .int z_shown, .ref m_shownMark, .int z_wasRun, .int z_wrong, .int z_ended, .int z_steps, .int z_hints, .int z_hasWidth, .int z_width, .int z_first, .int z_moved, .int z_deepest, .int z_x, .int z_y, .int z_top, .ref m_stack, .ref m_places, .int z_depth, .ref m_kinds, .ref m_ats, .ref m_ends])), (m_many, .inl (cI, 3, .inl g_many))] (pI0 (fun r w => (isK k = 0 ∧ r = 0 ∧ w = [(mo, .inr (8, [.int 1, .int z_size, .ref m_row, .ref m_shelves, .ref m_many, .ref m_widths, .int z_marks, .ref m_mark, .int z_shown, .ref m_shownMark, .int z_wasRun, .int z_wrong, .int z_ended, .int z_steps, .int z_hints, .int z_hasWidth, .int z_width, .int z_first, .int z_moved, .int z_deepest, .int z_x, .int z_y, .int z_top, .ref m_stack, .ref m_places, .int z_depth, .ref m_kinds, .ref m_ats, .ref m_ends])), (m_many, .inl (cI, 3, .inl g_many))]) ∨ (¬ isK k = 0 ∧ r = g_many k.toNatClampNeg ∧ w = [(mo, .inr (8, [.int 0, .int z_size, .ref m_row, .ref m_shelves, .ref m_many, .ref m_widths, .int z_marks, .ref m_mark, .int z_shown, .ref m_shownMark, .int z_wasRun, .int z_wrong, .int z_ended, .int z_steps, .int z_hints, .int z_hasWidth, .int z_width, .int z_first, .int z_moved, .int z_deepest, .int z_x, .int z_y, .int z_top, .ref m_stack, .ref m_places, .int z_depth, .ref m_kinds, .ref m_ats, .ref m_ends])), (m_many, .inl (cI, 3, .inl g_many))]))) := by
  refine Tr.intro (by decide +kernel) nx_ok (Nat.le_of_ble_eq_true rfl) ?_
  intro p_ e_ s_ m_ args_ below_ meth_ c_ A_ ls hx hb hml hown hts hr hlk hnm hZ hP hD hS hl
  have hl : lv_has ls 2 [(0, .ref mo), (1, .int k)] := hl
  refine lv_aload_n hx hb d_Mo_count_0 rfl (lv_at hl 0 rfl) ?_
  refine lv_iload_n hx hb d_Mo_count_1 rfl (lv_at hl 1 rfl) ?_
  refine lv_if_lt (tgt := 10) hx hb d_Mo_count_2 (by decide) (fun c_2 => ?_) (fun c_2 => ?_)
  · refine lv_iconst (v := 1) hx hb d_Mo_count_10 (by decide) ?_
    refine lv_goto (tgt := 15) hx hb d_Mo_count_11 (by decide) ?_
    have hC : Cut [(mo, .inr (8, [.int z_fault, .int z_size, .ref m_row, .ref m_shelves, .ref m_many, .ref m_widths, .int z_marks, .ref m_mark, .int z_shown, .ref m_shownMark, .int z_wasRun, .int z_wrong, .int z_ended, .int z_steps, .int z_hints, .int z_hasWidth, .int z_width, .int z_first, .int z_moved, .int z_deepest, .int z_x, .int z_y, .int z_top, .ref m_stack, .ref m_places, .int z_depth, .ref m_kinds, .ref m_ats, .ref m_ends])), (m_many, .inl (cI, 3, .inl g_many))] [(mo, .inr (8, [.int z_fault, .int z_size, .ref m_row, .ref m_shelves, .ref m_many, .ref m_widths, .int z_marks, .ref m_mark, .int z_shown, .ref m_shownMark, .int z_wasRun, .int z_wrong, .int z_ended, .int z_steps, .int z_hints, .int z_hasWidth, .int z_width, .int z_first, .int z_moved, .int z_deepest, .int z_x, .int z_y, .int z_top, .ref m_stack, .ref m_places, .int z_depth, .ref m_kinds, .ref m_ats, .ref m_ends]))] [(m_many, .inl (cI, 3, .inl g_many))] [0] [1] := ⟨rfl, rfl, rfl, rfl, by decide⟩
    refine goI0 (trV (As := [.int 1]) (rest := []) ⟨hx, hb, hml, hown, hts⟩ gd_good (c_Mo_refused l D cB cI cJ mo m_row m_shelves m_many m_widths m_mark m_shownMark m_stack m_places m_kinds m_ats m_ends z_fault z_size z_marks z_shown z_wasRun z_wrong z_ended z_steps z_hints z_hasWidth z_width z_first z_moved z_deepest z_x z_y z_top z_depth 1) cal_Mo_refused ml_Mo_51 ⟨Nat.le_of_ble_eq_true rfl, Nat.le_of_ble_eq_true rfl⟩ hZ hP hD hC 0 (ci := 8) rfl rfl rfl rfl hl.1 rfl (Nat.le_of_ble_eq_true rfl) d_Mo_count_15 ⟨Nat.le_of_ble_eq_true rfl, Nat.le_of_ble_eq_true rfl⟩) hZ hP hD hS hC (fun r_15 w1 H locs hq hP hD hS => ?_)
    obtain ⟨rq_15, rfl⟩ := hq
    have rq_15 : r_15 = 1 := rq_15
    subst rq_15
    have hP : va_P D classes [(m_many, .inl (cI, 3, .inl g_many)), (mo, .inr (8, [.int 1, .int z_size, .ref m_row, .ref m_shelves, .ref m_many, .ref m_widths, .int z_marks, .ref m_mark, .int z_shown, .ref m_shownMark, .int z_wasRun, .int z_wrong, .int z_ended, .int z_steps, .int z_hints, .int z_hasWidth, .int z_width, .int z_first, .int z_moved, .int z_deepest, .int z_x, .int z_y, .int z_top, .ref m_stack, .ref m_places, .int z_depth, .ref m_kinds, .ref m_ats, .ref m_ends]))] H := hP
    have hD : va_D A_ [(m_many, .inl (cI, 3, .inl g_many)), (mo, .inr (8, [.int 1, .int z_size, .ref m_row, .ref m_shelves, .ref m_many, .ref m_widths, .int z_marks, .ref m_mark, .int z_shown, .ref m_shownMark, .int z_wasRun, .int z_wrong, .int z_ended, .int z_steps, .int z_hints, .int z_hasWidth, .int z_width, .int z_first, .int z_moved, .int z_deepest, .int z_x, .int z_y, .int z_top, .ref m_stack, .ref m_places, .int z_depth, .ref m_kinds, .ref m_ats, .ref m_ends]))] := hD
    refine lv_if_eq (tgt := 25) hx hb d_Mo_count_18 (by decide) (fun c_18 => absurd c_18 (by decide)) (fun c_18 => ?_)
    clear c_18
    refine lv_iconst (v := 0) hx hb d_Mo_count_21 (by decide) ?_
    refine lv_goto (tgt := 31) hx hb d_Mo_count_22 (by decide) ?_
    exact t_iret hx hb hr hlk d_Mo_count_31 (hP.subm (ws' := [(mo, .inr (8, [.int 1, .int z_size, .ref m_row, .ref m_shelves, .ref m_many, .ref m_widths, .int z_marks, .ref m_mark, .int z_shown, .ref m_shownMark, .int z_wasRun, .int z_wrong, .int z_ended, .int z_steps, .int z_hints, .int z_hasWidth, .int z_width, .int z_first, .int z_moved, .int z_deepest, .int z_x, .int z_y, .int z_top, .ref m_stack, .ref m_places, .int z_depth, .ref m_kinds, .ref m_ats, .ref m_ends])), (m_many, .inl (cI, 3, .inl g_many))]) [1, 0] rfl) (hD.sub (ws' := [(mo, .inr (8, [.int 1, .int z_size, .ref m_row, .ref m_shelves, .ref m_many, .ref m_widths, .int z_marks, .ref m_mark, .int z_shown, .ref m_shownMark, .int z_wasRun, .int z_wrong, .int z_ended, .int z_steps, .int z_hints, .int z_hasWidth, .int z_width, .int z_first, .int z_moved, .int z_deepest, .int z_x, .int z_y, .int z_top, .ref m_stack, .ref m_places, .int z_depth, .ref m_kinds, .ref m_ats, .ref m_ends])), (m_many, .inl (cI, 3, .inl g_many))]) [1, 0] rfl rfl) hS ⟨_, rfl, rfl, rfl, Or.inl ⟨by simp [isK, c_2], rfl, rfl⟩⟩
  · refine lv_iload_n hx hb d_Mo_count_5 rfl (lv_at hl 1 rfl) ?_
    refine lv_iconst (v := 2) hx hb d_Mo_count_6 (by decide) ?_
    refine lv_icmp_le (tgt := 14) hx hb d_Mo_count_7 (by decide) (fun c_7 => ?_) (fun c_7 => ?_)
    · refine lv_iconst (v := 0) hx hb d_Mo_count_14 (by decide) ?_
      have hC : Cut [(mo, .inr (8, [.int z_fault, .int z_size, .ref m_row, .ref m_shelves, .ref m_many, .ref m_widths, .int z_marks, .ref m_mark, .int z_shown, .ref m_shownMark, .int z_wasRun, .int z_wrong, .int z_ended, .int z_steps, .int z_hints, .int z_hasWidth, .int z_width, .int z_first, .int z_moved, .int z_deepest, .int z_x, .int z_y, .int z_top, .ref m_stack, .ref m_places, .int z_depth, .ref m_kinds, .ref m_ats, .ref m_ends])), (m_many, .inl (cI, 3, .inl g_many))] [(mo, .inr (8, [.int z_fault, .int z_size, .ref m_row, .ref m_shelves, .ref m_many, .ref m_widths, .int z_marks, .ref m_mark, .int z_shown, .ref m_shownMark, .int z_wasRun, .int z_wrong, .int z_ended, .int z_steps, .int z_hints, .int z_hasWidth, .int z_width, .int z_first, .int z_moved, .int z_deepest, .int z_x, .int z_y, .int z_top, .ref m_stack, .ref m_places, .int z_depth, .ref m_kinds, .ref m_ats, .ref m_ends]))] [(m_many, .inl (cI, 3, .inl g_many))] [0] [1] := ⟨rfl, rfl, rfl, rfl, by decide⟩
      refine goI0 (trV (As := [.int 0]) (rest := []) ⟨hx, hb, hml, hown, hts⟩ gd_good (c_Mo_refused l D cB cI cJ mo m_row m_shelves m_many m_widths m_mark m_shownMark m_stack m_places m_kinds m_ats m_ends z_fault z_size z_marks z_shown z_wasRun z_wrong z_ended z_steps z_hints z_hasWidth z_width z_first z_moved z_deepest z_x z_y z_top z_depth 0) cal_Mo_refused ml_Mo_51 ⟨Nat.le_of_ble_eq_true rfl, Nat.le_of_ble_eq_true rfl⟩ hZ hP hD hC 0 (ci := 8) rfl rfl rfl rfl hl.1 rfl (Nat.le_of_ble_eq_true rfl) d_Mo_count_15 ⟨Nat.le_of_ble_eq_true rfl, Nat.le_of_ble_eq_true rfl⟩) hZ hP hD hS hC (fun r_15 w1 H locs hq hP hD hS => ?_)
      obtain ⟨rq_15, rfl⟩ := hq
      have rq_15 : r_15 = 0 := rq_15
      subst rq_15
      have hP : va_P D classes [(m_many, .inl (cI, 3, .inl g_many)), (mo, .inr (8, [.int 0, .int z_size, .ref m_row, .ref m_shelves, .ref m_many, .ref m_widths, .int z_marks, .ref m_mark, .int z_shown, .ref m_shownMark, .int z_wasRun, .int z_wrong, .int z_ended, .int z_steps, .int z_hints, .int z_hasWidth, .int z_width, .int z_first, .int z_moved, .int z_deepest, .int z_x, .int z_y, .int z_top, .ref m_stack, .ref m_places, .int z_depth, .ref m_kinds, .ref m_ats, .ref m_ends]))] H := hP
      have hD : va_D A_ [(m_many, .inl (cI, 3, .inl g_many)), (mo, .inr (8, [.int 0, .int z_size, .ref m_row, .ref m_shelves, .ref m_many, .ref m_widths, .int z_marks, .ref m_mark, .int z_shown, .ref m_shownMark, .int z_wasRun, .int z_wrong, .int z_ended, .int z_steps, .int z_hints, .int z_hasWidth, .int z_width, .int z_first, .int z_moved, .int z_deepest, .int z_x, .int z_y, .int z_top, .ref m_stack, .ref m_places, .int z_depth, .ref m_kinds, .ref m_ats, .ref m_ends]))] := hD
      refine lv_if_eq (tgt := 25) hx hb d_Mo_count_18 (by decide) (fun c_18 => ?_) (fun c_18 => absurd (by decide) c_18)
      clear c_18
      refine lv_aload_n hx hb d_Mo_count_25 rfl (lv_at hl 0 rfl) ?_
      refine va_get (D := D) (ci := 8) (v := .ref m_many) (C := R_Mo) (T := F_Mo) (N := 29) hx hb hts i_Mo hown hZ.1 hP 1 rfl rfl 4 (by decide) (hts _ fl_Mo_17) (fun _ h9 => h9) rfl d_Mo_count_26 ?_
      refine lv_iload_n hx hb d_Mo_count_29 rfl (lv_at hl 1 rfl) ?_
      refine va_iald hx hb hZ.1 hP 0 1 rfl rfl (in_3 c_2 c_7) d_Mo_count_30 ?_
      exact t_iret hx hb hr hlk d_Mo_count_31 (hP.subm (ws' := [(mo, .inr (8, [.int 0, .int z_size, .ref m_row, .ref m_shelves, .ref m_many, .ref m_widths, .int z_marks, .ref m_mark, .int z_shown, .ref m_shownMark, .int z_wasRun, .int z_wrong, .int z_ended, .int z_steps, .int z_hints, .int z_hasWidth, .int z_width, .int z_first, .int z_moved, .int z_deepest, .int z_x, .int z_y, .int z_top, .ref m_stack, .ref m_places, .int z_depth, .ref m_kinds, .ref m_ats, .ref m_ends])), (m_many, .inl (cI, 3, .inl g_many))]) [1, 0] rfl) (hD.sub (ws' := [(mo, .inr (8, [.int 0, .int z_size, .ref m_row, .ref m_shelves, .ref m_many, .ref m_widths, .int z_marks, .ref m_mark, .int z_shown, .ref m_shownMark, .int z_wasRun, .int z_wrong, .int z_ended, .int z_steps, .int z_hints, .int z_hasWidth, .int z_width, .int z_first, .int z_moved, .int z_deepest, .int z_x, .int z_y, .int z_top, .ref m_stack, .ref m_places, .int z_depth, .ref m_kinds, .ref m_ats, .ref m_ends])), (m_many, .inl (cI, 3, .inl g_many))]) [1, 0] rfl rfl) hS ⟨_, rfl, rfl, rfl, Or.inr ⟨isK_ok c_2 c_7, rfl, rfl⟩⟩
    · refine lv_iconst (v := 1) hx hb d_Mo_count_10 (by decide) ?_
      refine lv_goto (tgt := 15) hx hb d_Mo_count_11 (by decide) ?_
      have hC : Cut [(mo, .inr (8, [.int z_fault, .int z_size, .ref m_row, .ref m_shelves, .ref m_many, .ref m_widths, .int z_marks, .ref m_mark, .int z_shown, .ref m_shownMark, .int z_wasRun, .int z_wrong, .int z_ended, .int z_steps, .int z_hints, .int z_hasWidth, .int z_width, .int z_first, .int z_moved, .int z_deepest, .int z_x, .int z_y, .int z_top, .ref m_stack, .ref m_places, .int z_depth, .ref m_kinds, .ref m_ats, .ref m_ends])), (m_many, .inl (cI, 3, .inl g_many))] [(mo, .inr (8, [.int z_fault, .int z_size, .ref m_row, .ref m_shelves, .ref m_many, .ref m_widths, .int z_marks, .ref m_mark, .int z_shown, .ref m_shownMark, .int z_wasRun, .int z_wrong, .int z_ended, .int z_steps, .int z_hints, .int z_hasWidth, .int z_width, .int z_first, .int z_moved, .int z_deepest, .int z_x, .int z_y, .int z_top, .ref m_stack, .ref m_places, .int z_depth, .ref m_kinds, .ref m_ats, .ref m_ends]))] [(m_many, .inl (cI, 3, .inl g_many))] [0] [1] := ⟨rfl, rfl, rfl, rfl, by decide⟩
      refine goI0 (trV (As := [.int 1]) (rest := []) ⟨hx, hb, hml, hown, hts⟩ gd_good (c_Mo_refused l D cB cI cJ mo m_row m_shelves m_many m_widths m_mark m_shownMark m_stack m_places m_kinds m_ats m_ends z_fault z_size z_marks z_shown z_wasRun z_wrong z_ended z_steps z_hints z_hasWidth z_width z_first z_moved z_deepest z_x z_y z_top z_depth 1) cal_Mo_refused ml_Mo_51 ⟨Nat.le_of_ble_eq_true rfl, Nat.le_of_ble_eq_true rfl⟩ hZ hP hD hC 0 (ci := 8) rfl rfl rfl rfl hl.1 rfl (Nat.le_of_ble_eq_true rfl) d_Mo_count_15 ⟨Nat.le_of_ble_eq_true rfl, Nat.le_of_ble_eq_true rfl⟩) hZ hP hD hS hC (fun r_15 w1 H locs hq hP hD hS => ?_)
      obtain ⟨rq_15, rfl⟩ := hq
      have rq_15 : r_15 = 1 := rq_15
      subst rq_15
      have hP : va_P D classes [(m_many, .inl (cI, 3, .inl g_many)), (mo, .inr (8, [.int 1, .int z_size, .ref m_row, .ref m_shelves, .ref m_many, .ref m_widths, .int z_marks, .ref m_mark, .int z_shown, .ref m_shownMark, .int z_wasRun, .int z_wrong, .int z_ended, .int z_steps, .int z_hints, .int z_hasWidth, .int z_width, .int z_first, .int z_moved, .int z_deepest, .int z_x, .int z_y, .int z_top, .ref m_stack, .ref m_places, .int z_depth, .ref m_kinds, .ref m_ats, .ref m_ends]))] H := hP
      have hD : va_D A_ [(m_many, .inl (cI, 3, .inl g_many)), (mo, .inr (8, [.int 1, .int z_size, .ref m_row, .ref m_shelves, .ref m_many, .ref m_widths, .int z_marks, .ref m_mark, .int z_shown, .ref m_shownMark, .int z_wasRun, .int z_wrong, .int z_ended, .int z_steps, .int z_hints, .int z_hasWidth, .int z_width, .int z_first, .int z_moved, .int z_deepest, .int z_x, .int z_y, .int z_top, .ref m_stack, .ref m_places, .int z_depth, .ref m_kinds, .ref m_ats, .ref m_ends]))] := hD
      refine lv_if_eq (tgt := 25) hx hb d_Mo_count_18 (by decide) (fun c_18 => absurd c_18 (by decide)) (fun c_18 => ?_)
      clear c_18
      refine lv_iconst (v := 0) hx hb d_Mo_count_21 (by decide) ?_
      refine lv_goto (tgt := 31) hx hb d_Mo_count_22 (by decide) ?_
      exact t_iret hx hb hr hlk d_Mo_count_31 (hP.subm (ws' := [(mo, .inr (8, [.int 1, .int z_size, .ref m_row, .ref m_shelves, .ref m_many, .ref m_widths, .int z_marks, .ref m_mark, .int z_shown, .ref m_shownMark, .int z_wasRun, .int z_wrong, .int z_ended, .int z_steps, .int z_hints, .int z_hasWidth, .int z_width, .int z_first, .int z_moved, .int z_deepest, .int z_x, .int z_y, .int z_top, .ref m_stack, .ref m_places, .int z_depth, .ref m_kinds, .ref m_ats, .ref m_ends])), (m_many, .inl (cI, 3, .inl g_many))]) [1, 0] rfl) (hD.sub (ws' := [(mo, .inr (8, [.int 1, .int z_size, .ref m_row, .ref m_shelves, .ref m_many, .ref m_widths, .int z_marks, .ref m_mark, .int z_shown, .ref m_shownMark, .int z_wasRun, .int z_wrong, .int z_ended, .int z_steps, .int z_hints, .int z_hasWidth, .int z_width, .int z_first, .int z_moved, .int z_deepest, .int z_x, .int z_y, .int z_top, .ref m_stack, .ref m_places, .int z_depth, .ref m_kinds, .ref m_ats, .ref m_ends])), (m_many, .inl (cI, 3, .inl g_many))]) [1, 0] rfl rfl) hS ⟨_, rfl, rfl, rfl, Or.inl ⟨isK_hi c_7, rfl, rfl⟩⟩
set_option maxHeartbeats 1000000 in
set_option maxRecDepth 100000 in
theorem c_Mo_run_none (l : Launch) (D : va_G) (cB cI cJ : ClassId) (mo m_row m_shelves m_many m_widths m_mark m_shownMark m_stack m_places m_kinds m_ats m_ends : Nat) (z_fault z_size z_marks z_shown z_wasRun z_wrong z_ended z_steps z_hints z_hasWidth z_width z_first z_moved z_deepest z_x z_y z_top z_depth : Int32) (g_many : Nat → Int32) (k : Int32) (h0 : g_many 0 = 0) : Tr l D classes (TY cB cI cJ) gd_tbl nx_tbl y_Mo_run b_Mo_run 3 (some .int) ({ frames := 1, cells := 0, slots := 0, locals := 21 }) [.ref mo, .int k] [(mo, .inr (8, [.int z_fault, .int z_size, .ref m_row, .ref m_shelves, .ref m_many, .ref m_widths, .int z_marks, .ref m_mark, .int z_shown, .ref m_shownMark, .int z_wasRun, .int z_wrong, .int z_ended, .int z_steps, .int z_hints, .int z_hasWidth, .int z_width, .int z_first, .int z_moved, .int z_deepest, .int z_x, .int z_y, .int z_top, .ref m_stack, .ref m_places, .int z_depth, .ref m_kinds, .ref m_ats, .ref m_ends])), (m_many, .inl (cI, 3, .inl g_many))] (pI0 (fun r w => r = 0 ∧ w = [(mo, .inr (8, [.int 1, .int z_size, .ref m_row, .ref m_shelves, .ref m_many, .ref m_widths, .int z_marks, .ref m_mark, .int z_shown, .ref m_shownMark, .int z_wasRun, .int z_wrong, .int z_ended, .int z_steps, .int z_hints, .int z_hasWidth, .int z_width, .int z_first, .int z_moved, .int z_deepest, .int z_x, .int z_y, .int z_top, .ref m_stack, .ref m_places, .int z_depth, .ref m_kinds, .ref m_ats, .ref m_ends])), (m_many, .inl (cI, 3, .inl g_many))])) := by
  refine Tr.intro (by decide +kernel) nx_ok (Nat.le_of_ble_eq_true rfl) ?_
  intro p_ e_ s_ m_ args_ below_ meth_ c_ A_ ls hx hb hml hown hts hr hlk hnm hZ hP hD hS hl
  have hl : lv_has ls 3 [(0, .ref mo), (1, .int k)] := hl
  refine lv_aload_n hx hb d_Mo_run_0 rfl (lv_at hl 0 rfl) ?_
  refine lv_iload_n hx hb d_Mo_run_1 rfl (lv_at hl 1 rfl) ?_
  refine lv_if_lt (tgt := 15) hx hb d_Mo_run_2 (by decide) (fun c_2 => ?_) (fun c_2 => ?_)
  · refine lv_iconst (v := 1) hx hb d_Mo_run_15 (by decide) ?_
    refine lv_goto (tgt := 20) hx hb d_Mo_run_16 (by decide) ?_
    have hC : Cut [(mo, .inr (8, [.int z_fault, .int z_size, .ref m_row, .ref m_shelves, .ref m_many, .ref m_widths, .int z_marks, .ref m_mark, .int z_shown, .ref m_shownMark, .int z_wasRun, .int z_wrong, .int z_ended, .int z_steps, .int z_hints, .int z_hasWidth, .int z_width, .int z_first, .int z_moved, .int z_deepest, .int z_x, .int z_y, .int z_top, .ref m_stack, .ref m_places, .int z_depth, .ref m_kinds, .ref m_ats, .ref m_ends])), (m_many, .inl (cI, 3, .inl g_many))] [(mo, .inr (8, [.int z_fault, .int z_size, .ref m_row, .ref m_shelves, .ref m_many, .ref m_widths, .int z_marks, .ref m_mark, .int z_shown, .ref m_shownMark, .int z_wasRun, .int z_wrong, .int z_ended, .int z_steps, .int z_hints, .int z_hasWidth, .int z_width, .int z_first, .int z_moved, .int z_deepest, .int z_x, .int z_y, .int z_top, .ref m_stack, .ref m_places, .int z_depth, .ref m_kinds, .ref m_ats, .ref m_ends]))] [(m_many, .inl (cI, 3, .inl g_many))] [0] [1] := ⟨rfl, rfl, rfl, rfl, by decide⟩
    refine goI0 (trV (As := [.int 1]) (rest := []) ⟨hx, hb, hml, hown, hts⟩ gd_good (c_Mo_refused l D cB cI cJ mo m_row m_shelves m_many m_widths m_mark m_shownMark m_stack m_places m_kinds m_ats m_ends z_fault z_size z_marks z_shown z_wasRun z_wrong z_ended z_steps z_hints z_hasWidth z_width z_first z_moved z_deepest z_x z_y z_top z_depth 1) cal_Mo_refused ml_Mo_51 ⟨Nat.le_of_ble_eq_true rfl, Nat.le_of_ble_eq_true rfl⟩ hZ hP hD hC 0 (ci := 8) rfl rfl rfl rfl hl.1 rfl (Nat.le_of_ble_eq_true rfl) d_Mo_run_20 ⟨Nat.le_of_ble_eq_true rfl, Nat.le_of_ble_eq_true rfl⟩) hZ hP hD hS hC (fun r_20 w1 H locs hq hP hD hS => ?_)
    obtain ⟨rq_20, rfl⟩ := hq
    have rq_20 : r_20 = 1 := rq_20
    subst rq_20
    have hP : va_P D classes [(m_many, .inl (cI, 3, .inl g_many)), (mo, .inr (8, [.int 1, .int z_size, .ref m_row, .ref m_shelves, .ref m_many, .ref m_widths, .int z_marks, .ref m_mark, .int z_shown, .ref m_shownMark, .int z_wasRun, .int z_wrong, .int z_ended, .int z_steps, .int z_hints, .int z_hasWidth, .int z_width, .int z_first, .int z_moved, .int z_deepest, .int z_x, .int z_y, .int z_top, .ref m_stack, .ref m_places, .int z_depth, .ref m_kinds, .ref m_ats, .ref m_ends]))] H := hP
    have hD : va_D A_ [(m_many, .inl (cI, 3, .inl g_many)), (mo, .inr (8, [.int 1, .int z_size, .ref m_row, .ref m_shelves, .ref m_many, .ref m_widths, .int z_marks, .ref m_mark, .int z_shown, .ref m_shownMark, .int z_wasRun, .int z_wrong, .int z_ended, .int z_steps, .int z_hints, .int z_hasWidth, .int z_width, .int z_first, .int z_moved, .int z_deepest, .int z_x, .int z_y, .int z_top, .ref m_stack, .ref m_places, .int z_depth, .ref m_kinds, .ref m_ats, .ref m_ends]))] := hD
    refine lv_if_eq (tgt := 28) hx hb d_Mo_run_23 (by decide) (fun c_23 => absurd c_23 (by decide)) (fun c_23 => ?_)
    clear c_23
    refine lv_iconst (v := 0) hx hb d_Mo_run_26 (by decide) ?_
    exact t_iret hx hb hr hlk d_Mo_run_27 (hP.subm (ws' := [(mo, .inr (8, [.int 1, .int z_size, .ref m_row, .ref m_shelves, .ref m_many, .ref m_widths, .int z_marks, .ref m_mark, .int z_shown, .ref m_shownMark, .int z_wasRun, .int z_wrong, .int z_ended, .int z_steps, .int z_hints, .int z_hasWidth, .int z_width, .int z_first, .int z_moved, .int z_deepest, .int z_x, .int z_y, .int z_top, .ref m_stack, .ref m_places, .int z_depth, .ref m_kinds, .ref m_ats, .ref m_ends])), (m_many, .inl (cI, 3, .inl g_many))]) [1, 0] rfl) (hD.sub (ws' := [(mo, .inr (8, [.int 1, .int z_size, .ref m_row, .ref m_shelves, .ref m_many, .ref m_widths, .int z_marks, .ref m_mark, .int z_shown, .ref m_shownMark, .int z_wasRun, .int z_wrong, .int z_ended, .int z_steps, .int z_hints, .int z_hasWidth, .int z_width, .int z_first, .int z_moved, .int z_deepest, .int z_x, .int z_y, .int z_top, .ref m_stack, .ref m_places, .int z_depth, .ref m_kinds, .ref m_ats, .ref m_ends])), (m_many, .inl (cI, 3, .inl g_many))]) [1, 0] rfl rfl) hS ⟨_, rfl, rfl, rfl, rfl, rfl⟩
  · refine lv_iload_n hx hb d_Mo_run_5 rfl (lv_at hl 1 rfl) ?_
    refine lv_aload_n hx hb d_Mo_run_6 rfl (lv_at hl 0 rfl) ?_
    refine va_get (D := D) (ci := 8) (v := .ref m_many) (C := R_Mo) (T := F_Mo) (N := 29) hx hb hts i_Mo hown hZ.1 hP 0 rfl rfl 4 (by decide) (hts _ fl_Mo_17) (fun _ h9 => h9) rfl d_Mo_run_7 ?_
    refine lv_iconst (v := 0) hx hb d_Mo_run_10 (by decide) ?_
    refine va_iald hx hb hZ.1 hP 1 1 rfl rfl (show vp_in (nI 0) 3 from vp_in_nI (by decide) (by decide)) d_Mo_run_11 ?_
    refine lv_tv (y := g_many 0) rfl ?_
    refine lv_icmp_lt (tgt := 19) hx hb d_Mo_run_12 (by decide) (fun c_12 => absurd c_12 (fun z => c_2 (by rw [h0] at z; exact z))) (fun c_12 => ?_)
    refine lv_iconst (v := 1) hx hb d_Mo_run_15 (by decide) ?_
    refine lv_goto (tgt := 20) hx hb d_Mo_run_16 (by decide) ?_
    have hC : Cut [(mo, .inr (8, [.int z_fault, .int z_size, .ref m_row, .ref m_shelves, .ref m_many, .ref m_widths, .int z_marks, .ref m_mark, .int z_shown, .ref m_shownMark, .int z_wasRun, .int z_wrong, .int z_ended, .int z_steps, .int z_hints, .int z_hasWidth, .int z_width, .int z_first, .int z_moved, .int z_deepest, .int z_x, .int z_y, .int z_top, .ref m_stack, .ref m_places, .int z_depth, .ref m_kinds, .ref m_ats, .ref m_ends])), (m_many, .inl (cI, 3, .inl g_many))] [(mo, .inr (8, [.int z_fault, .int z_size, .ref m_row, .ref m_shelves, .ref m_many, .ref m_widths, .int z_marks, .ref m_mark, .int z_shown, .ref m_shownMark, .int z_wasRun, .int z_wrong, .int z_ended, .int z_steps, .int z_hints, .int z_hasWidth, .int z_width, .int z_first, .int z_moved, .int z_deepest, .int z_x, .int z_y, .int z_top, .ref m_stack, .ref m_places, .int z_depth, .ref m_kinds, .ref m_ats, .ref m_ends]))] [(m_many, .inl (cI, 3, .inl g_many))] [0] [1] := ⟨rfl, rfl, rfl, rfl, by decide⟩
    refine goI0 (trV (As := [.int 1]) (rest := []) ⟨hx, hb, hml, hown, hts⟩ gd_good (c_Mo_refused l D cB cI cJ mo m_row m_shelves m_many m_widths m_mark m_shownMark m_stack m_places m_kinds m_ats m_ends z_fault z_size z_marks z_shown z_wasRun z_wrong z_ended z_steps z_hints z_hasWidth z_width z_first z_moved z_deepest z_x z_y z_top z_depth 1) cal_Mo_refused ml_Mo_51 ⟨Nat.le_of_ble_eq_true rfl, Nat.le_of_ble_eq_true rfl⟩ hZ hP hD hC 0 (ci := 8) rfl rfl rfl rfl hl.1 rfl (Nat.le_of_ble_eq_true rfl) d_Mo_run_20 ⟨Nat.le_of_ble_eq_true rfl, Nat.le_of_ble_eq_true rfl⟩) hZ hP hD hS hC (fun r_20 w1 H locs hq hP hD hS => ?_)
    obtain ⟨rq_20, rfl⟩ := hq
    have rq_20 : r_20 = 1 := rq_20
    subst rq_20
    have hP : va_P D classes [(m_many, .inl (cI, 3, .inl g_many)), (mo, .inr (8, [.int 1, .int z_size, .ref m_row, .ref m_shelves, .ref m_many, .ref m_widths, .int z_marks, .ref m_mark, .int z_shown, .ref m_shownMark, .int z_wasRun, .int z_wrong, .int z_ended, .int z_steps, .int z_hints, .int z_hasWidth, .int z_width, .int z_first, .int z_moved, .int z_deepest, .int z_x, .int z_y, .int z_top, .ref m_stack, .ref m_places, .int z_depth, .ref m_kinds, .ref m_ats, .ref m_ends]))] H := hP
    have hD : va_D A_ [(m_many, .inl (cI, 3, .inl g_many)), (mo, .inr (8, [.int 1, .int z_size, .ref m_row, .ref m_shelves, .ref m_many, .ref m_widths, .int z_marks, .ref m_mark, .int z_shown, .ref m_shownMark, .int z_wasRun, .int z_wrong, .int z_ended, .int z_steps, .int z_hints, .int z_hasWidth, .int z_width, .int z_first, .int z_moved, .int z_deepest, .int z_x, .int z_y, .int z_top, .ref m_stack, .ref m_places, .int z_depth, .ref m_kinds, .ref m_ats, .ref m_ends]))] := hD
    refine lv_if_eq (tgt := 28) hx hb d_Mo_run_23 (by decide) (fun c_23 => absurd c_23 (by decide)) (fun c_23 => ?_)
    clear c_23
    refine lv_iconst (v := 0) hx hb d_Mo_run_26 (by decide) ?_
    exact t_iret hx hb hr hlk d_Mo_run_27 (hP.subm (ws' := [(mo, .inr (8, [.int 1, .int z_size, .ref m_row, .ref m_shelves, .ref m_many, .ref m_widths, .int z_marks, .ref m_mark, .int z_shown, .ref m_shownMark, .int z_wasRun, .int z_wrong, .int z_ended, .int z_steps, .int z_hints, .int z_hasWidth, .int z_width, .int z_first, .int z_moved, .int z_deepest, .int z_x, .int z_y, .int z_top, .ref m_stack, .ref m_places, .int z_depth, .ref m_kinds, .ref m_ats, .ref m_ends])), (m_many, .inl (cI, 3, .inl g_many))]) [1, 0] rfl) (hD.sub (ws' := [(mo, .inr (8, [.int 1, .int z_size, .ref m_row, .ref m_shelves, .ref m_many, .ref m_widths, .int z_marks, .ref m_mark, .int z_shown, .ref m_shownMark, .int z_wasRun, .int z_wrong, .int z_ended, .int z_steps, .int z_hints, .int z_hasWidth, .int z_width, .int z_first, .int z_moved, .int z_deepest, .int z_x, .int z_y, .int z_top, .ref m_stack, .ref m_places, .int z_depth, .ref m_kinds, .ref m_ats, .ref m_ends])), (m_many, .inl (cI, 3, .inl g_many))]) [1, 0] rfl rfl) hS ⟨_, rfl, rfl, rfl, rfl, rfl⟩
set_option maxHeartbeats 1000000 in
set_option maxRecDepth 100000 in
theorem c_Mo_mark_none (l : Launch) (D : va_G) (cB cI cJ : ClassId) (mo m_row m_shelves m_many m_widths m_mark m_shownMark m_stack m_places m_kinds m_ats m_ends : Nat) (z_fault z_size z_marks z_wasRun z_wrong z_ended z_steps z_hints z_hasWidth z_width z_first z_moved z_deepest z_x z_y z_top z_depth : Int32) (i w : Int32) : Tr l D classes (TY cB cI cJ) gd_tbl nx_tbl y_Mo_mark b_Mo_mark 4 (some .int) ({ frames := 1, cells := 0, slots := 0, locals := 21 }) [.ref mo, .int i, .int w] [(mo, .inr (8, [.int z_fault, .int z_size, .ref m_row, .ref m_shelves, .ref m_many, .ref m_widths, .int z_marks, .ref m_mark, .int 0, .ref m_shownMark, .int z_wasRun, .int z_wrong, .int z_ended, .int z_steps, .int z_hints, .int z_hasWidth, .int z_width, .int z_first, .int z_moved, .int z_deepest, .int z_x, .int z_y, .int z_top, .ref m_stack, .ref m_places, .int z_depth, .ref m_kinds, .ref m_ats, .ref m_ends]))] (pI0 (fun r w => r = 0 ∧ w = [(mo, .inr (8, [.int 1, .int z_size, .ref m_row, .ref m_shelves, .ref m_many, .ref m_widths, .int z_marks, .ref m_mark, .int 0, .ref m_shownMark, .int z_wasRun, .int z_wrong, .int z_ended, .int z_steps, .int z_hints, .int z_hasWidth, .int z_width, .int z_first, .int z_moved, .int z_deepest, .int z_x, .int z_y, .int z_top, .ref m_stack, .ref m_places, .int z_depth, .ref m_kinds, .ref m_ats, .ref m_ends]))])) := by
  refine Tr.intro (by decide +kernel) nx_ok (Nat.le_of_ble_eq_true rfl) ?_
  intro p_ e_ s_ m_ args_ below_ meth_ c_ A_ ls hx hb hml hown hts hr hlk hnm hZ hP hD hS hl
  have hl : lv_has ls 4 [(0, .ref mo), (1, .int i), (2, .int w)] := hl
  refine lv_iload_n hx hb d_Mo_mark_0 rfl (lv_at hl 1 rfl) ?_
  refine lv_if_lt (tgt := 26) hx hb d_Mo_mark_1 (by decide) (fun c_1 => ?_) (fun c_1 => ?_)
  · refine lv_iconst (v := 0) hx hb d_Mo_mark_26 (by decide) ?_
    refine lv_istore_n (lv' := [(3, .int 0), (0, .ref mo), (1, .int i), (2, .int w)]) hx hb d_Mo_mark_27 rfl hl (by decide) rfl (fun ls hl => ?_)
    refine lv_aload_n hx hb d_Mo_mark_28 rfl (lv_at hl 1 rfl) ?_
    refine lv_iload_n hx hb d_Mo_mark_29 rfl (lv_at hl 0 rfl) ?_
    refine lv_if_eq (tgt := 37) hx hb d_Mo_mark_30 (by decide) (fun c_30 => ?_) (fun c_30 => absurd (by decide) c_30)
    clear c_30
    refine lv_iconst (v := 1) hx hb d_Mo_mark_37 (by decide) ?_
    have hC : Cut [(mo, .inr (8, [.int z_fault, .int z_size, .ref m_row, .ref m_shelves, .ref m_many, .ref m_widths, .int z_marks, .ref m_mark, .int 0, .ref m_shownMark, .int z_wasRun, .int z_wrong, .int z_ended, .int z_steps, .int z_hints, .int z_hasWidth, .int z_width, .int z_first, .int z_moved, .int z_deepest, .int z_x, .int z_y, .int z_top, .ref m_stack, .ref m_places, .int z_depth, .ref m_kinds, .ref m_ats, .ref m_ends]))] [(mo, .inr (8, [.int z_fault, .int z_size, .ref m_row, .ref m_shelves, .ref m_many, .ref m_widths, .int z_marks, .ref m_mark, .int 0, .ref m_shownMark, .int z_wasRun, .int z_wrong, .int z_ended, .int z_steps, .int z_hints, .int z_hasWidth, .int z_width, .int z_first, .int z_moved, .int z_deepest, .int z_x, .int z_y, .int z_top, .ref m_stack, .ref m_places, .int z_depth, .ref m_kinds, .ref m_ats, .ref m_ends]))] [] [0] [] := ⟨rfl, rfl, rfl, rfl, by decide⟩
    refine goI0 (trV (As := [.int 1]) (rest := []) ⟨hx, hb, hml, hown, hts⟩ gd_good (c_Mo_refused l D cB cI cJ mo m_row m_shelves m_many m_widths m_mark m_shownMark m_stack m_places m_kinds m_ats m_ends z_fault z_size z_marks 0 z_wasRun z_wrong z_ended z_steps z_hints z_hasWidth z_width z_first z_moved z_deepest z_x z_y z_top z_depth 1) cal_Mo_refused ml_Mo_51 ⟨Nat.le_of_ble_eq_true rfl, Nat.le_of_ble_eq_true rfl⟩ hZ hP hD hC 0 (ci := 8) rfl rfl rfl rfl hl.1 rfl (Nat.le_of_ble_eq_true rfl) d_Mo_mark_38 ⟨Nat.le_of_ble_eq_true rfl, Nat.le_of_ble_eq_true rfl⟩) hZ hP hD hS hC (fun r_38 w1 H locs hq hP hD hS => ?_)
    obtain ⟨rq_38, rfl⟩ := hq
    have rq_38 : r_38 = 1 := rq_38
    subst rq_38
    have hP : va_P D classes [(mo, .inr (8, [.int 1, .int z_size, .ref m_row, .ref m_shelves, .ref m_many, .ref m_widths, .int z_marks, .ref m_mark, .int 0, .ref m_shownMark, .int z_wasRun, .int z_wrong, .int z_ended, .int z_steps, .int z_hints, .int z_hasWidth, .int z_width, .int z_first, .int z_moved, .int z_deepest, .int z_x, .int z_y, .int z_top, .ref m_stack, .ref m_places, .int z_depth, .ref m_kinds, .ref m_ats, .ref m_ends]))] H := hP
    have hD : va_D A_ [(mo, .inr (8, [.int 1, .int z_size, .ref m_row, .ref m_shelves, .ref m_many, .ref m_widths, .int z_marks, .ref m_mark, .int 0, .ref m_shownMark, .int z_wasRun, .int z_wrong, .int z_ended, .int z_steps, .int z_hints, .int z_hasWidth, .int z_width, .int z_first, .int z_moved, .int z_deepest, .int z_x, .int z_y, .int z_top, .ref m_stack, .ref m_places, .int z_depth, .ref m_kinds, .ref m_ats, .ref m_ends]))] := hD
    refine lv_if_eq (tgt := 48) hx hb d_Mo_mark_41 (by decide) (fun c_41 => absurd c_41 (by decide)) (fun c_41 => ?_)
    clear c_41
    refine lv_iconst (v := 0) hx hb d_Mo_mark_44 (by decide) ?_
    refine lv_goto (tgt := 59) hx hb d_Mo_mark_45 (by decide) ?_
    exact t_iret hx hb hr hlk d_Mo_mark_59 hP hD hS ⟨_, rfl, rfl, rfl, rfl, rfl⟩
  · refine lv_iload_n hx hb d_Mo_mark_4 rfl (lv_at hl 1 rfl) ?_
    refine lv_aload_n hx hb d_Mo_mark_5 rfl (lv_at hl 0 rfl) ?_
    refine va_get (D := D) (ci := 8) (v := .int 0) (C := R_Mo) (T := F_Mo) (N := 29) hx hb hts i_Mo hown hZ.1 hP 0 rfl rfl 8 (by decide) (hts _ fl_Mo_126) (fun _ h9 => h9) rfl d_Mo_mark_6 ?_
    refine lv_icmp_ge (tgt := 26) hx hb d_Mo_mark_9 (by decide) (fun c_9 => ?_) (fun c_9 => absurd (Int32.not_lt.mp c_1) c_9)
    refine lv_iconst (v := 0) hx hb d_Mo_mark_26 (by decide) ?_
    refine lv_istore_n (lv' := [(3, .int 0), (0, .ref mo), (1, .int i), (2, .int w)]) hx hb d_Mo_mark_27 rfl hl (by decide) rfl (fun ls hl => ?_)
    refine lv_aload_n hx hb d_Mo_mark_28 rfl (lv_at hl 1 rfl) ?_
    refine lv_iload_n hx hb d_Mo_mark_29 rfl (lv_at hl 0 rfl) ?_
    refine lv_if_eq (tgt := 37) hx hb d_Mo_mark_30 (by decide) (fun c_30 => ?_) (fun c_30 => absurd (by decide) c_30)
    clear c_30
    refine lv_iconst (v := 1) hx hb d_Mo_mark_37 (by decide) ?_
    have hC : Cut [(mo, .inr (8, [.int z_fault, .int z_size, .ref m_row, .ref m_shelves, .ref m_many, .ref m_widths, .int z_marks, .ref m_mark, .int 0, .ref m_shownMark, .int z_wasRun, .int z_wrong, .int z_ended, .int z_steps, .int z_hints, .int z_hasWidth, .int z_width, .int z_first, .int z_moved, .int z_deepest, .int z_x, .int z_y, .int z_top, .ref m_stack, .ref m_places, .int z_depth, .ref m_kinds, .ref m_ats, .ref m_ends]))] [(mo, .inr (8, [.int z_fault, .int z_size, .ref m_row, .ref m_shelves, .ref m_many, .ref m_widths, .int z_marks, .ref m_mark, .int 0, .ref m_shownMark, .int z_wasRun, .int z_wrong, .int z_ended, .int z_steps, .int z_hints, .int z_hasWidth, .int z_width, .int z_first, .int z_moved, .int z_deepest, .int z_x, .int z_y, .int z_top, .ref m_stack, .ref m_places, .int z_depth, .ref m_kinds, .ref m_ats, .ref m_ends]))] [] [0] [] := ⟨rfl, rfl, rfl, rfl, by decide⟩
    refine goI0 (trV (As := [.int 1]) (rest := []) ⟨hx, hb, hml, hown, hts⟩ gd_good (c_Mo_refused l D cB cI cJ mo m_row m_shelves m_many m_widths m_mark m_shownMark m_stack m_places m_kinds m_ats m_ends z_fault z_size z_marks 0 z_wasRun z_wrong z_ended z_steps z_hints z_hasWidth z_width z_first z_moved z_deepest z_x z_y z_top z_depth 1) cal_Mo_refused ml_Mo_51 ⟨Nat.le_of_ble_eq_true rfl, Nat.le_of_ble_eq_true rfl⟩ hZ hP hD hC 0 (ci := 8) rfl rfl rfl rfl hl.1 rfl (Nat.le_of_ble_eq_true rfl) d_Mo_mark_38 ⟨Nat.le_of_ble_eq_true rfl, Nat.le_of_ble_eq_true rfl⟩) hZ hP hD hS hC (fun r_38 w1 H locs hq hP hD hS => ?_)
    obtain ⟨rq_38, rfl⟩ := hq
    have rq_38 : r_38 = 1 := rq_38
    subst rq_38
    have hP : va_P D classes [(mo, .inr (8, [.int 1, .int z_size, .ref m_row, .ref m_shelves, .ref m_many, .ref m_widths, .int z_marks, .ref m_mark, .int 0, .ref m_shownMark, .int z_wasRun, .int z_wrong, .int z_ended, .int z_steps, .int z_hints, .int z_hasWidth, .int z_width, .int z_first, .int z_moved, .int z_deepest, .int z_x, .int z_y, .int z_top, .ref m_stack, .ref m_places, .int z_depth, .ref m_kinds, .ref m_ats, .ref m_ends]))] H := hP
    have hD : va_D A_ [(mo, .inr (8, [.int 1, .int z_size, .ref m_row, .ref m_shelves, .ref m_many, .ref m_widths, .int z_marks, .ref m_mark, .int 0, .ref m_shownMark, .int z_wasRun, .int z_wrong, .int z_ended, .int z_steps, .int z_hints, .int z_hasWidth, .int z_width, .int z_first, .int z_moved, .int z_deepest, .int z_x, .int z_y, .int z_top, .ref m_stack, .ref m_places, .int z_depth, .ref m_kinds, .ref m_ats, .ref m_ends]))] := hD
    refine lv_if_eq (tgt := 48) hx hb d_Mo_mark_41 (by decide) (fun c_41 => absurd c_41 (by decide)) (fun c_41 => ?_)
    clear c_41
    refine lv_iconst (v := 0) hx hb d_Mo_mark_44 (by decide) ?_
    refine lv_goto (tgt := 59) hx hb d_Mo_mark_45 (by decide) ?_
    exact t_iret hx hb hr hlk d_Mo_mark_59 hP hD hS ⟨_, rfl, rfl, rfl, rfl, rfl⟩
set_option maxHeartbeats 1000000 in
set_option maxRecDepth 100000 in
theorem c_Mo_last_none (l : Launch) (D : va_G) (cB cI cJ : ClassId) (mo m_row m_shelves m_many m_widths m_mark m_shownMark m_stack m_places m_kinds m_ats m_ends : Nat) (z_fault z_size z_marks z_shown z_wrong z_ended z_steps z_hints z_hasWidth z_width z_first z_moved z_deepest z_x z_y z_top z_depth : Int32) (w : Int32) : Tr l D classes (TY cB cI cJ) gd_tbl nx_tbl y_Mo_last b_Mo_last 2 (some .int) ({ frames := 0, cells := 0, slots := 0, locals := 0 }) [.ref mo, .int w] [(mo, .inr (8, [.int z_fault, .int z_size, .ref m_row, .ref m_shelves, .ref m_many, .ref m_widths, .int z_marks, .ref m_mark, .int z_shown, .ref m_shownMark, .int 0, .int z_wrong, .int z_ended, .int z_steps, .int z_hints, .int z_hasWidth, .int z_width, .int z_first, .int z_moved, .int z_deepest, .int z_x, .int z_y, .int z_top, .ref m_stack, .ref m_places, .int z_depth, .ref m_kinds, .ref m_ats, .ref m_ends]))] (pI0 (fun r w => r = -1 ∧ w = [(mo, .inr (8, [.int 0, .int z_size, .ref m_row, .ref m_shelves, .ref m_many, .ref m_widths, .int z_marks, .ref m_mark, .int z_shown, .ref m_shownMark, .int 0, .int z_wrong, .int z_ended, .int z_steps, .int z_hints, .int z_hasWidth, .int z_width, .int z_first, .int z_moved, .int z_deepest, .int z_x, .int z_y, .int z_top, .ref m_stack, .ref m_places, .int z_depth, .ref m_kinds, .ref m_ats, .ref m_ends]))])) := by
  refine Tr.intro (by decide +kernel) nx_ok (Nat.le_of_ble_eq_true rfl) ?_
  intro p_ e_ s_ m_ args_ below_ meth_ c_ A_ ls hx hb hml hown hts hr hlk hnm hZ hP hD hS hl
  have hl : lv_has ls 2 [(0, .ref mo), (1, .int w)] := hl
  refine lv_aload_n hx hb d_Mo_last_0 rfl (lv_at hl 0 rfl) ?_
  refine lv_iconst (v := 0) hx hb d_Mo_last_1 (by decide) ?_
  refine va_put (D := D) (ci := 8) (v := .int 0) (ty := .int) (C := R_Mo) (T := F_Mo) (N := 29) hx hb hts i_Mo t_Mo t_Mo_ok n_Mo hown hZ.1 hP hD hS 0 rfl rfl 0 (by decide) (hts _ fl_Mo_44) (fun _ h9 => h9) rfl (by decide +kernel) rfl rfl (Nat.le_of_ble_eq_true rfl) d_Mo_last_2 (fun H locs hP hD hS => ?_)
  have hP : va_P D classes [(mo, .inr (8, [.int 0, .int z_size, .ref m_row, .ref m_shelves, .ref m_many, .ref m_widths, .int z_marks, .ref m_mark, .int z_shown, .ref m_shownMark, .int 0, .int z_wrong, .int z_ended, .int z_steps, .int z_hints, .int z_hasWidth, .int z_width, .int z_first, .int z_moved, .int z_deepest, .int z_x, .int z_y, .int z_top, .ref m_stack, .ref m_places, .int z_depth, .ref m_kinds, .ref m_ats, .ref m_ends]))] H := hP
  have hD : va_D A_ [(mo, .inr (8, [.int 0, .int z_size, .ref m_row, .ref m_shelves, .ref m_many, .ref m_widths, .int z_marks, .ref m_mark, .int z_shown, .ref m_shownMark, .int 0, .int z_wrong, .int z_ended, .int z_steps, .int z_hints, .int z_hasWidth, .int z_width, .int z_first, .int z_moved, .int z_deepest, .int z_x, .int z_y, .int z_top, .ref m_stack, .ref m_places, .int z_depth, .ref m_kinds, .ref m_ats, .ref m_ends]))] := hD
  refine lv_aload_n hx hb d_Mo_last_5 rfl (lv_at hl 0 rfl) ?_
  refine va_get (D := D) (ci := 8) (v := .int 0) (C := R_Mo) (T := F_Mo) (N := 29) hx hb hts i_Mo hown hZ.1 hP 0 rfl rfl 10 (by decide) (hts _ fl_Mo_85) (fun _ h9 => h9) rfl d_Mo_last_6 ?_
  refine lv_if_ne (tgt := 14) hx hb d_Mo_last_9 (by decide) (fun c_9 => absurd c_9 (by decide)) (fun c_9 => ?_)
  clear c_9
  refine lv_iconst (v := (-1)) hx hb d_Mo_last_12 (by decide) ?_
  exact t_iret hx hb hr hlk d_Mo_last_13 hP hD hS ⟨_, rfl, rfl, rfl, rfl, rfl⟩
end
section
theorem hnd1 {l : Launch} {e : Env} {s : State} {m : MethodId} {c : Code} {args : Array Value} {own X : String} {a b h ct pc : Nat} {tl : List ExceptionTableEntry} (had : l.admits e) (hown : s.vm.findClass own = some m.cls) (htab : c.exceptionTable.toList = ⟨a, b, h, ct⟩ :: tl)
    (hcl : (Cond.classLink own ct X).before args s = true) (hca : va_Nw (.castable X X) s) (hcov : covers ⟨a, b, h, ct⟩ pc = true) (h0 : ct ≠ 0) : Hnd e.platform s m.cls c pc X h := by
  have hpl : e.platform.magicAccessors = ({} : Platform).magicAccessors := by rw [had.platform]
  obtain ⟨cx, hcx, hl⟩ := Cond.classLink_spec hown hcl e.platform hpl
  obtain ⟨c3, c4, h3, h4, hasg⟩ := Cond.castable_spec (args := #[]) (s := s) hca
  cases h3.symm.trans h4
  cases h3.symm.trans hcx
  exact ⟨[], _, tl, _, _, htab, hcov, rfl, h3, ⟨h0, hl⟩, hasg, fun y hy => by cases hy⟩
theorem hnd2 {l : Launch} {e : Env} {s : State} {m : MethodId} {c : Code} {args : Array Value} {own X Y : String} {a b h ct a2 b2 h2 ct2 pc : Nat} (had : l.admits e) (hown : s.vm.findClass own = some m.cls) (htab : c.exceptionTable.toList = [⟨a, b, h, ct⟩, ⟨a2, b2, h2, ct2⟩])
    (hcl : (Cond.classLink own ct Y).before args s = true) (hcl2 : (Cond.classLink own ct2 X).before args s = true) (hca : va_Nw (.castable X X) s) (hno : va_Nc X Y s) (hcov : covers ⟨a, b, h, ct⟩ pc = true) (hcov2 : covers ⟨a2, b2, h2, ct2⟩ pc = true) (h0 : ct ≠ 0) (h02 : ct2 ≠ 0) : Hnd e.platform s m.cls c pc X h2 := by
  have hpl : e.platform.magicAccessors = ({} : Platform).magicAccessors := by rw [had.platform]
  obtain ⟨cy, hcy, hly⟩ := Cond.classLink_spec hown hcl e.platform hpl
  obtain ⟨cx, hcx, hl⟩ := Cond.classLink_spec hown hcl2 e.platform hpl
  obtain ⟨c3, c4, h3, h4, hasg⟩ := Cond.castable_spec (args := #[]) (s := s) hca
  cases h3.symm.trans h4
  cases h3.symm.trans hcx
  obtain ⟨d1, d2, g1, g2, g3⟩ := hno
  cases h3.symm.trans g1
  cases hcy.symm.trans g2
  exact ⟨[_], _, [], _, _, htab, hcov2, rfl, h3, ⟨h02, hl⟩, hasg, fun y hy => by
    rw [List.mem_singleton.mp hy]
    exact ⟨hcov, _, ⟨h0, hly⟩, g3⟩⟩
theorem rg_map {α : Type} : ∀ (mid pre post : List α), (List.range' pre.length mid.length).map (fun i => (pre ++ (mid ++ post))[i]?) = mid.map some
  | [], _, _ => rfl
  | a :: mid, pre, post => by
    have h := rg_map mid (pre ++ [a]) post
    rw [List.length_append, List.length_singleton, List.append_assoc] at h
    rw [List.length_cons, List.range'_succ, List.map_cons, List.map_cons]
    refine congr (congrArg _ ?_) h
    simp
theorem rg_nd : ∀ (n s : Nat), va_nd (List.range' s n) = true
  | 0, _ => rfl
  | n + 1, s => by
    rw [List.range'_succ]
    simp only [va_nd, Bool.and_eq_true, decide_eq_true_eq]
    exact ⟨fun h => by rw [List.mem_range'_1] at h; omega, rg_nd n (s + 1)⟩
/-- a world in two parts, one behind the other -/
theorem cut_app (wr wc : va_W) : Cut (wr ++ wc) wc wr (List.range' wr.length wc.length) (List.range' 0 wr.length) := by
  refine ⟨?_, ?_, rg_nd _ _, rg_nd _ _, fun i h1 h2 => ?_⟩
  · have h := rg_map wc wr []
    rw [List.append_nil] at h
    exact h
  · exact rg_map wr [] wc
  · rw [List.mem_range'_1] at h1 h2
    omega
abbrev cO (out : Nat) (cJ : ClassId) (go : Nat → Int64) : Nat × va_E := (out, .inl (cJ, 1, .inr (.inl go)))
abbrev b_La_put : ByteArray := method_3_code
abbrev y_La_put : MethodName := ⟨"CharOutlinesLaw", "put", "(LCharOutlines;II[J)I"⟩
set_option maxRecDepth 100000 in
theorem cal_La_put : CalSW gd_tbl y_La_put b_La_put 5 (some .int) [(0, 10, 13, 13), (0, 10, 17, 15)] 4 := ⟨List.mem_filter.mpr ⟨List.mem_of_getElem? (i := 293) rfl, rfl⟩, List.mem_filter.mpr ⟨List.mem_of_getElem? (i := 59) rfl, rfl⟩, ⟨by decide, by decide⟩, by decide +kernel, List.mem_filter.mpr ⟨List.mem_of_getElem? (i := 292) rfl, rfl⟩⟩
theorem d_La_put_0 : decode b_La_put 0 = .ok (.aload_n 3, 1) := by decide +kernel
theorem d_La_put_1 : decode b_La_put 1 = .ok (.iconst 0, 1) := by decide +kernel
theorem d_La_put_2 : decode b_La_put 2 = .ok (.aload_n 0, 1) := by decide +kernel
theorem d_La_put_3 : decode b_La_put 3 = .ok (.iload_n 1, 1) := by decide +kernel
theorem d_La_put_4 : decode b_La_put 4 = .ok (.iload_n 2, 1) := by decide +kernel
theorem d_La_put_5 : decode b_La_put 5 = .ok (.invokevirtual 7, 3) := by decide +kernel
theorem d_La_put_8 : decode b_La_put 8 = .ok (.i2l, 1) := by decide +kernel
theorem d_La_put_9 : decode b_La_put 9 = .ok (.lastore, 1) := by decide +kernel
theorem d_La_put_10 : decode b_La_put 10 = .ok (.goto 11, 3) := by decide +kernel
theorem d_La_put_13 : decode b_La_put 13 = .ok (.astore 4, 2) := by decide +kernel
theorem d_La_put_15 : decode b_La_put 15 = .ok (.iconst 1, 1) := by decide +kernel
theorem d_La_put_16 : decode b_La_put 16 = .ok (.ireturn, 1) := by decide +kernel
theorem d_La_put_17 : decode b_La_put 17 = .ok (.astore 4, 2) := by decide +kernel
theorem d_La_put_19 : decode b_La_put 19 = .ok (.iconst 2, 1) := by decide +kernel
theorem d_La_put_20 : decode b_La_put 20 = .ok (.ireturn, 1) := by decide +kernel
theorem d_La_put_21 : decode b_La_put 21 = .ok (.iconst 0, 1) := by decide +kernel
theorem d_La_put_22 : decode b_La_put 22 = .ok (.ireturn, 1) := by decide +kernel
abbrev b_La_cut : ByteArray := method_4_code
abbrev y_La_cut : MethodName := ⟨"CharOutlinesLaw", "cut", "(LCharOutlines;I[J)I"⟩
set_option maxRecDepth 100000 in
theorem cal_La_cut : CalSW gd_tbl y_La_cut b_La_cut 4 (some .int) [(0, 9, 12, 15)] 3 := ⟨List.mem_filter.mpr ⟨List.mem_of_getElem? (i := 392) rfl, rfl⟩, List.mem_filter.mpr ⟨List.mem_of_getElem? (i := 59) rfl, rfl⟩, ⟨by decide, by decide⟩, by decide +kernel, List.mem_filter.mpr ⟨List.mem_of_getElem? (i := 391) rfl, rfl⟩⟩
theorem d_La_cut_0 : decode b_La_cut 0 = .ok (.aload_n 2, 1) := by decide +kernel
theorem d_La_cut_1 : decode b_La_cut 1 = .ok (.iconst 0, 1) := by decide +kernel
theorem d_La_cut_2 : decode b_La_cut 2 = .ok (.aload_n 0, 1) := by decide +kernel
theorem d_La_cut_3 : decode b_La_cut 3 = .ok (.iload_n 1, 1) := by decide +kernel
theorem d_La_cut_4 : decode b_La_cut 4 = .ok (.invokevirtual 17, 3) := by decide +kernel
theorem d_La_cut_7 : decode b_La_cut 7 = .ok (.i2l, 1) := by decide +kernel
theorem d_La_cut_8 : decode b_La_cut 8 = .ok (.lastore, 1) := by decide +kernel
theorem d_La_cut_9 : decode b_La_cut 9 = .ok (.goto 6, 3) := by decide +kernel
theorem d_La_cut_12 : decode b_La_cut 12 = .ok (.astore_n 3, 1) := by decide +kernel
theorem d_La_cut_13 : decode b_La_cut 13 = .ok (.iconst 1, 1) := by decide +kernel
theorem d_La_cut_14 : decode b_La_cut 14 = .ok (.ireturn, 1) := by decide +kernel
theorem d_La_cut_15 : decode b_La_cut 15 = .ok (.iconst 0, 1) := by decide +kernel
theorem d_La_cut_16 : decode b_La_cut 16 = .ok (.ireturn, 1) := by decide +kernel
abbrev b_La_take : ByteArray := method_5_code
abbrev y_La_take : MethodName := ⟨"CharOutlinesLaw", "take", "(LCharOutlines;I[J)I"⟩
set_option maxRecDepth 100000 in
theorem cal_La_take : CalSW gd_tbl y_La_take b_La_take 4 (some .int) [(0, 9, 12, 15)] 3 := ⟨List.mem_filter.mpr ⟨List.mem_of_getElem? (i := 404) rfl, rfl⟩, List.mem_filter.mpr ⟨List.mem_of_getElem? (i := 59) rfl, rfl⟩, ⟨by decide, by decide⟩, by decide +kernel, List.mem_filter.mpr ⟨List.mem_of_getElem? (i := 403) rfl, rfl⟩⟩
theorem d_La_take_0 : decode b_La_take 0 = .ok (.aload_n 2, 1) := by decide +kernel
theorem d_La_take_1 : decode b_La_take 1 = .ok (.iconst 0, 1) := by decide +kernel
theorem d_La_take_2 : decode b_La_take 2 = .ok (.aload_n 0, 1) := by decide +kernel
theorem d_La_take_3 : decode b_La_take 3 = .ok (.iload_n 1, 1) := by decide +kernel
theorem d_La_take_4 : decode b_La_take 4 = .ok (.invokevirtual 21, 3) := by decide +kernel
theorem d_La_take_7 : decode b_La_take 7 = .ok (.i2l, 1) := by decide +kernel
theorem d_La_take_8 : decode b_La_take 8 = .ok (.lastore, 1) := by decide +kernel
theorem d_La_take_9 : decode b_La_take 9 = .ok (.goto 6, 3) := by decide +kernel
theorem d_La_take_12 : decode b_La_take 12 = .ok (.astore_n 3, 1) := by decide +kernel
theorem d_La_take_13 : decode b_La_take 13 = .ok (.iconst 1, 1) := by decide +kernel
theorem d_La_take_14 : decode b_La_take 14 = .ok (.ireturn, 1) := by decide +kernel
theorem d_La_take_15 : decode b_La_take 15 = .ok (.iconst 0, 1) := by decide +kernel
theorem d_La_take_16 : decode b_La_take 16 = .ok (.ireturn, 1) := by decide +kernel
abbrev b_La_run : ByteArray := method_6_code
abbrev y_La_run : MethodName := ⟨"CharOutlinesLaw", "run", "(LCharOutlines;I[J)I"⟩
set_option maxRecDepth 100000 in
theorem cal_La_run : CalSW gd_tbl y_La_run b_La_run 4 (some .int) [(0, 9, 12, 13)] 3 := ⟨List.mem_filter.mpr ⟨List.mem_of_getElem? (i := 445) rfl, rfl⟩, List.mem_filter.mpr ⟨List.mem_of_getElem? (i := 59) rfl, rfl⟩, ⟨by decide, by decide⟩, by decide +kernel, List.mem_filter.mpr ⟨List.mem_of_getElem? (i := 444) rfl, rfl⟩⟩
theorem d_La_run_0 : decode b_La_run 0 = .ok (.aload_n 2, 1) := by decide +kernel
theorem d_La_run_1 : decode b_La_run 1 = .ok (.iconst 0, 1) := by decide +kernel
theorem d_La_run_2 : decode b_La_run 2 = .ok (.aload_n 0, 1) := by decide +kernel
theorem d_La_run_3 : decode b_La_run 3 = .ok (.iload_n 1, 1) := by decide +kernel
theorem d_La_run_4 : decode b_La_run 4 = .ok (.invokevirtual 24, 3) := by decide +kernel
theorem d_La_run_7 : decode b_La_run 7 = .ok (.i2l, 1) := by decide +kernel
theorem d_La_run_8 : decode b_La_run 8 = .ok (.lastore, 1) := by decide +kernel
theorem d_La_run_9 : decode b_La_run 9 = .ok (.goto 6, 3) := by decide +kernel
theorem d_La_run_12 : decode b_La_run 12 = .ok (.astore_n 3, 1) := by decide +kernel
theorem d_La_run_13 : decode b_La_run 13 = .ok (.iconst 1, 1) := by decide +kernel
theorem d_La_run_14 : decode b_La_run 14 = .ok (.ireturn, 1) := by decide +kernel
theorem d_La_run_15 : decode b_La_run 15 = .ok (.iconst 0, 1) := by decide +kernel
theorem d_La_run_16 : decode b_La_run 16 = .ok (.ireturn, 1) := by decide +kernel
abbrev b_La_mark : ByteArray := method_7_code
abbrev y_La_mark : MethodName := ⟨"CharOutlinesLaw", "mark", "(LCharOutlines;II[J)I"⟩
set_option maxRecDepth 100000 in
theorem cal_La_mark : CalSW gd_tbl y_La_mark b_La_mark 5 (some .int) [(0, 10, 13, 13)] 4 := ⟨List.mem_filter.mpr ⟨List.mem_of_getElem? (i := 717) rfl, rfl⟩, List.mem_filter.mpr ⟨List.mem_of_getElem? (i := 59) rfl, rfl⟩, ⟨by decide, by decide⟩, by decide +kernel, List.mem_filter.mpr ⟨List.mem_of_getElem? (i := 716) rfl, rfl⟩⟩
theorem d_La_mark_0 : decode b_La_mark 0 = .ok (.aload_n 3, 1) := by decide +kernel
theorem d_La_mark_1 : decode b_La_mark 1 = .ok (.iconst 0, 1) := by decide +kernel
theorem d_La_mark_2 : decode b_La_mark 2 = .ok (.aload_n 0, 1) := by decide +kernel
theorem d_La_mark_3 : decode b_La_mark 3 = .ok (.iload_n 1, 1) := by decide +kernel
theorem d_La_mark_4 : decode b_La_mark 4 = .ok (.iload_n 2, 1) := by decide +kernel
theorem d_La_mark_5 : decode b_La_mark 5 = .ok (.invokevirtual 27, 3) := by decide +kernel
theorem d_La_mark_8 : decode b_La_mark 8 = .ok (.i2l, 1) := by decide +kernel
theorem d_La_mark_9 : decode b_La_mark 9 = .ok (.lastore, 1) := by decide +kernel
theorem d_La_mark_10 : decode b_La_mark 10 = .ok (.goto 7, 3) := by decide +kernel
theorem d_La_mark_13 : decode b_La_mark 13 = .ok (.astore 4, 2) := by decide +kernel
theorem d_La_mark_15 : decode b_La_mark 15 = .ok (.iconst 1, 1) := by decide +kernel
theorem d_La_mark_16 : decode b_La_mark 16 = .ok (.ireturn, 1) := by decide +kernel
theorem d_La_mark_17 : decode b_La_mark 17 = .ok (.iconst 0, 1) := by decide +kernel
theorem d_La_mark_18 : decode b_La_mark 18 = .ok (.ireturn, 1) := by decide +kernel
abbrev b_La_count : ByteArray := method_8_code
abbrev y_La_count : MethodName := ⟨"CharOutlinesLaw", "count", "(LCharOutlines;I[J)I"⟩
set_option maxRecDepth 100000 in
theorem cal_La_count : CalSW gd_tbl y_La_count b_La_count 4 (some .int) [(0, 9, 12, 15)] 3 := ⟨List.mem_filter.mpr ⟨List.mem_of_getElem? (i := 738) rfl, rfl⟩, List.mem_filter.mpr ⟨List.mem_of_getElem? (i := 59) rfl, rfl⟩, ⟨by decide, by decide⟩, by decide +kernel, List.mem_filter.mpr ⟨List.mem_of_getElem? (i := 737) rfl, rfl⟩⟩
theorem d_La_count_0 : decode b_La_count 0 = .ok (.aload_n 2, 1) := by decide +kernel
theorem d_La_count_1 : decode b_La_count 1 = .ok (.iconst 0, 1) := by decide +kernel
theorem d_La_count_2 : decode b_La_count 2 = .ok (.aload_n 0, 1) := by decide +kernel
theorem d_La_count_3 : decode b_La_count 3 = .ok (.iload_n 1, 1) := by decide +kernel
theorem d_La_count_4 : decode b_La_count 4 = .ok (.invokevirtual 30, 3) := by decide +kernel
theorem d_La_count_7 : decode b_La_count 7 = .ok (.i2l, 1) := by decide +kernel
theorem d_La_count_8 : decode b_La_count 8 = .ok (.lastore, 1) := by decide +kernel
theorem d_La_count_9 : decode b_La_count 9 = .ok (.goto 6, 3) := by decide +kernel
theorem d_La_count_12 : decode b_La_count 12 = .ok (.astore_n 3, 1) := by decide +kernel
theorem d_La_count_13 : decode b_La_count 13 = .ok (.iconst 1, 1) := by decide +kernel
theorem d_La_count_14 : decode b_La_count 14 = .ok (.ireturn, 1) := by decide +kernel
theorem d_La_count_15 : decode b_La_count 15 = .ok (.iconst 0, 1) := by decide +kernel
theorem d_La_count_16 : decode b_La_count 16 = .ok (.ireturn, 1) := by decide +kernel
set_option maxRecDepth 100000 in
theorem cl_La_13 : (Jvm.Cond.classLink "CharOutlinesLaw" (13 : Nat) "java/lang/IndexOutOfBoundsException") ∈ gd_tbl := List.mem_filter.mpr ⟨List.mem_of_getElem? (i := 294) rfl, rfl⟩
set_option maxRecDepth 100000 in
theorem cl_La_15 : (Jvm.Cond.classLink "CharOutlinesLaw" (15 : Nat) "java/lang/IllegalArgumentException") ∈ gd_tbl := List.mem_filter.mpr ⟨List.mem_of_getElem? (i := 295) rfl, rfl⟩
set_option maxRecDepth 100000 in
theorem ml_La_17 : (Jvm.Cond.methodLink "CharOutlinesLaw" (17 : Nat) ({ cls := "CharOutlines", name := "cut", desc := "(I)I" } : Jvm.MethodName)) ∈ gd_tbl := List.mem_filter.mpr ⟨List.mem_of_getElem? (i := 393) rfl, rfl⟩
set_option maxRecDepth 100000 in
theorem ml_La_21 : (Jvm.Cond.methodLink "CharOutlinesLaw" (21 : Nat) ({ cls := "CharOutlines", name := "take", desc := "(I)I" } : Jvm.MethodName)) ∈ gd_tbl := List.mem_filter.mpr ⟨List.mem_of_getElem? (i := 405) rfl, rfl⟩
set_option maxRecDepth 100000 in
theorem ml_La_24 : (Jvm.Cond.methodLink "CharOutlinesLaw" (24 : Nat) ({ cls := "CharOutlines", name := "run", desc := "(I)I" } : Jvm.MethodName)) ∈ gd_tbl := List.mem_filter.mpr ⟨List.mem_of_getElem? (i := 446) rfl, rfl⟩
set_option maxRecDepth 100000 in
theorem ml_La_27 : (Jvm.Cond.methodLink "CharOutlinesLaw" (27 : Nat) ({ cls := "CharOutlines", name := "mark", desc := "(II)I" } : Jvm.MethodName)) ∈ gd_tbl := List.mem_filter.mpr ⟨List.mem_of_getElem? (i := 718) rfl, rfl⟩
set_option maxRecDepth 100000 in
theorem ml_La_30 : (Jvm.Cond.methodLink "CharOutlinesLaw" (30 : Nat) ({ cls := "CharOutlines", name := "count", desc := "(I)I" } : Jvm.MethodName)) ∈ gd_tbl := List.mem_filter.mpr ⟨List.mem_of_getElem? (i := 739) rfl, rfl⟩
set_option maxRecDepth 100000 in
theorem ml_La_7 : (Jvm.Cond.methodLink "CharOutlinesLaw" (7 : Nat) ({ cls := "CharOutlines", name := "put", desc := "(II)I" } : Jvm.MethodName)) ∈ gd_tbl := List.mem_filter.mpr ⟨List.mem_of_getElem? (i := 296) rfl, rfl⟩
set_option maxHeartbeats 1000000 in
set_option maxRecDepth 100000 in
theorem h_put (l : Launch) (D : va_G) (cB cI cJ : ClassId) (ad : Nat → Nat) (o : Nat) (fs : List Value) (wt : va_W) (x1 x2 : Int32) (rm : Room) (post : Int32 → va_W → Nat → Nat → Prop) (px : String → Prop) (hM : TrX l D classes (TY cB cI cJ) gd_tbl nx_tbl str_tbl ad y_CO_put b_CO_put 3 (some .int) rm [.ref o, .int x1, .int x2] ((o, .inr (7, fs)) :: wt) (pI post) px) (hpx : (∀ X, px X → X = "java/lang/IndexOutOfBoundsException" ∨ X = "java/lang/IllegalArgumentException")) (out : Nat) (go : Nat → Int64) :
    TrW l D classes (TY cB cI cJ) gd_tbl nx_tbl str_tbl ad y_La_put b_La_put 5 (some .int) [(0, 10, 13, 13), (0, 10, 17, 15)] ({ frames := rm.frames + 1, cells := rm.cells, slots := rm.slots, locals := 8 + (3 + 11) + rm.locals }) [.ref o, .int x1, .int x2, .ref out] (cO out cJ go :: ((o, .inr (7, fs)) :: wt))
      (pI (fun r w k n => (∃ q w1, post q w1 k n ∧ r = 0 ∧ w = cO out cJ (vp_updL go 0 q.toInt64) :: w1) ∨ (∃ X, px X ∧ r = (if X = "java/lang/IndexOutOfBoundsException" then 1 else 2) ∧ w = cO out cJ go :: ((o, .inr (7, fs)) :: wt) ∧ k = 1 ∧ n = 6))) := by
  refine TrW.intro (by decide +kernel) nx_ok (Nat.le_of_ble_eq_true rfl) ?_
  intro p_ e_ s_ m_ args_ below_ meth_ c_ A_ ls had hx hb hml hown hts hr hlk hnm hZ hP hD hS hl hXU htab
  have hl : lv_has ls 5 [(0, .ref o), (1, .int x1), (2, .int x2), (3, .ref out)] := hl
  refine lv_aload_n hx hb d_La_put_0 rfl (lv_at hl 3 rfl) ?_
  refine lv_iconst (v := 0) hx hb d_La_put_1 (by decide) ?_
  refine lv_aload_n hx hb d_La_put_2 rfl (lv_at hl 0 rfl) ?_
  refine lv_iload_n hx hb d_La_put_3 rfl (lv_at hl 1 rfl) ?_
  refine lv_iload_n hx hb d_La_put_4 rfl (lv_at hl 2 rfl) ?_
  refine x_callV (wr := [cO out cJ go]) (As := [.int x1, .int x2]) (rest := [.int 0, .ref out]) ⟨hx, hb, hml, hown, hts⟩ gd_good hM cal_CO_put ml_La_7 ⟨Nat.le_refl _, Nat.le_refl _⟩ hZ hXU hP hD hS (cut_app [cO out cJ go] ((o, .inr (7, fs)) :: wt)) 1 (ci := 7) rfl rfl rfl rfl hl.1 rfl (Nat.le_of_ble_eq_true rfl) d_La_put_5 ⟨by simp, by simp⟩ (fun X => if X = "java/lang/IndexOutOfBoundsException" then 13 else 17) (fun X hX => by
    rcases hpx X hX with rfl | rfl
    · rw [if_pos rfl]; exact hnd1 had hown htab (hts _ cl_La_13) (hZ.2.1 _ (List.mem_of_getElem? (i := 8) rfl)) (by decide) (by decide)
    · rw [if_neg (by decide)]; exact hnd2 had hown htab (hts _ cl_La_13) (hts _ cl_La_15) (hZ.2.1 _ (List.mem_of_getElem? (i := 15) rfl)) hXU.2.2.2 (by decide) (by decide) (by decide) (by decide)) (fun v w1 k n H locs hq hP hD hS => ?_) (fun X x_ H hX hP hS => ?_)
  · obtain ⟨q, rfl, hq⟩ := hq
    refine W.eq (g2 := F0 m_ 8 ls [.int q, .int 0, .ref out]) rfl ?_
    refine lv_i2l hx hb d_La_put_8 rfl ?_
    refine va_last hx hb hZ.1 hP hD hS 0 2 rfl rfl (show vp_in (nI 0) 1 from vp_in_nI (by decide) (by decide)) d_La_put_9 (fun H locs hP hD hS => ?_)
    refine lv_goto (tgt := 21) hx hb d_La_put_10 (by decide) ?_
    refine lv_iconst (v := 0) hx hb d_La_put_21 (by decide) ?_
    refine W.widen (k := 0 + k) (n := 0 + n) (Nat.le_refl _) (Nat.le_refl _) ?_
    exact t_iret hx hb hr hlk d_La_put_22 (w1 := cO out cJ (vp_updL go 0 q.toInt64) :: w1) hP hD hS ⟨_, rfl, Or.inl ⟨q, w1, by rw [Nat.zero_add, Nat.zero_add]; exact hq, rfl, rfl⟩⟩
  · rcases hpx X hX with rfl | rfl
    · refine W.eq (g2 := F0 m_ 13 ls [.ref x_]) rfl ?_
      refine lv_astore (lv' := [(4, .ref x_), (0, .ref o), (1, .int x1), (2, .int x2), (3, .ref out)]) hx hb d_La_put_13 hl (by decide) rfl (fun ls hl => ?_)
      refine lv_iconst (v := 1) hx hb d_La_put_15 (by decide) ?_
      exact t_iret hx hb hr hlk d_La_put_16 hP hD hS ⟨_, rfl, Or.inr ⟨_, hX, rfl, rfl, rfl, rfl⟩⟩
    · refine W.eq (g2 := F0 m_ 17 ls [.ref x_]) (by rw [if_neg (by decide)]) ?_
      refine lv_astore (lv' := [(4, .ref x_), (0, .ref o), (1, .int x1), (2, .int x2), (3, .ref out)]) hx hb d_La_put_17 hl (by decide) rfl (fun ls hl => ?_)
      refine lv_iconst (v := 2) hx hb d_La_put_19 (by decide) ?_
      exact t_iret hx hb hr hlk d_La_put_20 hP hD hS ⟨_, rfl, Or.inr ⟨_, hX, (by rw [if_neg (by decide)]), rfl, rfl, rfl⟩⟩
set_option maxHeartbeats 1000000 in
set_option maxRecDepth 100000 in
theorem h_cut (l : Launch) (D : va_G) (cB cI cJ : ClassId) (ad : Nat → Nat) (o : Nat) (fs : List Value) (wt : va_W) (x1 : Int32) (rm : Room) (post : Int32 → va_W → Nat → Nat → Prop) (px : String → Prop) (hM : TrX l D classes (TY cB cI cJ) gd_tbl nx_tbl str_tbl ad y_CO_cut b_CO_cut 2 (some .int) rm [.ref o, .int x1] ((o, .inr (7, fs)) :: wt) (pI post) px) (hpx : (∀ X, px X → X = "java/lang/IllegalArgumentException")) (out : Nat) (go : Nat → Int64) :
    TrW l D classes (TY cB cI cJ) gd_tbl nx_tbl str_tbl ad y_La_cut b_La_cut 4 (some .int) [(0, 9, 12, 15)] ({ frames := rm.frames + 1, cells := rm.cells, slots := rm.slots, locals := 8 + (2 + 11) + rm.locals }) [.ref o, .int x1, .ref out] (cO out cJ go :: ((o, .inr (7, fs)) :: wt))
      (pI (fun r w k n => (∃ q w1, post q w1 k n ∧ r = 0 ∧ w = cO out cJ (vp_updL go 0 q.toInt64) :: w1) ∨ (∃ X, px X ∧ r = 1 ∧ w = cO out cJ go :: ((o, .inr (7, fs)) :: wt) ∧ k = 1 ∧ n = 6))) := by
  refine TrW.intro (by decide +kernel) nx_ok (Nat.le_of_ble_eq_true rfl) ?_
  intro p_ e_ s_ m_ args_ below_ meth_ c_ A_ ls had hx hb hml hown hts hr hlk hnm hZ hP hD hS hl hXU htab
  have hl : lv_has ls 4 [(0, .ref o), (1, .int x1), (2, .ref out)] := hl
  refine lv_aload_n hx hb d_La_cut_0 rfl (lv_at hl 2 rfl) ?_
  refine lv_iconst (v := 0) hx hb d_La_cut_1 (by decide) ?_
  refine lv_aload_n hx hb d_La_cut_2 rfl (lv_at hl 0 rfl) ?_
  refine lv_iload_n hx hb d_La_cut_3 rfl (lv_at hl 1 rfl) ?_
  refine x_callV (wr := [cO out cJ go]) (As := [.int x1]) (rest := [.int 0, .ref out]) ⟨hx, hb, hml, hown, hts⟩ gd_good hM cal_CO_cut ml_La_17 ⟨Nat.le_refl _, Nat.le_refl _⟩ hZ hXU hP hD hS (cut_app [cO out cJ go] ((o, .inr (7, fs)) :: wt)) 1 (ci := 7) rfl rfl rfl rfl hl.1 rfl (Nat.le_of_ble_eq_true rfl) d_La_cut_4 ⟨by simp, by simp⟩ (fun _ => 12) (fun X hX => by obtain rfl := hpx X hX; exact hnd1 had hown htab (hts _ cl_La_15) (hZ.2.1 _ (List.mem_of_getElem? (i := 15) rfl)) (by decide) (by decide)) (fun v w1 k n H locs hq hP hD hS => ?_) (fun X x_ H hX hP hS => ?_)
  · obtain ⟨q, rfl, hq⟩ := hq
    refine W.eq (g2 := F0 m_ 7 ls [.int q, .int 0, .ref out]) rfl ?_
    refine lv_i2l hx hb d_La_cut_7 rfl ?_
    refine va_last hx hb hZ.1 hP hD hS 0 2 rfl rfl (show vp_in (nI 0) 1 from vp_in_nI (by decide) (by decide)) d_La_cut_8 (fun H locs hP hD hS => ?_)
    refine lv_goto (tgt := 15) hx hb d_La_cut_9 (by decide) ?_
    refine lv_iconst (v := 0) hx hb d_La_cut_15 (by decide) ?_
    refine W.widen (k := 0 + k) (n := 0 + n) (Nat.le_refl _) (Nat.le_refl _) ?_
    exact t_iret hx hb hr hlk d_La_cut_16 (w1 := cO out cJ (vp_updL go 0 q.toInt64) :: w1) hP hD hS ⟨_, rfl, Or.inl ⟨q, w1, by rw [Nat.zero_add, Nat.zero_add]; exact hq, rfl, rfl⟩⟩
  · refine W.eq (g2 := F0 m_ 12 ls [.ref x_]) rfl ?_
    refine lv_astore_n (lv' := [(3, .ref x_), (0, .ref o), (1, .int x1), (2, .ref out)]) hx hb d_La_cut_12 rfl hl (by decide) rfl (fun ls hl => ?_)
    refine lv_iconst (v := 1) hx hb d_La_cut_13 (by decide) ?_
    exact t_iret hx hb hr hlk d_La_cut_14 hP hD hS ⟨_, rfl, Or.inr ⟨_, hX, rfl, rfl, rfl, rfl⟩⟩
set_option maxHeartbeats 1000000 in
set_option maxRecDepth 100000 in
theorem h_take (l : Launch) (D : va_G) (cB cI cJ : ClassId) (ad : Nat → Nat) (o : Nat) (fs : List Value) (wt : va_W) (x1 : Int32) (rm : Room) (post : Int32 → va_W → Nat → Nat → Prop) (px : String → Prop) (hM : TrX l D classes (TY cB cI cJ) gd_tbl nx_tbl str_tbl ad y_CO_take b_CO_take 2 (some .int) rm [.ref o, .int x1] ((o, .inr (7, fs)) :: wt) (pI post) px) (hpx : (∀ X, px X → X = "java/lang/IllegalArgumentException")) (out : Nat) (go : Nat → Int64) :
    TrW l D classes (TY cB cI cJ) gd_tbl nx_tbl str_tbl ad y_La_take b_La_take 4 (some .int) [(0, 9, 12, 15)] ({ frames := rm.frames + 1, cells := rm.cells, slots := rm.slots, locals := 8 + (2 + 11) + rm.locals }) [.ref o, .int x1, .ref out] (cO out cJ go :: ((o, .inr (7, fs)) :: wt))
      (pI (fun r w k n => (∃ q w1, post q w1 k n ∧ r = 0 ∧ w = cO out cJ (vp_updL go 0 q.toInt64) :: w1) ∨ (∃ X, px X ∧ r = 1 ∧ w = cO out cJ go :: ((o, .inr (7, fs)) :: wt) ∧ k = 1 ∧ n = 6))) := by
  refine TrW.intro (by decide +kernel) nx_ok (Nat.le_of_ble_eq_true rfl) ?_
  intro p_ e_ s_ m_ args_ below_ meth_ c_ A_ ls had hx hb hml hown hts hr hlk hnm hZ hP hD hS hl hXU htab
  have hl : lv_has ls 4 [(0, .ref o), (1, .int x1), (2, .ref out)] := hl
  refine lv_aload_n hx hb d_La_take_0 rfl (lv_at hl 2 rfl) ?_
  refine lv_iconst (v := 0) hx hb d_La_take_1 (by decide) ?_
  refine lv_aload_n hx hb d_La_take_2 rfl (lv_at hl 0 rfl) ?_
  refine lv_iload_n hx hb d_La_take_3 rfl (lv_at hl 1 rfl) ?_
  refine x_callV (wr := [cO out cJ go]) (As := [.int x1]) (rest := [.int 0, .ref out]) ⟨hx, hb, hml, hown, hts⟩ gd_good hM cal_CO_take ml_La_21 ⟨Nat.le_refl _, Nat.le_refl _⟩ hZ hXU hP hD hS (cut_app [cO out cJ go] ((o, .inr (7, fs)) :: wt)) 1 (ci := 7) rfl rfl rfl rfl hl.1 rfl (Nat.le_of_ble_eq_true rfl) d_La_take_4 ⟨by simp, by simp⟩ (fun _ => 12) (fun X hX => by obtain rfl := hpx X hX; exact hnd1 had hown htab (hts _ cl_La_15) (hZ.2.1 _ (List.mem_of_getElem? (i := 15) rfl)) (by decide) (by decide)) (fun v w1 k n H locs hq hP hD hS => ?_) (fun X x_ H hX hP hS => ?_)
  · obtain ⟨q, rfl, hq⟩ := hq
    refine W.eq (g2 := F0 m_ 7 ls [.int q, .int 0, .ref out]) rfl ?_
    refine lv_i2l hx hb d_La_take_7 rfl ?_
    refine va_last hx hb hZ.1 hP hD hS 0 2 rfl rfl (show vp_in (nI 0) 1 from vp_in_nI (by decide) (by decide)) d_La_take_8 (fun H locs hP hD hS => ?_)
    refine lv_goto (tgt := 15) hx hb d_La_take_9 (by decide) ?_
    refine lv_iconst (v := 0) hx hb d_La_take_15 (by decide) ?_
    refine W.widen (k := 0 + k) (n := 0 + n) (Nat.le_refl _) (Nat.le_refl _) ?_
    exact t_iret hx hb hr hlk d_La_take_16 (w1 := cO out cJ (vp_updL go 0 q.toInt64) :: w1) hP hD hS ⟨_, rfl, Or.inl ⟨q, w1, by rw [Nat.zero_add, Nat.zero_add]; exact hq, rfl, rfl⟩⟩
  · refine W.eq (g2 := F0 m_ 12 ls [.ref x_]) rfl ?_
    refine lv_astore_n (lv' := [(3, .ref x_), (0, .ref o), (1, .int x1), (2, .ref out)]) hx hb d_La_take_12 rfl hl (by decide) rfl (fun ls hl => ?_)
    refine lv_iconst (v := 1) hx hb d_La_take_13 (by decide) ?_
    exact t_iret hx hb hr hlk d_La_take_14 hP hD hS ⟨_, rfl, Or.inr ⟨_, hX, rfl, rfl, rfl, rfl⟩⟩
set_option maxHeartbeats 1000000 in
set_option maxRecDepth 100000 in
theorem h_run (l : Launch) (D : va_G) (cB cI cJ : ClassId) (ad : Nat → Nat) (o : Nat) (fs : List Value) (wt : va_W) (x1 : Int32) (rm : Room) (post : Int32 → va_W → Nat → Nat → Prop) (px : String → Prop) (hM : TrX l D classes (TY cB cI cJ) gd_tbl nx_tbl str_tbl ad y_CO_run b_CO_run 2 (some .int) rm [.ref o, .int x1] ((o, .inr (7, fs)) :: wt) (pI post) px) (hpx : (∀ X, px X → X = "java/lang/IndexOutOfBoundsException")) (out : Nat) (go : Nat → Int64) :
    TrW l D classes (TY cB cI cJ) gd_tbl nx_tbl str_tbl ad y_La_run b_La_run 4 (some .int) [(0, 9, 12, 13)] ({ frames := rm.frames + 1, cells := rm.cells, slots := rm.slots, locals := 8 + (2 + 11) + rm.locals }) [.ref o, .int x1, .ref out] (cO out cJ go :: ((o, .inr (7, fs)) :: wt))
      (pI (fun r w k n => (∃ q w1, post q w1 k n ∧ r = 0 ∧ w = cO out cJ (vp_updL go 0 q.toInt64) :: w1) ∨ (∃ X, px X ∧ r = 1 ∧ w = cO out cJ go :: ((o, .inr (7, fs)) :: wt) ∧ k = 1 ∧ n = 6))) := by
  refine TrW.intro (by decide +kernel) nx_ok (Nat.le_of_ble_eq_true rfl) ?_
  intro p_ e_ s_ m_ args_ below_ meth_ c_ A_ ls had hx hb hml hown hts hr hlk hnm hZ hP hD hS hl hXU htab
  have hl : lv_has ls 4 [(0, .ref o), (1, .int x1), (2, .ref out)] := hl
  refine lv_aload_n hx hb d_La_run_0 rfl (lv_at hl 2 rfl) ?_
  refine lv_iconst (v := 0) hx hb d_La_run_1 (by decide) ?_
  refine lv_aload_n hx hb d_La_run_2 rfl (lv_at hl 0 rfl) ?_
  refine lv_iload_n hx hb d_La_run_3 rfl (lv_at hl 1 rfl) ?_
  refine x_callV (wr := [cO out cJ go]) (As := [.int x1]) (rest := [.int 0, .ref out]) ⟨hx, hb, hml, hown, hts⟩ gd_good hM cal_CO_run ml_La_24 ⟨Nat.le_refl _, Nat.le_refl _⟩ hZ hXU hP hD hS (cut_app [cO out cJ go] ((o, .inr (7, fs)) :: wt)) 1 (ci := 7) rfl rfl rfl rfl hl.1 rfl (Nat.le_of_ble_eq_true rfl) d_La_run_4 ⟨by simp, by simp⟩ (fun _ => 12) (fun X hX => by obtain rfl := hpx X hX; exact hnd1 had hown htab (hts _ cl_La_13) (hZ.2.1 _ (List.mem_of_getElem? (i := 8) rfl)) (by decide) (by decide)) (fun v w1 k n H locs hq hP hD hS => ?_) (fun X x_ H hX hP hS => ?_)
  · obtain ⟨q, rfl, hq⟩ := hq
    refine W.eq (g2 := F0 m_ 7 ls [.int q, .int 0, .ref out]) rfl ?_
    refine lv_i2l hx hb d_La_run_7 rfl ?_
    refine va_last hx hb hZ.1 hP hD hS 0 2 rfl rfl (show vp_in (nI 0) 1 from vp_in_nI (by decide) (by decide)) d_La_run_8 (fun H locs hP hD hS => ?_)
    refine lv_goto (tgt := 15) hx hb d_La_run_9 (by decide) ?_
    refine lv_iconst (v := 0) hx hb d_La_run_15 (by decide) ?_
    refine W.widen (k := 0 + k) (n := 0 + n) (Nat.le_refl _) (Nat.le_refl _) ?_
    exact t_iret hx hb hr hlk d_La_run_16 (w1 := cO out cJ (vp_updL go 0 q.toInt64) :: w1) hP hD hS ⟨_, rfl, Or.inl ⟨q, w1, by rw [Nat.zero_add, Nat.zero_add]; exact hq, rfl, rfl⟩⟩
  · refine W.eq (g2 := F0 m_ 12 ls [.ref x_]) rfl ?_
    refine lv_astore_n (lv' := [(3, .ref x_), (0, .ref o), (1, .int x1), (2, .ref out)]) hx hb d_La_run_12 rfl hl (by decide) rfl (fun ls hl => ?_)
    refine lv_iconst (v := 1) hx hb d_La_run_13 (by decide) ?_
    exact t_iret hx hb hr hlk d_La_run_14 hP hD hS ⟨_, rfl, Or.inr ⟨_, hX, rfl, rfl, rfl, rfl⟩⟩
set_option maxHeartbeats 1000000 in
set_option maxRecDepth 100000 in
theorem h_mark (l : Launch) (D : va_G) (cB cI cJ : ClassId) (ad : Nat → Nat) (o : Nat) (fs : List Value) (wt : va_W) (x1 x2 : Int32) (rm : Room) (post : Int32 → va_W → Nat → Nat → Prop) (px : String → Prop) (hM : TrX l D classes (TY cB cI cJ) gd_tbl nx_tbl str_tbl ad y_CO_mark b_CO_mark 3 (some .int) rm [.ref o, .int x1, .int x2] ((o, .inr (7, fs)) :: wt) (pI post) px) (hpx : (∀ X, px X → X = "java/lang/IndexOutOfBoundsException")) (out : Nat) (go : Nat → Int64) :
    TrW l D classes (TY cB cI cJ) gd_tbl nx_tbl str_tbl ad y_La_mark b_La_mark 5 (some .int) [(0, 10, 13, 13)] ({ frames := rm.frames + 1, cells := rm.cells, slots := rm.slots, locals := 8 + (3 + 11) + rm.locals }) [.ref o, .int x1, .int x2, .ref out] (cO out cJ go :: ((o, .inr (7, fs)) :: wt))
      (pI (fun r w k n => (∃ q w1, post q w1 k n ∧ r = 0 ∧ w = cO out cJ (vp_updL go 0 q.toInt64) :: w1) ∨ (∃ X, px X ∧ r = 1 ∧ w = cO out cJ go :: ((o, .inr (7, fs)) :: wt) ∧ k = 1 ∧ n = 6))) := by
  refine TrW.intro (by decide +kernel) nx_ok (Nat.le_of_ble_eq_true rfl) ?_
  intro p_ e_ s_ m_ args_ below_ meth_ c_ A_ ls had hx hb hml hown hts hr hlk hnm hZ hP hD hS hl hXU htab
  have hl : lv_has ls 5 [(0, .ref o), (1, .int x1), (2, .int x2), (3, .ref out)] := hl
  refine lv_aload_n hx hb d_La_mark_0 rfl (lv_at hl 3 rfl) ?_
  refine lv_iconst (v := 0) hx hb d_La_mark_1 (by decide) ?_
  refine lv_aload_n hx hb d_La_mark_2 rfl (lv_at hl 0 rfl) ?_
  refine lv_iload_n hx hb d_La_mark_3 rfl (lv_at hl 1 rfl) ?_
  refine lv_iload_n hx hb d_La_mark_4 rfl (lv_at hl 2 rfl) ?_
  refine x_callV (wr := [cO out cJ go]) (As := [.int x1, .int x2]) (rest := [.int 0, .ref out]) ⟨hx, hb, hml, hown, hts⟩ gd_good hM cal_CO_mark ml_La_27 ⟨Nat.le_refl _, Nat.le_refl _⟩ hZ hXU hP hD hS (cut_app [cO out cJ go] ((o, .inr (7, fs)) :: wt)) 1 (ci := 7) rfl rfl rfl rfl hl.1 rfl (Nat.le_of_ble_eq_true rfl) d_La_mark_5 ⟨by simp, by simp⟩ (fun _ => 13) (fun X hX => by obtain rfl := hpx X hX; exact hnd1 had hown htab (hts _ cl_La_13) (hZ.2.1 _ (List.mem_of_getElem? (i := 8) rfl)) (by decide) (by decide)) (fun v w1 k n H locs hq hP hD hS => ?_) (fun X x_ H hX hP hS => ?_)
  · obtain ⟨q, rfl, hq⟩ := hq
    refine W.eq (g2 := F0 m_ 8 ls [.int q, .int 0, .ref out]) rfl ?_
    refine lv_i2l hx hb d_La_mark_8 rfl ?_
    refine va_last hx hb hZ.1 hP hD hS 0 2 rfl rfl (show vp_in (nI 0) 1 from vp_in_nI (by decide) (by decide)) d_La_mark_9 (fun H locs hP hD hS => ?_)
    refine lv_goto (tgt := 17) hx hb d_La_mark_10 (by decide) ?_
    refine lv_iconst (v := 0) hx hb d_La_mark_17 (by decide) ?_
    refine W.widen (k := 0 + k) (n := 0 + n) (Nat.le_refl _) (Nat.le_refl _) ?_
    exact t_iret hx hb hr hlk d_La_mark_18 (w1 := cO out cJ (vp_updL go 0 q.toInt64) :: w1) hP hD hS ⟨_, rfl, Or.inl ⟨q, w1, by rw [Nat.zero_add, Nat.zero_add]; exact hq, rfl, rfl⟩⟩
  · refine W.eq (g2 := F0 m_ 13 ls [.ref x_]) rfl ?_
    refine lv_astore (lv' := [(4, .ref x_), (0, .ref o), (1, .int x1), (2, .int x2), (3, .ref out)]) hx hb d_La_mark_13 hl (by decide) rfl (fun ls hl => ?_)
    refine lv_iconst (v := 1) hx hb d_La_mark_15 (by decide) ?_
    exact t_iret hx hb hr hlk d_La_mark_16 hP hD hS ⟨_, rfl, Or.inr ⟨_, hX, rfl, rfl, rfl, rfl⟩⟩
set_option maxHeartbeats 1000000 in
set_option maxRecDepth 100000 in
theorem h_count (l : Launch) (D : va_G) (cB cI cJ : ClassId) (ad : Nat → Nat) (o : Nat) (fs : List Value) (wt : va_W) (x1 : Int32) (rm : Room) (post : Int32 → va_W → Nat → Nat → Prop) (px : String → Prop) (hM : TrX l D classes (TY cB cI cJ) gd_tbl nx_tbl str_tbl ad y_CO_count b_CO_count 2 (some .int) rm [.ref o, .int x1] ((o, .inr (7, fs)) :: wt) (pI post) px) (hpx : (∀ X, px X → X = "java/lang/IllegalArgumentException")) (out : Nat) (go : Nat → Int64) :
    TrW l D classes (TY cB cI cJ) gd_tbl nx_tbl str_tbl ad y_La_count b_La_count 4 (some .int) [(0, 9, 12, 15)] ({ frames := rm.frames + 1, cells := rm.cells, slots := rm.slots, locals := 8 + (2 + 11) + rm.locals }) [.ref o, .int x1, .ref out] (cO out cJ go :: ((o, .inr (7, fs)) :: wt))
      (pI (fun r w k n => (∃ q w1, post q w1 k n ∧ r = 0 ∧ w = cO out cJ (vp_updL go 0 q.toInt64) :: w1) ∨ (∃ X, px X ∧ r = 1 ∧ w = cO out cJ go :: ((o, .inr (7, fs)) :: wt) ∧ k = 1 ∧ n = 6))) := by
  refine TrW.intro (by decide +kernel) nx_ok (Nat.le_of_ble_eq_true rfl) ?_
  intro p_ e_ s_ m_ args_ below_ meth_ c_ A_ ls had hx hb hml hown hts hr hlk hnm hZ hP hD hS hl hXU htab
  have hl : lv_has ls 4 [(0, .ref o), (1, .int x1), (2, .ref out)] := hl
  refine lv_aload_n hx hb d_La_count_0 rfl (lv_at hl 2 rfl) ?_
  refine lv_iconst (v := 0) hx hb d_La_count_1 (by decide) ?_
  refine lv_aload_n hx hb d_La_count_2 rfl (lv_at hl 0 rfl) ?_
  refine lv_iload_n hx hb d_La_count_3 rfl (lv_at hl 1 rfl) ?_
  refine x_callV (wr := [cO out cJ go]) (As := [.int x1]) (rest := [.int 0, .ref out]) ⟨hx, hb, hml, hown, hts⟩ gd_good hM cal_CO_count ml_La_30 ⟨Nat.le_refl _, Nat.le_refl _⟩ hZ hXU hP hD hS (cut_app [cO out cJ go] ((o, .inr (7, fs)) :: wt)) 1 (ci := 7) rfl rfl rfl rfl hl.1 rfl (Nat.le_of_ble_eq_true rfl) d_La_count_4 ⟨by simp, by simp⟩ (fun _ => 12) (fun X hX => by obtain rfl := hpx X hX; exact hnd1 had hown htab (hts _ cl_La_15) (hZ.2.1 _ (List.mem_of_getElem? (i := 15) rfl)) (by decide) (by decide)) (fun v w1 k n H locs hq hP hD hS => ?_) (fun X x_ H hX hP hS => ?_)
  · obtain ⟨q, rfl, hq⟩ := hq
    refine W.eq (g2 := F0 m_ 7 ls [.int q, .int 0, .ref out]) rfl ?_
    refine lv_i2l hx hb d_La_count_7 rfl ?_
    refine va_last hx hb hZ.1 hP hD hS 0 2 rfl rfl (show vp_in (nI 0) 1 from vp_in_nI (by decide) (by decide)) d_La_count_8 (fun H locs hP hD hS => ?_)
    refine lv_goto (tgt := 15) hx hb d_La_count_9 (by decide) ?_
    refine lv_iconst (v := 0) hx hb d_La_count_15 (by decide) ?_
    refine W.widen (k := 0 + k) (n := 0 + n) (Nat.le_refl _) (Nat.le_refl _) ?_
    exact t_iret hx hb hr hlk d_La_count_16 (w1 := cO out cJ (vp_updL go 0 q.toInt64) :: w1) hP hD hS ⟨_, rfl, Or.inl ⟨q, w1, by rw [Nat.zero_add, Nat.zero_add]; exact hq, rfl, rfl⟩⟩
  · refine W.eq (g2 := F0 m_ 12 ls [.ref x_]) rfl ?_
    refine lv_astore_n (lv' := [(3, .ref x_), (0, .ref o), (1, .int x1), (2, .ref out)]) hx hb d_La_count_12 rfl hl (by decide) rfl (fun ls hl => ?_)
    refine lv_iconst (v := 1) hx hb d_La_count_13 (by decide) ?_
    exact t_iret hx hb hr hlk d_La_count_14 hP hD hS ⟨_, rfl, Or.inr ⟨_, hX, rfl, rfl, rfl, rfl⟩⟩
end
