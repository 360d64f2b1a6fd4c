section
-- ===== PART A: goes FIRST, ahead of the names: the tables' words, and 'selects' of the private methods out of them =====
/-- a private method of a class that the tables say can be made, by its rows of tables_1 -/
def lw_okq (q : MethodName × Nat) : Prop := (q.1.cls ≠ "java/lang/invoke/MethodHandle" ∧ q.1.cls ≠ "java/lang/invoke/VarHandle") ∧ Cond.instantiable q.1.cls q.2 ∈ tables_1 ∧ Cond.privateMethod q.1 ∈ tables_1 ∧ Cond.instanceMethod q.1 ∈ tables_1
theorem lw_p0 : lw_okq (⟨"CharOutlines$Bytes", "makeRoom", "(I)V"⟩, 2) := ⟨⟨by decide +kernel, by decide +kernel⟩, List.mem_of_getElem? (i := 28) (by decide +kernel), List.mem_of_getElem? (i := 193) (by decide +kernel), List.mem_of_getElem? (i := 194) (by decide +kernel)⟩
theorem lw_p1 : lw_okq (⟨"java/lang/Throwable", "fillInStackTrace", "(I)Ljava/lang/Throwable;"⟩, 6) := ⟨⟨by decide +kernel, by decide +kernel⟩, List.mem_of_getElem? (i := 279) (by decide +kernel), List.mem_of_getElem? (i := 277) (by decide +kernel), List.mem_of_getElem? (i := 278) (by decide +kernel)⟩
theorem lw_p2 : lw_okq (⟨"CharOutlines$Machine", "begin", "(I)V"⟩, 11) := ⟨⟨by decide +kernel, by decide +kernel⟩, List.mem_of_getElem? (i := 42) (by decide +kernel), List.mem_of_getElem? (i := 401) (by decide +kernel), List.mem_of_getElem? (i := 402) (by decide +kernel)⟩
theorem lw_p3 : lw_okq (⟨"CharOutlines$Machine", "readCode", "()I"⟩, 11) := ⟨⟨by decide +kernel, by decide +kernel⟩, List.mem_of_getElem? (i := 42) (by decide +kernel), List.mem_of_getElem? (i := 435) (by decide +kernel), List.mem_of_getElem? (i := 436) (by decide +kernel)⟩
theorem lw_p4 : lw_okq (⟨"CharOutlines$Machine", "perform", "(I)I"⟩, 11) := ⟨⟨by decide +kernel, by decide +kernel⟩, List.mem_of_getElem? (i := 42) (by decide +kernel), List.mem_of_getElem? (i := 451) (by decide +kernel), List.mem_of_getElem? (i := 452) (by decide +kernel)⟩
theorem lw_p5 : lw_okq (⟨"CharOutlines$Machine", "pushNumber", "(I)I"⟩, 11) := ⟨⟨by decide +kernel, by decide +kernel⟩, List.mem_of_getElem? (i := 42) (by decide +kernel), List.mem_of_getElem? (i := 455) (by decide +kernel), List.mem_of_getElem? (i := 456) (by decide +kernel)⟩
theorem lw_p6 : lw_okq (⟨"CharOutlines$Machine", "draw", "(I)I"⟩, 11) := ⟨⟨by decide +kernel, by decide +kernel⟩, List.mem_of_getElem? (i := 42) (by decide +kernel), List.mem_of_getElem? (i := 473) (by decide +kernel), List.mem_of_getElem? (i := 474) (by decide +kernel)⟩
theorem lw_p7 : lw_okq (⟨"CharOutlines$Outline", "add", "(IIIIIII)Z"⟩, 4) := ⟨⟨by decide +kernel, by decide +kernel⟩, List.mem_of_getElem? (i := 121) (by decide +kernel), List.mem_of_getElem? (i := 509) (by decide +kernel), List.mem_of_getElem? (i := 510) (by decide +kernel)⟩
theorem lw_p8 : lw_okq (⟨"CharOutlines$Machine", "hint", "()I"⟩, 11) := ⟨⟨by decide +kernel, by decide +kernel⟩, List.mem_of_getElem? (i := 42) (by decide +kernel), List.mem_of_getElem? (i := 544) (by decide +kernel), List.mem_of_getElem? (i := 545) (by decide +kernel)⟩
theorem lw_p9 : lw_okq (⟨"CharOutlines$Machine", "passWidth", "(I)Z"⟩, 11) := ⟨⟨by decide +kernel, by decide +kernel⟩, List.mem_of_getElem? (i := 42) (by decide +kernel), List.mem_of_getElem? (i := 548) (by decide +kernel), List.mem_of_getElem? (i := 549) (by decide +kernel)⟩
theorem lw_p10 : lw_okq (⟨"CharOutlines$Machine", "mask", "()I"⟩, 11) := ⟨⟨by decide +kernel, by decide +kernel⟩, List.mem_of_getElem? (i := 42) (by decide +kernel), List.mem_of_getElem? (i := 553) (by decide +kernel), List.mem_of_getElem? (i := 554) (by decide +kernel)⟩
theorem lw_p11 : lw_okq (⟨"CharOutlines$Machine", "move", "(I)I"⟩, 11) := ⟨⟨by decide +kernel, by decide +kernel⟩, List.mem_of_getElem? (i := 42) (by decide +kernel), List.mem_of_getElem? (i := 561) (by decide +kernel), List.mem_of_getElem? (i := 562) (by decide +kernel)⟩
theorem lw_p12 : lw_okq (⟨"CharOutlines$Machine", "end", "()I"⟩, 11) := ⟨⟨by decide +kernel, by decide +kernel⟩, List.mem_of_getElem? (i := 42) (by decide +kernel), List.mem_of_getElem? (i := 573) (by decide +kernel), List.mem_of_getElem? (i := 574) (by decide +kernel)⟩
theorem lw_p13 : lw_okq (⟨"CharOutlines$Machine", "call", "(I)I"⟩, 11) := ⟨⟨by decide +kernel, by decide +kernel⟩, List.mem_of_getElem? (i := 42) (by decide +kernel), List.mem_of_getElem? (i := 577) (by decide +kernel), List.mem_of_getElem? (i := 578) (by decide +kernel)⟩
theorem lw_p14 : lw_okq (⟨"CharOutlines$Reckoning", "ofOne", "(ILCharOutlines$Values;)I"⟩, 1) := ⟨⟨by decide +kernel, by decide +kernel⟩, List.mem_of_getElem? (i := 111) (by decide +kernel), List.mem_of_getElem? (i := 604) (by decide +kernel), List.mem_of_getElem? (i := 605) (by decide +kernel)⟩
theorem lw_p15 : lw_okq (⟨"CharOutlines$Reckoning", "load", "(ILCharOutlines$Values;)I"⟩, 1) := ⟨⟨by decide +kernel, by decide +kernel⟩, List.mem_of_getElem? (i := 111) (by decide +kernel), List.mem_of_getElem? (i := 615) (by decide +kernel), List.mem_of_getElem? (i := 616) (by decide +kernel)⟩
def lw_privs_1 : List (MethodName × Nat) := [(⟨"CharOutlines$Bytes", "makeRoom", "(I)V"⟩, 2), (⟨"java/lang/Throwable", "fillInStackTrace", "(I)Ljava/lang/Throwable;"⟩, 6), (⟨"CharOutlines$Machine", "begin", "(I)V"⟩, 11), (⟨"CharOutlines$Machine", "readCode", "()I"⟩, 11), (⟨"CharOutlines$Machine", "perform", "(I)I"⟩, 11), (⟨"CharOutlines$Machine", "pushNumber", "(I)I"⟩, 11), (⟨"CharOutlines$Machine", "draw", "(I)I"⟩, 11), (⟨"CharOutlines$Outline", "add", "(IIIIIII)Z"⟩, 4), (⟨"CharOutlines$Machine", "hint", "()I"⟩, 11), (⟨"CharOutlines$Machine", "passWidth", "(I)Z"⟩, 11), (⟨"CharOutlines$Machine", "mask", "()I"⟩, 11), (⟨"CharOutlines$Machine", "move", "(I)I"⟩, 11), (⟨"CharOutlines$Machine", "end", "()I"⟩, 11), (⟨"CharOutlines$Machine", "call", "(I)I"⟩, 11), (⟨"CharOutlines$Reckoning", "ofOne", "(ILCharOutlines$Values;)I"⟩, 1), (⟨"CharOutlines$Reckoning", "load", "(ILCharOutlines$Values;)I"⟩, 1)]
theorem lw_r1 : ∀ q ∈ lw_privs_1, lw_okq q := List.forall_mem_cons.mpr ⟨lw_p0, List.forall_mem_cons.mpr ⟨lw_p1, List.forall_mem_cons.mpr ⟨lw_p2, List.forall_mem_cons.mpr ⟨lw_p3, List.forall_mem_cons.mpr ⟨lw_p4, List.forall_mem_cons.mpr ⟨lw_p5, List.forall_mem_cons.mpr ⟨lw_p6, List.forall_mem_cons.mpr ⟨lw_p7, List.forall_mem_cons.mpr ⟨lw_p8, List.forall_mem_cons.mpr ⟨lw_p9, List.forall_mem_cons.mpr ⟨lw_p10, List.forall_mem_cons.mpr ⟨lw_p11, List.forall_mem_cons.mpr ⟨lw_p12, List.forall_mem_cons.mpr ⟨lw_p13, List.forall_mem_cons.mpr ⟨lw_p14, List.forall_mem_cons.mpr ⟨lw_p15, fun _ h => absurd h List.not_mem_nil⟩⟩⟩⟩⟩⟩⟩⟩⟩⟩⟩⟩⟩⟩⟩⟩
theorem lw_p16 : lw_okq (⟨"CharOutlines$Reckoning", "ofTwo", "(ILCharOutlines$Values;)I"⟩, 1) := ⟨⟨by decide +kernel, by decide +kernel⟩, List.mem_of_getElem? (i := 111) (by decide +kernel), List.mem_of_getElem? (i := 628) (by decide +kernel), List.mem_of_getElem? (i := 629) (by decide +kernel)⟩
theorem lw_p17 : lw_okq (⟨"CharOutlines$Reckoning", "store", "(II)I"⟩, 1) := ⟨⟨by decide +kernel, by decide +kernel⟩, List.mem_of_getElem? (i := 111) (by decide +kernel), List.mem_of_getElem? (i := 635) (by decide +kernel), List.mem_of_getElem? (i := 636) (by decide +kernel)⟩
theorem lw_p18 : lw_okq (⟨"CharOutlinesModel", "refused", "(I)Z"⟩, 29) := ⟨⟨by decide +kernel, by decide +kernel⟩, List.mem_of_getElem? (i := 686) (by decide +kernel), List.mem_of_getElem? (i := 793) (by decide +kernel), List.mem_of_getElem? (i := 794) (by decide +kernel)⟩
theorem lw_p19 : lw_okq (⟨"CharOutlinesModel", "isShelf", "()Z"⟩, 29) := ⟨⟨by decide +kernel, by decide +kernel⟩, List.mem_of_getElem? (i := 686) (by decide +kernel), List.mem_of_getElem? (i := 805) (by decide +kernel), List.mem_of_getElem? (i := 806) (by decide +kernel)⟩
theorem lw_p20 : lw_okq (⟨"CharOutlinesModel", "rowNumber", "(II)J"⟩, 29) := ⟨⟨by decide +kernel, by decide +kernel⟩, List.mem_of_getElem? (i := 686) (by decide +kernel), List.mem_of_getElem? (i := 809) (by decide +kernel), List.mem_of_getElem? (i := 810) (by decide +kernel)⟩
theorem lw_p21 : lw_okq (⟨"CharOutlinesModel", "enter", "(II)V"⟩, 29) := ⟨⟨by decide +kernel, by decide +kernel⟩, List.mem_of_getElem? (i := 686) (by decide +kernel), List.mem_of_getElem? (i := 822) (by decide +kernel), List.mem_of_getElem? (i := 823) (by decide +kernel)⟩
theorem lw_p22 : lw_okq (⟨"CharOutlinesModel", "begin", "(II)I"⟩, 29) := ⟨⟨by decide +kernel, by decide +kernel⟩, List.mem_of_getElem? (i := 686) (by decide +kernel), List.mem_of_getElem? (i := 826) (by decide +kernel), List.mem_of_getElem? (i := 827) (by decide +kernel)⟩
theorem lw_p23 : lw_okq (⟨"CharOutlinesModel", "step", "()V"⟩, 29) := ⟨⟨by decide +kernel, by decide +kernel⟩, List.mem_of_getElem? (i := 686) (by decide +kernel), List.mem_of_getElem? (i := 830) (by decide +kernel), List.mem_of_getElem? (i := 831) (by decide +kernel)⟩
theorem lw_p24 : lw_okq (⟨"CharOutlinesModel", "fail", "(I)V"⟩, 29) := ⟨⟨by decide +kernel, by decide +kernel⟩, List.mem_of_getElem? (i := 686) (by decide +kernel), List.mem_of_getElem? (i := 834) (by decide +kernel), List.mem_of_getElem? (i := 835) (by decide +kernel)⟩
theorem lw_p25 : lw_okq (⟨"CharOutlinesModel", "next", "()I"⟩, 29) := ⟨⟨by decide +kernel, by decide +kernel⟩, List.mem_of_getElem? (i := 686) (by decide +kernel), List.mem_of_getElem? (i := 838) (by decide +kernel), List.mem_of_getElem? (i := 839) (by decide +kernel)⟩
theorem lw_p26 : lw_okq (⟨"CharOutlinesModel", "number", "(I)I"⟩, 29) := ⟨⟨by decide +kernel, by decide +kernel⟩, List.mem_of_getElem? (i := 686) (by decide +kernel), List.mem_of_getElem? (i := 842) (by decide +kernel), List.mem_of_getElem? (i := 843) (by decide +kernel)⟩
theorem lw_p27 : lw_okq (⟨"CharOutlinesModel", "push", "(I)V"⟩, 29) := ⟨⟨by decide +kernel, by decide +kernel⟩, List.mem_of_getElem? (i := 686) (by decide +kernel), List.mem_of_getElem? (i := 847) (by decide +kernel), List.mem_of_getElem? (i := 848) (by decide +kernel)⟩
theorem lw_p28 : lw_okq (⟨"CharOutlinesModel", "longOperator", "(I)V"⟩, 29) := ⟨⟨by decide +kernel, by decide +kernel⟩, List.mem_of_getElem? (i := 686) (by decide +kernel), List.mem_of_getElem? (i := 851) (by decide +kernel), List.mem_of_getElem? (i := 852) (by decide +kernel)⟩
theorem lw_p29 : lw_okq (⟨"CharOutlinesModel", "flex", "(I)V"⟩, 29) := ⟨⟨by decide +kernel, by decide +kernel⟩, List.mem_of_getElem? (i := 686) (by decide +kernel), List.mem_of_getElem? (i := 855) (by decide +kernel), List.mem_of_getElem? (i := 856) (by decide +kernel)⟩
theorem lw_p30 : lw_okq (⟨"CharOutlinesModel", "may", "(Z)Z"⟩, 29) := ⟨⟨by decide +kernel, by decide +kernel⟩, List.mem_of_getElem? (i := 686) (by decide +kernel), List.mem_of_getElem? (i := 859) (by decide +kernel), List.mem_of_getElem? (i := 860) (by decide +kernel)⟩
theorem lw_p31 : lw_okq (⟨"CharOutlinesModel", "six", "(I)V"⟩, 29) := ⟨⟨by decide +kernel, by decide +kernel⟩, List.mem_of_getElem? (i := 686) (by decide +kernel), List.mem_of_getElem? (i := 863) (by decide +kernel), List.mem_of_getElem? (i := 864) (by decide +kernel)⟩
def lw_privs_2 : List (MethodName × Nat) := [(⟨"CharOutlines$Reckoning", "ofTwo", "(ILCharOutlines$Values;)I"⟩, 1), (⟨"CharOutlines$Reckoning", "store", "(II)I"⟩, 1), (⟨"CharOutlinesModel", "refused", "(I)Z"⟩, 29), (⟨"CharOutlinesModel", "isShelf", "()Z"⟩, 29), (⟨"CharOutlinesModel", "rowNumber", "(II)J"⟩, 29), (⟨"CharOutlinesModel", "enter", "(II)V"⟩, 29), (⟨"CharOutlinesModel", "begin", "(II)I"⟩, 29), (⟨"CharOutlinesModel", "step", "()V"⟩, 29), (⟨"CharOutlinesModel", "fail", "(I)V"⟩, 29), (⟨"CharOutlinesModel", "next", "()I"⟩, 29), (⟨"CharOutlinesModel", "number", "(I)I"⟩, 29), (⟨"CharOutlinesModel", "push", "(I)V"⟩, 29), (⟨"CharOutlinesModel", "longOperator", "(I)V"⟩, 29), (⟨"CharOutlinesModel", "flex", "(I)V"⟩, 29), (⟨"CharOutlinesModel", "may", "(Z)Z"⟩, 29), (⟨"CharOutlinesModel", "six", "(I)V"⟩, 29)]
theorem lw_r2 : ∀ q ∈ lw_privs_2, lw_okq q := List.forall_mem_cons.mpr ⟨lw_p16, List.forall_mem_cons.mpr ⟨lw_p17, List.forall_mem_cons.mpr ⟨lw_p18, List.forall_mem_cons.mpr ⟨lw_p19, List.forall_mem_cons.mpr ⟨lw_p20, List.forall_mem_cons.mpr ⟨lw_p21, List.forall_mem_cons.mpr ⟨lw_p22, List.forall_mem_cons.mpr ⟨lw_p23, List.forall_mem_cons.mpr ⟨lw_p24, List.forall_mem_cons.mpr ⟨lw_p25, List.forall_mem_cons.mpr ⟨lw_p26, List.forall_mem_cons.mpr ⟨lw_p27, List.forall_mem_cons.mpr ⟨lw_p28, List.forall_mem_cons.mpr ⟨lw_p29, List.forall_mem_cons.mpr ⟨lw_p30, List.forall_mem_cons.mpr ⟨lw_p31, fun _ h => absurd h List.not_mem_nil⟩⟩⟩⟩⟩⟩⟩⟩⟩⟩⟩⟩⟩⟩⟩⟩
theorem lw_p32 : lw_okq (⟨"CharOutlinesModel", "curve", "(IIIIII)V"⟩, 29) := ⟨⟨by decide +kernel, by decide +kernel⟩, List.mem_of_getElem? (i := 686) (by decide +kernel), List.mem_of_getElem? (i := 867) (by decide +kernel), List.mem_of_getElem? (i := 868) (by decide +kernel)⟩
theorem lw_p33 : lw_okq (⟨"CharOutlinesModel", "add", "(IIIII)V"⟩, 29) := ⟨⟨by decide +kernel, by decide +kernel⟩, List.mem_of_getElem? (i := 686) (by decide +kernel), List.mem_of_getElem? (i := 871) (by decide +kernel), List.mem_of_getElem? (i := 872) (by decide +kernel)⟩
theorem lw_p34 : lw_okq (⟨"CharOutlinesModel", "two", "(IIIIII)V"⟩, 29) := ⟨⟨by decide +kernel, by decide +kernel⟩, List.mem_of_getElem? (i := 686) (by decide +kernel), List.mem_of_getElem? (i := 875) (by decide +kernel), List.mem_of_getElem? (i := 876) (by decide +kernel)⟩
theorem lw_p35 : lw_okq (⟨"CharOutlinesModel", "take", "()V"⟩, 29) := ⟨⟨by decide +kernel, by decide +kernel⟩, List.mem_of_getElem? (i := 686) (by decide +kernel), List.mem_of_getElem? (i := 879) (by decide +kernel), List.mem_of_getElem? (i := 880) (by decide +kernel)⟩
theorem lw_p36 : lw_okq (⟨"CharOutlinesModel", "one", "(I)V"⟩, 29) := ⟨⟨by decide +kernel, by decide +kernel⟩, List.mem_of_getElem? (i := 686) (by decide +kernel), List.mem_of_getElem? (i := 886) (by decide +kernel), List.mem_of_getElem? (i := 887) (by decide +kernel)⟩
theorem lw_p37 : lw_okq (⟨"CharOutlinesModel", "has", "(I)Z"⟩, 29) := ⟨⟨by decide +kernel, by decide +kernel⟩, List.mem_of_getElem? (i := 686) (by decide +kernel), List.mem_of_getElem? (i := 890) (by decide +kernel), List.mem_of_getElem? (i := 891) (by decide +kernel)⟩
theorem lw_p38 : lw_okq (⟨"CharOutlinesModel", "pair", "(I)V"⟩, 29) := ⟨⟨by decide +kernel, by decide +kernel⟩, List.mem_of_getElem? (i := 686) (by decide +kernel), List.mem_of_getElem? (i := 903) (by decide +kernel), List.mem_of_getElem? (i := 904) (by decide +kernel)⟩
theorem lw_p39 : lw_okq (⟨"CharOutlinesModel", "choose", "()V"⟩, 29) := ⟨⟨by decide +kernel, by decide +kernel⟩, List.mem_of_getElem? (i := 686) (by decide +kernel), List.mem_of_getElem? (i := 910) (by decide +kernel), List.mem_of_getElem? (i := 911) (by decide +kernel)⟩
theorem lw_p40 : lw_okq (⟨"CharOutlinesModel", "index", "()V"⟩, 29) := ⟨⟨by decide +kernel, by decide +kernel⟩, List.mem_of_getElem? (i := 686) (by decide +kernel), List.mem_of_getElem? (i := 914) (by decide +kernel), List.mem_of_getElem? (i := 915) (by decide +kernel)⟩
theorem lw_p41 : lw_okq (⟨"CharOutlinesModel", "roll", "()V"⟩, 29) := ⟨⟨by decide +kernel, by decide +kernel⟩, List.mem_of_getElem? (i := 686) (by decide +kernel), List.mem_of_getElem? (i := 921) (by decide +kernel), List.mem_of_getElem? (i := 922) (by decide +kernel)⟩
theorem lw_p42 : lw_okq (⟨"CharOutlinesModel", "store", "()V"⟩, 29) := ⟨⟨by decide +kernel, by decide +kernel⟩, List.mem_of_getElem? (i := 686) (by decide +kernel), List.mem_of_getElem? (i := 925) (by decide +kernel), List.mem_of_getElem? (i := 926) (by decide +kernel)⟩
theorem lw_p43 : lw_okq (⟨"CharOutlinesModel", "load", "()V"⟩, 29) := ⟨⟨by decide +kernel, by decide +kernel⟩, List.mem_of_getElem? (i := 686) (by decide +kernel), List.mem_of_getElem? (i := 929) (by decide +kernel), List.mem_of_getElem? (i := 930) (by decide +kernel)⟩
theorem lw_p44 : lw_okq (⟨"CharOutlinesModel", "operator", "(I)V"⟩, 29) := ⟨⟨by decide +kernel, by decide +kernel⟩, List.mem_of_getElem? (i := 686) (by decide +kernel), List.mem_of_getElem? (i := 933) (by decide +kernel), List.mem_of_getElem? (i := 934) (by decide +kernel)⟩
theorem lw_p45 : lw_okq (⟨"CharOutlinesModel", "stems", "(Z)V"⟩, 29) := ⟨⟨by decide +kernel, by decide +kernel⟩, List.mem_of_getElem? (i := 686) (by decide +kernel), List.mem_of_getElem? (i := 937) (by decide +kernel), List.mem_of_getElem? (i := 938) (by decide +kernel)⟩
theorem lw_p46 : lw_okq (⟨"CharOutlinesModel", "begins", "(Z)I"⟩, 29) := ⟨⟨by decide +kernel, by decide +kernel⟩, List.mem_of_getElem? (i := 686) (by decide +kernel), List.mem_of_getElem? (i := 941) (by decide +kernel), List.mem_of_getElem? (i := 942) (by decide +kernel)⟩
theorem lw_p47 : lw_okq (⟨"CharOutlinesModel", "move", "(I)V"⟩, 29) := ⟨⟨by decide +kernel, by decide +kernel⟩, List.mem_of_getElem? (i := 686) (by decide +kernel), List.mem_of_getElem? (i := 945) (by decide +kernel), List.mem_of_getElem? (i := 946) (by decide +kernel)⟩
def lw_privs_3 : List (MethodName × Nat) := [(⟨"CharOutlinesModel", "curve", "(IIIIII)V"⟩, 29), (⟨"CharOutlinesModel", "add", "(IIIII)V"⟩, 29), (⟨"CharOutlinesModel", "two", "(IIIIII)V"⟩, 29), (⟨"CharOutlinesModel", "take", "()V"⟩, 29), (⟨"CharOutlinesModel", "one", "(I)V"⟩, 29), (⟨"CharOutlinesModel", "has", "(I)Z"⟩, 29), (⟨"CharOutlinesModel", "pair", "(I)V"⟩, 29), (⟨"CharOutlinesModel", "choose", "()V"⟩, 29), (⟨"CharOutlinesModel", "index", "()V"⟩, 29), (⟨"CharOutlinesModel", "roll", "()V"⟩, 29), (⟨"CharOutlinesModel", "store", "()V"⟩, 29), (⟨"CharOutlinesModel", "load", "()V"⟩, 29), (⟨"CharOutlinesModel", "operator", "(I)V"⟩, 29), (⟨"CharOutlinesModel", "stems", "(Z)V"⟩, 29), (⟨"CharOutlinesModel", "begins", "(Z)I"⟩, 29), (⟨"CharOutlinesModel", "move", "(I)V"⟩, 29)]
theorem lw_r3 : ∀ q ∈ lw_privs_3, lw_okq q := List.forall_mem_cons.mpr ⟨lw_p32, List.forall_mem_cons.mpr ⟨lw_p33, List.forall_mem_cons.mpr ⟨lw_p34, List.forall_mem_cons.mpr ⟨lw_p35, List.forall_mem_cons.mpr ⟨lw_p36, List.forall_mem_cons.mpr ⟨lw_p37, List.forall_mem_cons.mpr ⟨lw_p38, List.forall_mem_cons.mpr ⟨lw_p39, List.forall_mem_cons.mpr ⟨lw_p40, List.forall_mem_cons.mpr ⟨lw_p41, List.forall_mem_cons.mpr ⟨lw_p42, List.forall_mem_cons.mpr ⟨lw_p43, List.forall_mem_cons.mpr ⟨lw_p44, List.forall_mem_cons.mpr ⟨lw_p45, List.forall_mem_cons.mpr ⟨lw_p46, List.forall_mem_cons.mpr ⟨lw_p47, fun _ h => absurd h List.not_mem_nil⟩⟩⟩⟩⟩⟩⟩⟩⟩⟩⟩⟩⟩⟩⟩⟩
theorem lw_p48 : lw_okq (⟨"CharOutlinesModel", "end", "()V"⟩, 29) := ⟨⟨by decide +kernel, by decide +kernel⟩, List.mem_of_getElem? (i := 686) (by decide +kernel), List.mem_of_getElem? (i := 949) (by decide +kernel), List.mem_of_getElem? (i := 950) (by decide +kernel)⟩
theorem lw_p49 : lw_okq (⟨"CharOutlinesModel", "lines", "()V"⟩, 29) := ⟨⟨by decide +kernel, by decide +kernel⟩, List.mem_of_getElem? (i := 686) (by decide +kernel), List.mem_of_getElem? (i := 953) (by decide +kernel), List.mem_of_getElem? (i := 954) (by decide +kernel)⟩
theorem lw_p50 : lw_okq (⟨"CharOutlinesModel", "line", "(II)V"⟩, 29) := ⟨⟨by decide +kernel, by decide +kernel⟩, List.mem_of_getElem? (i := 686) (by decide +kernel), List.mem_of_getElem? (i := 957) (by decide +kernel), List.mem_of_getElem? (i := 958) (by decide +kernel)⟩
theorem lw_p51 : lw_okq (⟨"CharOutlinesModel", "turns", "(Z)V"⟩, 29) := ⟨⟨by decide +kernel, by decide +kernel⟩, List.mem_of_getElem? (i := 686) (by decide +kernel), List.mem_of_getElem? (i := 961) (by decide +kernel), List.mem_of_getElem? (i := 962) (by decide +kernel)⟩
theorem lw_p52 : lw_okq (⟨"CharOutlinesModel", "curves", "()V"⟩, 29) := ⟨⟨by decide +kernel, by decide +kernel⟩, List.mem_of_getElem? (i := 686) (by decide +kernel), List.mem_of_getElem? (i := 965) (by decide +kernel), List.mem_of_getElem? (i := 966) (by decide +kernel)⟩
theorem lw_p53 : lw_okq (⟨"CharOutlinesModel", "flats", "(Z)V"⟩, 29) := ⟨⟨by decide +kernel, by decide +kernel⟩, List.mem_of_getElem? (i := 686) (by decide +kernel), List.mem_of_getElem? (i := 969) (by decide +kernel), List.mem_of_getElem? (i := 970) (by decide +kernel)⟩
theorem lw_p54 : lw_okq (⟨"CharOutlinesModel", "waves", "(Z)V"⟩, 29) := ⟨⟨by decide +kernel, by decide +kernel⟩, List.mem_of_getElem? (i := 686) (by decide +kernel), List.mem_of_getElem? (i := 973) (by decide +kernel), List.mem_of_getElem? (i := 974) (by decide +kernel)⟩
theorem lw_p55 : lw_okq (⟨"CharOutlinesModel", "curvesLine", "()V"⟩, 29) := ⟨⟨by decide +kernel, by decide +kernel⟩, List.mem_of_getElem? (i := 686) (by decide +kernel), List.mem_of_getElem? (i := 977) (by decide +kernel), List.mem_of_getElem? (i := 978) (by decide +kernel)⟩
theorem lw_p56 : lw_okq (⟨"CharOutlinesModel", "linesCurve", "()V"⟩, 29) := ⟨⟨by decide +kernel, by decide +kernel⟩, List.mem_of_getElem? (i := 686) (by decide +kernel), List.mem_of_getElem? (i := 981) (by decide +kernel), List.mem_of_getElem? (i := 982) (by decide +kernel)⟩
theorem lw_p57 : lw_okq (⟨"CharOutlinesModel", "call", "(I)V"⟩, 29) := ⟨⟨by decide +kernel, by decide +kernel⟩, List.mem_of_getElem? (i := 686) (by decide +kernel), List.mem_of_getElem? (i := 985) (by decide +kernel), List.mem_of_getElem? (i := 986) (by decide +kernel)⟩
theorem lw_p58 : lw_okq (⟨"CharOutlinesModel", "back", "()V"⟩, 29) := ⟨⟨by decide +kernel, by decide +kernel⟩, List.mem_of_getElem? (i := 686) (by decide +kernel), List.mem_of_getElem? (i := 989) (by decide +kernel), List.mem_of_getElem? (i := 990) (by decide +kernel)⟩
def lw_privs_4 : List (MethodName × Nat) := [(⟨"CharOutlinesModel", "end", "()V"⟩, 29), (⟨"CharOutlinesModel", "lines", "()V"⟩, 29), (⟨"CharOutlinesModel", "line", "(II)V"⟩, 29), (⟨"CharOutlinesModel", "turns", "(Z)V"⟩, 29), (⟨"CharOutlinesModel", "curves", "()V"⟩, 29), (⟨"CharOutlinesModel", "flats", "(Z)V"⟩, 29), (⟨"CharOutlinesModel", "waves", "(Z)V"⟩, 29), (⟨"CharOutlinesModel", "curvesLine", "()V"⟩, 29), (⟨"CharOutlinesModel", "linesCurve", "()V"⟩, 29), (⟨"CharOutlinesModel", "call", "(I)V"⟩, 29), (⟨"CharOutlinesModel", "back", "()V"⟩, 29)]
theorem lw_r4 : ∀ q ∈ lw_privs_4, lw_okq q := List.forall_mem_cons.mpr ⟨lw_p48, List.forall_mem_cons.mpr ⟨lw_p49, List.forall_mem_cons.mpr ⟨lw_p50, List.forall_mem_cons.mpr ⟨lw_p51, List.forall_mem_cons.mpr ⟨lw_p52, List.forall_mem_cons.mpr ⟨lw_p53, List.forall_mem_cons.mpr ⟨lw_p54, List.forall_mem_cons.mpr ⟨lw_p55, List.forall_mem_cons.mpr ⟨lw_p56, List.forall_mem_cons.mpr ⟨lw_p57, List.forall_mem_cons.mpr ⟨lw_p58, fun _ h => absurd h List.not_mem_nil⟩⟩⟩⟩⟩⟩⟩⟩⟩⟩⟩
def lw_privs : List (MethodName × Nat) := lw_privs_1 ++ (lw_privs_2 ++ (lw_privs_3 ++ (lw_privs_4)))
def lw_tbl : List Cond := k2_sels lw_privs ++ tables_1
theorem lw_privs_ok : ∀ q ∈ lw_privs, lw_okq q := by
  show ∀ q ∈ lw_privs_1 ++ (lw_privs_2 ++ (lw_privs_3 ++ (lw_privs_4))), lw_okq q
  exact List.forall_mem_append.mpr ⟨lw_r1, List.forall_mem_append.mpr ⟨lw_r2, List.forall_mem_append.mpr ⟨lw_r3, lw_r4⟩⟩⟩
end
section
/-! THE BASE: contracts as triples over worlds (small footprints, a frame rule), that tell how many cells and slots came. -/
def MetK (l : Launch) (y : MethodName) (ws : List Cond) (rm : Room) (Pc : Array Value → State → Prop) (Qc : Array Value → State → Outcome → State → List Loc → Nat → Nat → Prop) : Prop :=
  MetFree l y (headSpec ws rm) Pc (fun _ _ _ _ _ => True) (fun a st o t => ∃ L k n, FrameEnd st o t L k n ∧ Qc a st o t L k n)
def PreK (R rm : Room) (Pc : Array Value → State → Prop) : Pt → Array Value → Prop := fun A a => A.cells + rm.cells ≤ R.cells ∧ A.slots + rm.slots ≤ R.slots ∧ Pc a A.U
def PostK (Qc : Array Value → State → Outcome → State → List Loc → Nat → Nat → Prop) : Pt → Array Value → Option Value → Pt → Prop := fun A a v B =>
  ∃ (g : JFrame) (mk : MethodId) (t : State) (L : List Loc) (k n : Nat), B.U.heap = t.heap ∧ B.U.vm = t.vm ∧ Qc a (A.U.calling g mk a) (.returned v) t L k n ∧ B.locs = A.locs ++ L ∧ B.cells = A.cells + k ∧ B.slots = A.slots + n
section BK
variable {l : Launch} {R : Room} {p : Program} {e : Env} {below : List Frame} {s : State} {sargs : Array Value} {y : MethodName} {len W : Nat}
theorem back_ofK {ws : List Cond} {rm : Room} {Pc : Array Value → State → Prop} {Qc : Array Value → State → Outcome → State → List Loc → Nat → Nat → Prop} {bytes : ByteArray} {maxL : Nat} {ret : Option FieldType}
    (hM : MetK l y ws rm Pc Qc) (hblind : FrameBlind Pc) (hframes : rm.frames + 1 ≤ R.frames) (hlocals : W + (maxL + 11) + rm.locals ≤ R.locals)
    (hws : ∀ w ∈ ws, ∀ a' U, s.WarmedH U.vm → w.before a' U = true) (hcode : Cond.code y bytes maxL ret ∈ ws) (hinit : ∀ a' U, s.WarmedH U.vm → (Cond.initialized y.cls).before a' U = true) :
    Back l R p e below s sargs y len W (PreK R rm Pc) (PostK Qc) := by
  refine Back.of_free (S := headSpec ws rm) (P := Pc) (K := fun _ _ _ _ _ => True) (Q := fun a st o t => ∃ L k n, FrameEnd st o t L k n ∧ Qc a st o t L k n) (bytes := bytes) (maxL := maxL) (ret := ret)
    (E := fun a st o t L k n => Qc a st o t L k n) hM hframes hlocals ?_ ?_ (fun _ _ _ _ _ _ _ _ _ => trivial) ?_ ?_
  · intro m meth c A a X hp
    exact ⟨atoms_intro fun w hw => hws w hw _ _ X.warmed, hws _ hcode _ _ X.warmed, hinit _ _ X.warmed, hp.1, hp.2.1⟩
  · intro m meth c A a g mk X hp
    exact hblind _ _ _ _ hp.2.2
  · intro a st o t ⟨L, k, n, hF, hq⟩
    exact ⟨L, k, n, hF, hq⟩
  · intro m meth c A a g mk v t L k n X hp hq hF hE
    exact ⟨g, mk, t, L, k, n, rfl, rfl, hE, rfl, rfl, rfl⟩
end BK
/-- what a call asks of its callee's words -/
def Cal (Ts : List Cond) (y : MethodName) (bytes : ByteArray) (maxL : Nat) (ret : Option FieldType) (n : Nat) : Prop :=
  Cond.code y bytes maxL ret ∈ Ts ∧ Cond.initialized y.cls ∈ Ts ∧ (y.cls ≠ "java/lang/invoke/MethodHandle" ∧ y.cls ≠ "java/lang/invoke/VarHandle") ∧ (parseMethodDescriptor y.desc).map (fun d => d.parameters.length) = some n
def CalV (Ts : List Cond) (C : String) (y : MethodName) (bytes : ByteArray) (maxL : Nat) (ret : Option FieldType) (n : Nat) : Prop :=
  Cal Ts y bytes maxL ret n ∧ Cond.instanceMethod y ∈ Ts ∧ Cond.selects C y y ∈ Ts
def CalS (Ts : List Cond) (y : MethodName) (bytes : ByteArray) (maxL : Nat) (ret : Option FieldType) (n : Nat) : Prop :=
  Cal Ts y bytes maxL ret n ∧ Cond.static y ∈ Ts
def CalI (Ts : List Cond) (y : MethodName) (bytes : ByteArray) (maxL : Nat) (n : Nat) : Prop :=
  Cal Ts y bytes maxL none n ∧ y.name = "<init>" ∧ Cond.instanceMethod y ∈ Ts
/-- words of nest mates: they hold, whatever was linked since -/
def NW (NX : List Cond) (U : State) : Prop := ∀ w ∈ NX, va_Nw w U
def NXok (NX : List Cond) : Prop := ∀ w ∈ NX, (∃ a i x h, w = Cond.methodLinkNest a i x h) ∨ (∃ a i b n d h, w = Cond.fieldLinkNest a i b n d h) ∨ (∃ x, w = Cond.declares x) ∨ ∃ x y, w = Cond.castable x y
theorem va_Nw.warmC2 {x y : String} {s U : State} (hW : s.WarmedH U.vm) (hZ : va_Nw (.castable x y) s) : va_Nw (.castable x y) U := va_tabs rfl (rfl : (s.setVm U.vm).vm = U.vm) (by rw [Cond.castable_setVm hW.alike]; exact hZ)
theorem NW.warm {NX : List Cond} {s U : State} (hN : NXok NX) (hW : s.WarmedH U.vm) (h : NW NX s) : NW NX U := by
  intro w hw
  rcases hN w hw with ⟨a, i, x, k, rfl⟩ | ⟨a, i, b, n, d, k, rfl⟩ | ⟨x, rfl⟩ | ⟨x, y, rfl⟩
  · exact va_Nw.warmM hW (h _ hw)
  · exact va_Nw.warmF hW (h _ hw)
  · exact va_Nw.warmD hW (h _ hw)
  · exact va_Nw.warmC2 hW (h _ hw)
theorem NW.same {NX : List Cond} {s U : State} (hN : NXok NX) (hW : s.vm = U.vm) (h : NW NX s) : NW NX U := by
  intro w hw
  rcases hN w hw with ⟨a, i, x, k, rfl⟩ | ⟨a, i, b, n, d, k, rfl⟩ | ⟨x, rfl⟩ | ⟨x, y, rfl⟩ <;> exact va_Nw.same rfl hW (h _ hw)
def RunK (p : Program) (l : Launch) (e : Env) (R : Room) (s : State) (m : MethodId) (args : Array Value) (below : List Frame) (meth : Method) (c : Code) (H : Heap) (locs : List Loc) (cells slots : Nat) (g : JFrame) (rest : List Value) (Qa : State → Option Value → State → List Loc → Nat → Nat → Prop) : Prop :=
  ∀ T : State, T.heap = H → Stand p l e R s m args below meth c T locs cells slots → ∃ (v : Option Value) (st₀ t T' : State) (L : List Loc) (k n : Nat), st₀.heap = H ∧ Stand p l e R s m args below meth c T' (locs ++ L) (cells + k) (slots + n) ∧ T'.heap = t.heap ∧ T'.vm = t.vm ∧ Qa st₀ v t L k n ∧
    Goes p e below T g T' { g with pc := g.pc + 3, stack := v.toList ++ rest }
section RK
variable {p : Program} {l : Launch} {e : Env} {R : Room} {s : State} {m : MethodId} {args : Array Value} {below : List Frame} {meth : Method} {c : Code} {H : Heap} {locs : List Loc} {cells slots : Nat}
variable {y : MethodName} {bytes cc : ByteArray} {maxL nL n index : Nat} {ret : Option FieldType} {rm : Room} {Pc : Array Value → State → Prop} {Qc : Array Value → State → Outcome → State → List Loc → Nat → Nat → Prop} {Ts : List Cond} {own C host : String} {b : Addr} {As rest : List Value} {g : JFrame}
theorem Cal.len {Ts : List Cond} (h : Cal Ts y bytes maxL ret n) : ∀ sig, parseMethodDescriptor y.desc = some sig → n = sig.parameters.length := fun sig hs => by
  have h2 := h.2.2.2
  rw [hs] at h2
  exact (Option.some.inj h2).symm
theorem Cal.back (ht : ∀ w ∈ Ts, w.before args s = true) (hG : GoodIn Ts Ts) (hM : MetK l y (Cond.code y bytes maxL ret :: Ts) rm Pc Qc) (hc : Cal Ts y bytes maxL ret n) (hbl : FrameBlind Pc) (hR : rm.frames + 1 ≤ R.frames ∧ 8 + (maxL + 11) + rm.locals ≤ R.locals) :
    Back l R p e below s args y 3 8 (PreK R rm Pc) (PostK Qc) := by
  refine back_ofK (bytes := bytes) (maxL := maxL) (ret := ret) hM hbl hR.1 hR.2 ?_ List.mem_cons_self (fun a' U hW => word_at hW (hG _ hc.2.1).2 (ht _ hc.2.1))
  intro w hw
  rcases List.mem_cons.mp hw with rfl | hw
  · exact pay_in ht hG _ hc.1
  · exact pay_in ht hG _ hw
theorem runKV (S : CallFix p m c cc nL s args Ts own) (hG : GoodIn Ts Ts) (hM : MetK l y (Cond.code y bytes maxL ret :: Ts) rm Pc Qc) (hc : CalV Ts C y bytes maxL ret n) (hl : Cond.methodLink own index y ∈ Ts) (hR : rm.frames + 1 ≤ R.frames ∧ 8 + (maxL + 11) + rm.locals ≤ R.locals) (hp : PreV s H C b Pc As)
    (hg : g.method = m) (hn : As.length = n) (hsize : g.locals.size = nL) (hstack : g.stack = As.reverse ++ .ref b :: rest) (hW : 2 * g.monitorRoom + (rest.map fun v => v.category).sum ≤ 8) (hdg : decode cc g.pc = .ok (.invokevirtual index, 3)) (hf : cells + rm.cells ≤ R.cells ∧ slots + rm.slots ≤ R.slots) :
    RunK p l e R s m args below meth c H locs cells slots g rest (fun st v t L k n => Qc (Value.ref b :: As).toArray st (.returned v) t L k n) := by
  obtain ⟨hx, hb, hml, ho, ht⟩ := S
  have hK : Back l R p e below s args y 3 8 (PreK R rm Pc) (PostK Qc) := hc.1.back ht hG hM hp.1 hR
  obtain ⟨-, ⟨cellB, hcB, hoB, hclB⟩, hPc⟩ := hp
  intro T hT X
  obtain ⟨v, vm₁, ⟨U', l2, c2, s2⟩, hW₁, X', ⟨g', mk, t, L, k, n', e1, e2, hq, h1, h2, h3⟩, st⟩ := callV X hx (C := C) (bytes := bytes) (maxL := maxL) (ret := ret) ho (ht _ hl) (ht _ hc.2.1) (ht _ hc.2.2) (ht _ hc.1.1) hc.1.2.2.1 hK (by rw [hT]; exact hcB) hoB hclB hg (hsize.trans hml.symm) (argsL := As) (rest := rest) (fun sig h => hn.trans (hc.1.len sig h)) hstack hW (by rw [hb]; exact hdg)
    (fun vm₁ hW₁ => ⟨hf.1, hf.2, hPc (T.setVm vm₁) hT hW₁⟩)
  dsimp only [Pt.U, Pt.locs, Pt.cells, Pt.slots] at X' e1 e2 h1 h2 h3 st
  subst h1; subst h2; subst h3
  exact ⟨v, (T.setVm vm₁).calling g' mk (Value.ref b :: As).toArray, t, U', L, k, n', hT, X', e1, e2, hq, st⟩
theorem runKS (S : CallFix p m c cc nL s args Ts own) (hG : GoodIn Ts Ts) (hM : MetK l y (Cond.code y bytes maxL ret :: Ts) rm Pc Qc) (hc : CalS Ts y bytes maxL ret n) (hl : Cond.methodLink own index y ∈ Ts) (hR : rm.frames + 1 ≤ R.frames ∧ 8 + (maxL + 11) + rm.locals ≤ R.locals) (hp : PreS s H Pc As)
    (hg : g.method = m) (hn : As.length = n) (hsize : g.locals.size = nL) (hstack : g.stack = As.reverse ++ rest) (hW : 2 * g.monitorRoom + (rest.map fun v => v.category).sum ≤ 8) (hdg : decode cc g.pc = .ok (.invokestatic index, 3)) (hf : cells + rm.cells ≤ R.cells ∧ slots + rm.slots ≤ R.slots) :
    RunK p l e R s m args below meth c H locs cells slots g rest (fun st v t L k n => Qc As.toArray st (.returned v) t L k n) := by
  obtain ⟨hx, hb, hml, ho, ht⟩ := S
  have hK : Back l R p e below s args y 3 8 (PreK R rm Pc) (PostK Qc) := hc.1.back ht hG hM hp.1 hR
  intro T hT X
  obtain ⟨v, vm₁, ⟨U', l2, c2, s2⟩, hW₁, X', ⟨g', mk, t, L, k, n', e1, e2, hq, h1, h2, h3⟩, st⟩ := callS X hx (bytes := bytes) (maxL := maxL) (ret := ret) ho (ht _ hl) (ht _ hc.2) (ht _ hc.1.2.1) (ht _ hc.1.1) hc.1.2.2.1 hK hg (hsize.trans hml.symm) (argsL := As) (rest := rest) (fun sig h => hn.trans (hc.1.len sig h)) hstack hW (by rw [hb]; exact hdg)
    (fun vm₁ hW₁ => ⟨hf.1, hf.2, hp.2 (T.setVm vm₁) hT hW₁⟩)
  dsimp only [Pt.U, Pt.locs, Pt.cells, Pt.slots] at X' e1 e2 h1 h2 h3 st
  subst h1; subst h2; subst h3
  exact ⟨v, (T.setVm vm₁).calling g' mk As.toArray, t, U', L, k, n', hT, X', e1, e2, hq, st⟩
theorem runKI (S : CallFix p m c cc nL s args Ts own) (hG : GoodIn Ts Ts) (hM : MetK l y (Cond.code y bytes maxL none :: Ts) rm Pc Qc) (hc : CalI Ts y bytes maxL n) (hl : Cond.methodLink own index y ∈ Ts) (hR : rm.frames + 1 ≤ R.frames ∧ 8 + (maxL + 11) + rm.locals ≤ R.locals) (hp : PreS s H Pc (.ref b :: As))
    (hg : g.method = m) (hn : As.length = n) (hsize : g.locals.size = nL) (hstack : g.stack = As.reverse ++ .ref b :: rest) (hW : 2 * g.monitorRoom + (rest.map fun v => v.category).sum ≤ 8) (hdg : decode cc g.pc = .ok (.invokespecial index, 3)) (hf : cells + rm.cells ≤ R.cells ∧ slots + rm.slots ≤ R.slots) :
    RunK p l e R s m args below meth c H locs cells slots g rest (fun st v t L k n => Qc (Value.ref b :: As).toArray st (.returned v) t L k n) := by
  obtain ⟨hx, hb, hml, ho, ht⟩ := S
  have hK : Back l R p e below s args y 3 8 (PreK R rm Pc) (PostK Qc) := hc.1.back ht hG hM hp.1 hR
  intro T hT X
  obtain ⟨v, vm₁, ⟨U', l2, c2, s2⟩, hW₁, X', ⟨g', mk, t, L, k, n', e1, e2, hq, h1, h2, h3⟩, st⟩ := callI X hx (bytes := bytes) (maxL := maxL) ho hc.2.1 (ht _ hl) (ht _ hc.2.2) (ht _ hc.1.1) hc.1.2.2.1 hK hg (hsize.trans hml.symm) (a := b) (argsL := As) (rest := rest) (fun sig h => hn.trans (hc.1.len sig h)) hstack hW (by rw [hb]; exact hdg)
    (fun vm₁ hW₁ => ⟨hf.1, hf.2, hp.2 (T.setVm vm₁) hT hW₁⟩)
  dsimp only [Pt.U, Pt.locs, Pt.cells, Pt.slots] at X' e1 e2 h1 h2 h3 st
  subst h1; subst h2; subst h3
  exact ⟨v, (T.setVm vm₁).calling g' mk (Value.ref b :: As).toArray, t, U', L, k, n', hT, X', e1, e2, hq, st⟩
theorem runKIN (S : CallFix p m c cc nL s args Ts own) (hG : GoodIn Ts Ts) (hM : MetK l y (Cond.code y bytes maxL none :: Ts) rm Pc Qc) (hc : CalI Ts y bytes maxL n) (hl : va_Nw (.methodLinkNest own index y host) s) (hR : rm.frames + 1 ≤ R.frames ∧ 8 + (maxL + 11) + rm.locals ≤ R.locals) (hp : PreS s H Pc (.ref b :: As))
    (hg : g.method = m) (hn : As.length = n) (hsize : g.locals.size = nL) (hstack : g.stack = As.reverse ++ .ref b :: rest) (hW : 2 * g.monitorRoom + (rest.map fun v => v.category).sum ≤ 8) (hdg : decode cc g.pc = .ok (.invokespecial index, 3)) (hf : cells + rm.cells ≤ R.cells ∧ slots + rm.slots ≤ R.slots) :
    RunK p l e R s m args below meth c H locs cells slots g rest (fun st v t L k n => Qc (Value.ref b :: As).toArray st (.returned v) t L k n) := by
  obtain ⟨hx, hb, hml, ho, ht⟩ := S
  have hK : Back l R p e below s args y 3 8 (PreK R rm Pc) (PostK Qc) := hc.1.back ht hG hM hp.1 hR
  intro T hT X
  obtain ⟨v, vm₁, ⟨U', l2, c2, s2⟩, hW₁, X', ⟨g', mk, t, L, k, n', e1, e2, hq, h1, h2, h3⟩, st⟩ := va_callIN X hx (bytes := bytes) (maxL := maxL) ho hc.2.1 (va_Nw.use rfl hl) (ht _ hc.2.2) (ht _ hc.1.1) hc.1.2.2.1 hK hg (hsize.trans hml.symm) (a := b) (argsL := As) (rest := rest) (fun sig h => hn.trans (hc.1.len sig h)) hstack hW (by rw [hb]; exact hdg)
    (fun vm₁ hW₁ => ⟨hf.1, hf.2, hp.2 (T.setVm vm₁) hT hW₁⟩)
  dsimp only [Pt.U, Pt.locs, Pt.cells, Pt.slots] at X' e1 e2 h1 h2 h3 st
  subst h1; subst h2; subst h3
  exact ⟨v, (T.setVm vm₁).calling g' mk (Value.ref b :: As).toArray, t, U', L, k, n', hT, X', e1, e2, hq, st⟩
end RK
/-! triples -/
def TrP (D : va_G) (cl : List vw_C) (tys : List (ClassId × FieldType)) (NX : List Cond) (av : List Value) (wc : va_W) : Array Value → State → Prop :=
  va_Pc av (fun U => va_P D cl wc U.heap ∧ va_K D cl tys U ∧ va_D (fun _ => True) wc ∧ NW NX U)
def TrQ (D : va_G) (cl : List vw_C) (wc : va_W) (post : Option Value → va_W → Nat → Nat → Prop) : Array Value → State → Outcome → State → List Loc → Nat → Nat → Prop := fun _ st o t L k n =>
  ∃ (v : Option Value) (w1 : va_W), o = .returned v ∧ post v w1 k n ∧ va_P D cl w1 t.heap ∧ va_D (va_A wc st.heap.size) w1 ∧ va_F (va_A wc st.heap.size) st t ∧ ∀ q ∈ L, va_A wc st.heap.size q.base
def Tr (l : Launch) (D : va_G) (cl : List vw_C) (tys : List (ClassId × FieldType)) (Ts NX : List Cond) (y : MethodName) (bytes : ByteArray) (maxL : Nat) (ret : Option FieldType) (rm : Room) (av : List Value) (wc : va_W) (post : Option Value → va_W → Nat → Nat → Prop) : Prop :=
  MetK l y (Cond.code y bytes maxL ret :: Ts) rm (TrP D cl tys NX av wc) (TrQ D cl wc post)
def pI0 (post : Int32 → va_W → Prop) : Option Value → va_W → Nat → Nat → Prop := fun v w k n => ∃ r, v = some (.int r) ∧ k = 0 ∧ n = 0 ∧ post r w
def pL0 (post : Int64 → va_W → Prop) : Option Value → va_W → Nat → Nat → Prop := fun v w k n => ∃ r, v = some (.long r) ∧ k = 0 ∧ n = 0 ∧ post r w
def pR0 (post : Nat → va_W → Prop) : Option Value → va_W → Nat → Nat → Prop := fun v w k n => ∃ r, v = some (.ref r) ∧ k = 0 ∧ n = 0 ∧ post r w
def pV0 (post : va_W → Prop) : Option Value → va_W → Nat → Nat → Prop := fun v w k n => v = none ∧ k = 0 ∧ n = 0 ∧ post w
def pI (post : Int32 → va_W → Nat → Nat → Prop) : Option Value → va_W → Nat → Nat → Prop := fun v w k n => ∃ r, v = some (.int r) ∧ post r w k n
def pR (post : Nat → va_W → Nat → Nat → Prop) : Option Value → va_W → Nat → Nat → Prop := fun v w k n => ∃ r, v = some (.ref r) ∧ post r w k n
def pV (post : va_W → Nat → Nat → Prop) : Option Value → va_W → Nat → Nat → Prop := fun v w k n => v = none ∧ post w k n
theorem TrP.blind {D : va_G} {cl : List vw_C} {tys : List (ClassId × FieldType)} {NX : List Cond} {av : List Value} {wc : va_W} (hN : NXok NX) : FrameBlind (TrP D cl tys NX av wc) := fun a U g mk q => by
  obtain ⟨q0, qP, qK, qD, qN⟩ := q
  exact ⟨q0, qP, va_K.moved (u := U) (U := U.calling g mk a) (Vm.Alike.refl U.vm) qK, qD, NW.same (s := U) (U := U.calling g mk a) hN rfl qN⟩
theorem va_P.subm {D : va_G} {cl : List vw_C} {ws ws' : va_W} {H : Heap} (h : va_P D cl ws H) (is : List Nat) (hs : is.map (fun i => ws[i]?) = ws'.map some) : va_P D cl ws' H := fun k q hk => by
  have h1 : (is.map (fun i => ws[i]?))[k]? = some (some q) := by rw [hs, List.getElem?_map, hk]; rfl
  rw [List.getElem?_map] at h1
  cases hi : is[k]? with
  | none => rw [hi] at h1; cases h1
  | some i => rw [hi] at h1; exact h i q (Option.some.inj h1)
section TG
variable {p : Program} {l : Launch} {e : Env} {R : Room} {s : State} {m : MethodId} {args : Array Value} {below : List Frame} {meth : Method} {c : Code} {H : Heap} {locs : List Loc} {cells slots : Nat} {Q : State → Prop}
variable {y : MethodName} {bytes cc : ByteArray} {maxL nL n index : Nat} {ret : Option FieldType} {rm : Room} {Ts NX : List Cond} {own C host : String} {b : Addr} {As rest st0 : List Value} {pc : Nat} {ls : Array Slot}
variable {D : va_G} {cl : List vw_C} {tys : List (ClassId × FieldType)} {ws wc wr : va_W} {A0 : Nat → Prop} {a : Array Value} {post : Option Value → va_W → Nat → Nat → Prop}
/-- the caller's world, cut: the callee's part at isC, the rest at isR -/
def Cut (ws wc wr : va_W) (isC isR : List Nat) : Prop := isC.map (fun i => ws[i]?) = wc.map some ∧ isR.map (fun i => ws[i]?) = wr.map some ∧ va_nd isC = true ∧ va_nd isR = true ∧ ∀ i ∈ isR, i ∉ isC
/-- what stands around a walk: the tables, the world -/
def Sit (D : va_G) (cl : List vw_C) (tys : List (ClassId × FieldType)) (NX : List Cond) (s : State) (A0 : Nat → Prop) : Prop := va_K D cl tys s ∧ NW NX s ∧ NXok NX ∧ ∀ q, s.heap.size ≤ q → A0 q
theorem TrP.at {av : List Value} (hZ : Sit D cl tys NX s A0) (hP : va_P D cl ws H) (hD : va_D A0 ws) {isC isR : List Nat} (hC : Cut ws wc wr isC isR) :
    ∀ U : State, U.heap = H → s.WarmedH U.vm → TrP D cl tys NX av wc av.toArray U := by
  intro U hU hW
  exact ⟨rfl, by rw [hU]; exact hP.subm isC hC.1, va_K.moved hW.alike hZ.1, (hD.sub isC hC.2.2.1 hC.1).weaken (fun _ _ _ _ => trivial), hZ.2.1.warm hZ.2.2.1 hW⟩
theorem tr_go (hr : RunK p l e R s m args below meth c H locs cells slots (F0 m pc ls st0) rest (fun st v t L k n => TrQ D cl wc post a st (.returned v) t L k n))
    (hZ : Sit D cl tys NX s A0) (hP : va_P D cl ws H) (hD : va_D A0 ws) (hS : va_S A0 s.heap H locs) {isC isR : List Nat} (hC : Cut ws wc wr isC isR)
    (kk : ∀ (v : Option Value) (w1 : va_W) (k n : Nat) (H1 : Heap) (locs1 : List Loc), post v w1 k n → va_P D cl (wr ++ w1) H1 → va_D A0 (wr ++ w1) → va_S A0 s.heap H1 locs1 → W p l e R s m args below meth c H1 locs1 (cells + k) (slots + n) Q (F0 m (pc + 3) ls (v.toList ++ rest))) :
    W p l e R s m args below meth c H locs cells slots Q (F0 m pc ls st0) := by
  intro T hT X
  obtain ⟨v, st₀, t, T', L, k, n, h0, X', e1, e2, ⟨v', w1, hv, hq, hP1, hD1, hF1, hL⟩, st⟩ := hr T hT X
  cases hv
  rw [h0] at hD1 hL
  have hF : ∀ q, va_A wc H.size q → A0 q := va_free hD hS hZ.2.2.2 isC hC.1
  have hk : ∀ q : Nat, q < H.size → ¬ va_A wc H.size q → T'.heap[q]? = H[q]? := fun q h1 h2 => by
    rw [e1, ← h0]
    exact hF1.2 q (by rw [h0]; exact h1) (by rw [h0]; exact h2)
  have hz : H.size ≤ T'.heap.size := by rw [e1, ← h0]; exact hF1.1
  obtain ⟨hPj, hDj⟩ := va_join (wr := wr) (w1 := w1) hP hD isC isR hC.1 hC.2.1 hC.2.2.2.1 hC.2.2.2.2 hk hF (by rw [e1]; exact hP1) hD1
  obtain ⟨t2, a1, b1⟩ := kk v w1 k n T'.heap (locs ++ L) hq hPj hDj ⟨Nat.le_trans hS.1 hz, fun q h1 h2 => by
      rw [hk q (Nat.lt_of_lt_of_le h1 hS.1) (fun z => h2 (hF q z))]
      exact hS.2.1 q h1 h2, fun q hq => by
      rcases List.mem_append.mp hq with h | h
      · exact hS.2.2 q h
      · exact hF _ (hL q h)⟩ T' rfl X'
  exact ⟨t2, st t2 a1, b1⟩
theorem goI0 {po : Int32 → va_W → Prop} (hr : RunK p l e R s m args below meth c H locs cells slots (F0 m pc ls st0) rest (fun st v t L k n => TrQ D cl wc (pI0 po) a st (.returned v) t L k n))
    (hZ : Sit D cl tys NX s A0) (hP : va_P D cl ws H) (hD : va_D A0 ws) (hS : va_S A0 s.heap H locs) {isC isR : List Nat} (hC : Cut ws wc wr isC isR)
    (kk : ∀ (r : Int32) (w1 : va_W) (H1 : Heap) (locs1 : List Loc), po r w1 → va_P D cl (wr ++ w1) H1 → va_D A0 (wr ++ w1) → va_S A0 s.heap H1 locs1 → W p l e R s m args below meth c H1 locs1 cells slots Q (F0 m (pc + 3) ls (.int r :: rest))) :
    W p l e R s m args below meth c H locs cells slots Q (F0 m pc ls st0) :=
  tr_go hr hZ hP hD hS hC fun v w1 k n H1 locs1 hq hP hD hS => by
    obtain ⟨r, rfl, rfl, rfl, hq⟩ := hq
    exact kk r w1 H1 locs1 hq hP hD hS
theorem goL0 {po : Int64 → va_W → Prop} (hr : RunK p l e R s m args below meth c H locs cells slots (F0 m pc ls st0) rest (fun st v t L k n => TrQ D cl wc (pL0 po) a st (.returned v) t L k n))
    (hZ : Sit D cl tys NX s A0) (hP : va_P D cl ws H) (hD : va_D A0 ws) (hS : va_S A0 s.heap H locs) {isC isR : List Nat} (hC : Cut ws wc wr isC isR)
    (kk : ∀ (r : Int64) (w1 : va_W) (H1 : Heap) (locs1 : List Loc), po r w1 → va_P D cl (wr ++ w1) H1 → va_D A0 (wr ++ w1) → va_S A0 s.heap H1 locs1 → W p l e R s m args below meth c H1 locs1 cells slots Q (F0 m (pc + 3) ls (.long r :: rest))) :
    W p l e R s m args below meth c H locs cells slots Q (F0 m pc ls st0) :=
  tr_go hr hZ hP hD hS hC fun v w1 k n H1 locs1 hq hP hD hS => by
    obtain ⟨r, rfl, rfl, rfl, hq⟩ := hq
    exact kk r w1 H1 locs1 hq hP hD hS
theorem goR0 {po : Nat → va_W → Prop} (hr : RunK p l e R s m args below meth c H locs cells slots (F0 m pc ls st0) rest (fun st v t L k n => TrQ D cl wc (pR0 po) a st (.returned v) t L k n))
    (hZ : Sit D cl tys NX s A0) (hP : va_P D cl ws H) (hD : va_D A0 ws) (hS : va_S A0 s.heap H locs) {isC isR : List Nat} (hC : Cut ws wc wr isC isR)
    (kk : ∀ (r : Nat) (w1 : va_W) (H1 : Heap) (locs1 : List Loc), po r w1 → va_P D cl (wr ++ w1) H1 → va_D A0 (wr ++ w1) → va_S A0 s.heap H1 locs1 → W p l e R s m args below meth c H1 locs1 cells slots Q (F0 m (pc + 3) ls (.ref r :: rest))) :
    W p l e R s m args below meth c H locs cells slots Q (F0 m pc ls st0) :=
  tr_go hr hZ hP hD hS hC fun v w1 k n H1 locs1 hq hP hD hS => by
    obtain ⟨r, rfl, rfl, rfl, hq⟩ := hq
    exact kk r w1 H1 locs1 hq hP hD hS
theorem goV0 {po : va_W → Prop} (hr : RunK p l e R s m args below meth c H locs cells slots (F0 m pc ls st0) rest (fun st v t L k n => TrQ D cl wc (pV0 po) a st (.returned v) t L k n))
    (hZ : Sit D cl tys NX s A0) (hP : va_P D cl ws H) (hD : va_D A0 ws) (hS : va_S A0 s.heap H locs) {isC isR : List Nat} (hC : Cut ws wc wr isC isR)
    (kk : ∀ (w1 : va_W) (H1 : Heap) (locs1 : List Loc), po w1 → va_P D cl (wr ++ w1) H1 → va_D A0 (wr ++ w1) → va_S A0 s.heap H1 locs1 → W p l e R s m args below meth c H1 locs1 cells slots Q (F0 m (pc + 3) ls rest)) :
    W p l e R s m args below meth c H locs cells slots Q (F0 m pc ls st0) :=
  tr_go hr hZ hP hD hS hC fun v w1 k n H1 locs1 hq hP hD hS => by
    obtain ⟨rfl, rfl, rfl, hq⟩ := hq
    exact kk w1 H1 locs1 hq hP hD hS
theorem goI {po : Int32 → va_W → Nat → Nat → Prop} (hr : RunK p l e R s m args below meth c H locs cells slots (F0 m pc ls st0) rest (fun st v t L k n => TrQ D cl wc (pI po) a st (.returned v) t L k n))
    (hZ : Sit D cl tys NX s A0) (hP : va_P D cl ws H) (hD : va_D A0 ws) (hS : va_S A0 s.heap H locs) {isC isR : List Nat} (hC : Cut ws wc wr isC isR)
    (kk : ∀ (r : Int32) (w1 : va_W) (k n : Nat) (H1 : Heap) (locs1 : List Loc), po r w1 k n → va_P D cl (wr ++ w1) H1 → va_D A0 (wr ++ w1) → va_S A0 s.heap H1 locs1 → W p l e R s m args below meth c H1 locs1 (cells + k) (slots + n) Q (F0 m (pc + 3) ls (.int r :: rest))) :
    W p l e R s m args below meth c H locs cells slots Q (F0 m pc ls st0) :=
  tr_go hr hZ hP hD hS hC fun v w1 k n H1 locs1 hq hP hD hS => by
    obtain ⟨r, rfl, hq⟩ := hq
    exact kk r w1 k n H1 locs1 hq hP hD hS
theorem goR {po : Nat → va_W → Nat → Nat → Prop} (hr : RunK p l e R s m args below meth c H locs cells slots (F0 m pc ls st0) rest (fun st v t L k n => TrQ D cl wc (pR po) a st (.returned v) t L k n))
    (hZ : Sit D cl tys NX s A0) (hP : va_P D cl ws H) (hD : va_D A0 ws) (hS : va_S A0 s.heap H locs) {isC isR : List Nat} (hC : Cut ws wc wr isC isR)
    (kk : ∀ (r : Nat) (w1 : va_W) (k n : Nat) (H1 : Heap) (locs1 : List Loc), po r w1 k n → va_P D cl (wr ++ w1) H1 → va_D A0 (wr ++ w1) → va_S A0 s.heap H1 locs1 → W p l e R s m args below meth c H1 locs1 (cells + k) (slots + n) Q (F0 m (pc + 3) ls (.ref r :: rest))) :
    W p l e R s m args below meth c H locs cells slots Q (F0 m pc ls st0) :=
  tr_go hr hZ hP hD hS hC fun v w1 k n H1 locs1 hq hP hD hS => by
    obtain ⟨r, rfl, hq⟩ := hq
    exact kk r w1 k n H1 locs1 hq hP hD hS
theorem goV {po : va_W → Nat → Nat → Prop} (hr : RunK p l e R s m args below meth c H locs cells slots (F0 m pc ls st0) rest (fun st v t L k n => TrQ D cl wc (pV po) a st (.returned v) t L k n))
    (hZ : Sit D cl tys NX s A0) (hP : va_P D cl ws H) (hD : va_D A0 ws) (hS : va_S A0 s.heap H locs) {isC isR : List Nat} (hC : Cut ws wc wr isC isR)
    (kk : ∀ (w1 : va_W) (k n : Nat) (H1 : Heap) (locs1 : List Loc), po w1 k n → va_P D cl (wr ++ w1) H1 → va_D A0 (wr ++ w1) → va_S A0 s.heap H1 locs1 → W p l e R s m args below meth c H1 locs1 (cells + k) (slots + n) Q (F0 m (pc + 3) ls rest)) :
    W p l e R s m args below meth c H locs cells slots Q (F0 m pc ls st0) :=
  tr_go hr hZ hP hD hS hC fun v w1 k n H1 locs1 hq hP hD hS => by
    obtain ⟨rfl, hq⟩ := hq
    exact kk w1 k n H1 locs1 hq hP hD hS
/-- the four kinds of call, of a triple -/
theorem trV (S : CallFix p m c cc nL s args Ts own) (hG : GoodIn Ts Ts) (hM : Tr l D cl tys Ts NX y bytes maxL ret rm (.ref b :: As) wc post) (hc : CalV Ts C y bytes maxL ret n) (hl : Cond.methodLink own index y ∈ Ts) (hR : rm.frames + 1 ≤ R.frames ∧ 8 + (maxL + 11) + rm.locals ≤ R.locals) (hZ : Sit D cl tys NX s A0) (hP : va_P D cl ws H) (hD : va_D A0 ws)
    {isC isR : List Nat} (hC : Cut ws wc wr isC isR) (q0 : Nat) {ci : Nat} {fs : List Value} {qc : vw_C} (hci : cl[ci]? = some qc) (hcn : qc.1 = C) (hq0 : ws[q0]? = some (b, .inr (ci, fs)))
    (hn : As.length = n) (hsize : ls.size = nL) (hst : st0 = As.reverse ++ .ref b :: rest) (hW : (rest.map fun v => v.category).sum ≤ 8) (hdg : decode cc pc = .ok (.invokevirtual index, 3)) (hf : cells + rm.cells ≤ R.cells ∧ slots + rm.slots ≤ R.slots) :
    RunK p l e R s m args below meth c H locs cells slots (F0 m pc ls st0) rest (fun st v t L k n => TrQ D cl wc post (Value.ref b :: As).toArray st (.returned v) t L k n) := by
  subst hcn
  exact runKV S hG hM hc hl hR ⟨TrP.blind hZ.2.2.1, va_recv hZ.1 hP hci hq0, TrP.at (av := .ref b :: As) hZ hP hD hC⟩ rfl hn hsize hst (lv_room hW) hdg hf
theorem trS (S : CallFix p m c cc nL s args Ts own) (hG : GoodIn Ts Ts) (hM : Tr l D cl tys Ts NX y bytes maxL ret rm As wc post) (hc : CalS Ts y bytes maxL ret n) (hl : Cond.methodLink own index y ∈ Ts) (hR : rm.frames + 1 ≤ R.frames ∧ 8 + (maxL + 11) + rm.locals ≤ R.locals) (hZ : Sit D cl tys NX s A0) (hP : va_P D cl ws H) (hD : va_D A0 ws)
    {isC isR : List Nat} (hC : Cut ws wc wr isC isR)
    (hn : As.length = n) (hsize : ls.size = nL) (hst : st0 = As.reverse ++ rest) (hW : (rest.map fun v => v.category).sum ≤ 8) (hdg : decode cc pc = .ok (.invokestatic index, 3)) (hf : cells + rm.cells ≤ R.cells ∧ slots + rm.slots ≤ R.slots) :
    RunK p l e R s m args below meth c H locs cells slots (F0 m pc ls st0) rest (fun st v t L k n => TrQ D cl wc post As.toArray st (.returned v) t L k n) :=
  runKS S hG hM hc hl hR ⟨TrP.blind hZ.2.2.1, TrP.at (av := As) hZ hP hD hC⟩ rfl hn hsize hst (lv_room hW) hdg hf
theorem trI (S : CallFix p m c cc nL s args Ts own) (hG : GoodIn Ts Ts) (hM : Tr l D cl tys Ts NX y bytes maxL none rm (.ref b :: As) wc post) (hc : CalI Ts y bytes maxL n) (hl : Cond.methodLink own index y ∈ Ts) (hR : rm.frames + 1 ≤ R.frames ∧ 8 + (maxL + 11) + rm.locals ≤ R.locals) (hZ : Sit D cl tys NX s A0) (hP : va_P D cl ws H) (hD : va_D A0 ws)
    {isC isR : List Nat} (hC : Cut ws wc wr isC isR)
    (hn : As.length = n) (hsize : ls.size = nL) (hst : st0 = As.reverse ++ .ref b :: rest) (hW : (rest.map fun v => v.category).sum ≤ 8) (hdg : decode cc pc = .ok (.invokespecial index, 3)) (hf : cells + rm.cells ≤ R.cells ∧ slots + rm.slots ≤ R.slots) :
    RunK p l e R s m args below meth c H locs cells slots (F0 m pc ls st0) rest (fun st v t L k n => TrQ D cl wc post (Value.ref b :: As).toArray st (.returned v) t L k n) :=
  runKI S hG hM hc hl hR ⟨TrP.blind hZ.2.2.1, TrP.at (av := .ref b :: As) hZ hP hD hC⟩ rfl hn hsize hst (lv_room hW) hdg hf
theorem trIN (S : CallFix p m c cc nL s args Ts own) (hG : GoodIn Ts Ts) (hM : Tr l D cl tys Ts NX y bytes maxL none rm (.ref b :: As) wc post) (hc : CalI Ts y bytes maxL n) (hl : Cond.methodLinkNest own index y host ∈ NX) (hR : rm.frames + 1 ≤ R.frames ∧ 8 + (maxL + 11) + rm.locals ≤ R.locals) (hZ : Sit D cl tys NX s A0) (hP : va_P D cl ws H) (hD : va_D A0 ws)
    {isC isR : List Nat} (hC : Cut ws wc wr isC isR)
    (hn : As.length = n) (hsize : ls.size = nL) (hst : st0 = As.reverse ++ .ref b :: rest) (hW : (rest.map fun v => v.category).sum ≤ 8) (hdg : decode cc pc = .ok (.invokespecial index, 3)) (hf : cells + rm.cells ≤ R.cells ∧ slots + rm.slots ≤ R.slots) :
    RunK p l e R s m args below meth c H locs cells slots (F0 m pc ls st0) rest (fun st v t L k n => TrQ D cl wc post (Value.ref b :: As).toArray st (.returned v) t L k n) :=
  runKIN S hG hM hc (hZ.2.1 _ hl) hR ⟨TrP.blind hZ.2.2.1, TrP.at (av := .ref b :: As) hZ hP hD hC⟩ rfl hn hsize hst (lv_room hW) hdg hf
end TG
/-! contracts that only read: the heap stays as it is -/
def RoQ (post : Value → Prop) : Array Value → State → Outcome → State → List Loc → Nat → Nat → Prop := fun _ st o t L k n =>
  ∃ v : Value, o = .returned (some v) ∧ post v ∧ t.heap = st.heap ∧ L = [] ∧ k = 0 ∧ n = 0
def Ro (l : Launch) (D : va_G) (cl : List vw_C) (tys : List (ClassId × FieldType)) (Ts NX : List Cond) (y : MethodName) (bytes : ByteArray) (maxL : Nat) (ret : Option FieldType) (rm : Room) (av : List Value) (wc : va_W) (post : Value → Prop) : Prop :=
  MetK l y (Cond.code y bytes maxL ret :: Ts) rm (TrP D cl tys NX av wc) (RoQ post)
section RG
variable {p : Program} {l : Launch} {e : Env} {R : Room} {s : State} {m : MethodId} {args : Array Value} {below : List Frame} {meth : Method} {c : Code} {H : Heap} {locs : List Loc} {cells slots : Nat} {Q : State → Prop}
variable {y : MethodName} {bytes cc : ByteArray} {maxL nL n index : Nat} {ret : Option FieldType} {rm : Room} {Ts NX : List Cond} {own C host : String} {b : Addr} {As rest st0 : List Value} {pc : Nat} {ls : Array Slot}
variable {D : va_G} {cl : List vw_C} {tys : List (ClassId × FieldType)} {ws wc : va_W} {A0 : Nat → Prop} {a : Array Value} {post : Value → Prop}
theorem ro_go (hr : RunK p l e R s m args below meth c H locs cells slots (F0 m pc ls st0) rest (fun st v t L k n => RoQ post a st (.returned v) t L k n))
    (kk : ∀ v : Value, post v → W p l e R s m args below meth c H locs cells slots Q (F0 m (pc + 3) ls (v :: rest))) :
    W p l e R s m args below meth c H locs cells slots Q (F0 m pc ls st0) := by
  intro T hT X
  obtain ⟨v, st₀, t, T', L, k, n, h0, X', e1, e2, ⟨v', hv, hq, hh, rfl, rfl, rfl⟩, st⟩ := hr T hT X
  cases hv
  rw [List.append_nil] at X'
  obtain ⟨t2, a1, b1⟩ := kk v' hq T' (by rw [e1, hh, h0]) X'
  exact ⟨t2, st t2 a1, b1⟩
/-- the callee's part of the caller's world -/
def Part (ws wc : va_W) (isC : List Nat) : Prop := isC.map (fun i => ws[i]?) = wc.map some ∧ va_nd isC = true
theorem TrP.part {av : List Value} (hZ : Sit D cl tys NX s A0) (hP : va_P D cl ws H) (hD : va_D A0 ws) {isC : List Nat} (hC : Part ws wc isC) :
    ∀ U : State, U.heap = H → s.WarmedH U.vm → TrP D cl tys NX av wc av.toArray U := by
  intro U hU hW
  exact ⟨rfl, by rw [hU]; exact hP.subm isC hC.1, va_K.moved hW.alike hZ.1, (hD.sub isC hC.2 hC.1).weaken (fun _ _ _ _ => trivial), hZ.2.1.warm hZ.2.2.1 hW⟩
theorem roV (S : CallFix p m c cc nL s args Ts own) (hG : GoodIn Ts Ts) (hM : Ro l D cl tys Ts NX y bytes maxL ret rm (.ref b :: As) wc post) (hc : CalV Ts C y bytes maxL ret n) (hl : Cond.methodLink own index y ∈ Ts) (hR : rm.frames + 1 ≤ R.frames ∧ 8 + (maxL + 11) + rm.locals ≤ R.locals) (hZ : Sit D cl tys NX s A0) (hP : va_P D cl ws H) (hD : va_D A0 ws)
    {isC : List Nat} (hC : Part ws wc isC) (q0 : Nat) {ci : Nat} {fs : List Value} {qc : vw_C} (hci : cl[ci]? = some qc) (hcn : qc.1 = C) (hq0 : ws[q0]? = some (b, .inr (ci, fs)))
    (hn : As.length = n) (hsize : ls.size = nL) (hst : st0 = As.reverse ++ .ref b :: rest) (hW : (rest.map fun v => v.category).sum ≤ 8) (hdg : decode cc pc = .ok (.invokevirtual index, 3)) (hf : cells + rm.cells ≤ R.cells ∧ slots + rm.slots ≤ R.slots)
    (kk : ∀ v : Value, post v → W p l e R s m args below meth c H locs cells slots Q (F0 m (pc + 3) ls (v :: rest))) : W p l e R s m args below meth c H locs cells slots Q (F0 m pc ls st0) := by
  subst hcn
  exact ro_go (runKV S hG hM hc hl hR ⟨TrP.blind hZ.2.2.1, va_recv hZ.1 hP hci hq0, TrP.part (av := .ref b :: As) hZ hP hD hC⟩ rfl hn hsize hst (lv_room hW) hdg hf) kk
theorem roS (S : CallFix p m c cc nL s args Ts own) (hG : GoodIn Ts Ts) (hM : Ro l D cl tys Ts NX y bytes maxL ret rm As wc post) (hc : CalS Ts y bytes maxL ret n) (hl : Cond.methodLink own index y ∈ Ts) (hR : rm.frames + 1 ≤ R.frames ∧ 8 + (maxL + 11) + rm.locals ≤ R.locals) (hZ : Sit D cl tys NX s A0) (hP : va_P D cl ws H) (hD : va_D A0 ws)
    {isC : List Nat} (hC : Part ws wc isC)
    (hn : As.length = n) (hsize : ls.size = nL) (hst : st0 = As.reverse ++ rest) (hW : (rest.map fun v => v.category).sum ≤ 8) (hdg : decode cc pc = .ok (.invokestatic index, 3)) (hf : cells + rm.cells ≤ R.cells ∧ slots + rm.slots ≤ R.slots)
    (kk : ∀ v : Value, post v → W p l e R s m args below meth c H locs cells slots Q (F0 m (pc + 3) ls (v :: rest))) : W p l e R s m args below meth c H locs cells slots Q (F0 m pc ls st0) :=
  ro_go (runKS S hG hM hc hl hR ⟨TrP.blind hZ.2.2.1, TrP.part (av := As) hZ hP hD hC⟩ rfl hn hsize hst (lv_room hW) hdg hf) kk
end RG
/-! the end of a method -/
def MQT (below : List Frame) (D : va_G) (cl : List vw_C) (A : Nat → Prop) (post : Option Value → va_W → Nat → Nat → Prop) (s : State) : State → Prop := fun t =>
  ∃ (v : Option Value) (w1 : va_W) (L : List Loc) (k n : Nat), t.status = .running ∧ Ended t below (.returned v) ∧ FrameEnd s (.returned v) t L k n ∧ post v w1 k n ∧ va_P D cl w1 t.heap ∧ va_D A w1 ∧ va_F A s t ∧ ∀ q ∈ L, A q.base
section TE
variable {p : Program} {l : Launch} {e : Env} {R : Room} {s : State} {m : MethodId} {args : Array Value} {below : List Frame} {meth : Method} {c : Code} {H : Heap} {locs : List Loc} {cells slots : Nat}
variable {cc : ByteArray} {pc : Nat} {ls : Array Slot} {D : va_G} {cl : List vw_C} {w1 : va_W} {A : Nat → Prop} {post : Option Value → va_W → Nat → Nat → Prop}
theorem t_ret {v : Option Value} {g : JFrame} (h : W p l e R s m args below meth c H locs cells slots (MQ below (fun _ _ o t => o = .returned v ∧ t.heap = H) args s cells slots A) g)
    (hP : va_P D cl w1 H) (hD : va_D A w1) (hS : va_S A s.heap H locs) (hq : post v w1 cells slots) : W p l e R s m args below meth c H locs cells slots (MQT below D cl A post s) g := by
  intro T hT X
  obtain ⟨t, st, o, h1, h2, ⟨rfl, hh⟩, L, hF, hL⟩ := h T hT X
  exact ⟨t, st, v, w1, L, cells, slots, h1, h2, hF, hq, by rw [hh]; exact hP, hD, hS.F hh, hL⟩
theorem t_iret (hx : p.tables.exec = Jvm.exec) (hb : c.code = cc) (hr : meth.sig.returnType = some .int) (hlk : meth.locks = false) {v : Int32} (hdg : decode cc pc = .ok (.ireturn, 1))
    (hP : va_P D cl w1 H) (hD : va_D A w1) (hS : va_S A s.heap H locs) (hq : post (some (.int v)) w1 cells slots) : W p l e R s m args below meth c H locs cells slots (MQT below D cl A post s) (F0 m pc ls [.int v]) :=
  t_ret (W.iret hx hb hr (fun t ht hW => ⟨rfl, ht⟩) hS.2.2 hdg (hlocks := hlk)) hP hD hS hq
theorem t_zret (hx : p.tables.exec = Jvm.exec) (hb : c.code = cc) (hr : meth.sig.returnType = some .boolean) (hlk : meth.locks = false) {v : Int32} (hv : narrow .boolean (.int v) = .int v) (hdg : decode cc pc = .ok (.ireturn, 1))
    (hP : va_P D cl w1 H) (hD : va_D A w1) (hS : va_S A s.heap H locs) (hq : post (some (.int v)) w1 cells slots) : W p l e R s m args below meth c H locs cells slots (MQT below D cl A post s) (F0 m pc ls [.int v]) :=
  t_ret (W.zret hx hb hr hv (fun t ht hW => ⟨rfl, ht⟩) hS.2.2 hdg (hlocks := hlk)) hP hD hS hq
theorem t_vret (hx : p.tables.exec = Jvm.exec) (hb : c.code = cc) (hr : meth.sig.returnType = none) (hlk : meth.locks = false) (hdg : decode cc pc = .ok (.return_, 1))
    (hP : va_P D cl w1 H) (hD : va_D A w1) (hS : va_S A s.heap H locs) (hq : post none w1 cells slots) : W p l e R s m args below meth c H locs cells slots (MQT below D cl A post s) (F0 m pc ls []) :=
  t_ret (W.vret hx hb hr (fun t ht hW => ⟨rfl, ht⟩) hS.2.2 hdg (hlocks := hlk)) hP hD hS hq
theorem t_lret (hx : p.tables.exec = Jvm.exec) (hb : c.code = cc) (hr : meth.sig.returnType = some .long) (hlk : meth.locks = false) {v : Int64} (hdg : decode cc pc = .ok (.lreturn, 1))
    (hP : va_P D cl w1 H) (hD : va_D A w1) (hS : va_S A s.heap H locs) (hq : post (some (.long v)) w1 cells slots) : W p l e R s m args below meth c H locs cells slots (MQT below D cl A post s) (F0 m pc ls [.long v]) :=
  t_ret (W.lret hx hb hr (fun t ht hW => ⟨rfl, ht⟩) hS.2.2 hdg (hlocks := hlk)) hP hD hS hq
theorem t_aret (hx : p.tables.exec = Jvm.exec) (hb : c.code = cc) {rt : FieldType} (hr : meth.sig.returnType = some rt) (hrt : (∃ n, rt = .object n) ∨ ∃ t, rt = .array t) (hlk : meth.locks = false) {a : Nat} (hdg : decode cc pc = .ok (.areturn, 1))
    (hP : va_P D cl w1 H) (hD : va_D A w1) (hS : va_S A s.heap H locs) (hq : post (some (.ref a)) w1 cells slots) : W p l e R s m args below meth c H locs cells slots (MQT below D cl A post s) (F0 m pc ls [.ref a]) :=
  t_ret (W.aret hx hb hr hrt (Or.inr ⟨a, rfl⟩) (fun t ht hW => ⟨rfl, ht⟩) hS.2.2 hdg (hlocks := hlk)) hP hD hS hq
end TE
theorem Tr.intro {l : Launch} {D : va_G} {cl : List vw_C} {tys : List (ClassId × FieldType)} {Ts NX : List Cond} {y : MethodName} {bytes : ByteArray} {maxL : Nat} {ret : Option FieldType} {rm : Room} {av : List Value} {wc : va_W} {post : Option Value → va_W → Nat → Nat → Prop}
    (hy : plainFor y = true) (hN : NXok NX) (hsz : (lg_sl av).length ≤ maxL)
    (body : ∀ (p : Program) (e : Env) (s : State) (m : MethodId) (args : Array Value) (below : List Frame) (meth : Method) (c : Code) (A : Nat → Prop) (ls : Array Slot),
      p.tables.exec = Jvm.exec → c.code = bytes → c.maxLocals = maxL → s.vm.findClass y.cls = some m.cls → (∀ w ∈ Ts, w.before args s = true) → meth.sig.returnType = ret → meth.locks = false → meth.name = y.name →
      Sit D cl tys NX s A → va_P D cl wc s.heap → va_D A wc → va_S A s.heap s.heap [] → lv_has ls maxL (lv_args 0 av) →
      W p l e rm s m args below meth c s.heap [] 0 0 (MQT below D cl A post s) (F0 m 0 ls [])) : Tr l D cl tys Ts NX y bytes maxL ret rm av wc post := by
  unfold Tr MetK
  refine MetFree.of_bodySF (code := bytes) (maxLocals := maxL) (ret := ret) hy ?_ ?_
  · intro args s m h hn
    obtain ⟨meth, c, h1, h2, h3, h4, h5, h6, -, -⟩ := Cond.code_spec hn (atoms_spec (ws := Cond.code y bytes maxL ret :: Ts) h _ List.mem_cons_self)
    exact ⟨meth, c, h1, h2, h3, h4, h5, h6⟩
  · intro p e s m args below meth c s₁ B hml hP _
    obtain ⟨rfl, hP, hK, hD0, hNs⟩ := hP
    have hh0 : s₁.heap = s.heap := by rw [B.state]; rfl
    have hts := atoms_spec (ws := Cond.code y bytes maxL ret :: Ts) B.pre
    have hb := body p e s m av.toArray below meth c (va_A wc s.heap.size) _ B.exec B.bytes hml (findClass_of_methodNamed B.named) (fun w hw => hts w (List.mem_cons_of_mem _ hw)) B.returns B.notSynchronized (name_of_methodNamed B.named B.method).1
      ⟨hK, hNs, hN, fun q h => Or.inr h⟩ hP (hD0.self (sz := s.heap.size)) va_S.rf (lv_entry av (n := maxL) hsz)
    rw [← lg_entry_eq] at hb
    obtain ⟨t, a1, v, w1, L, k, n, b1, b2, b3, b4, b5, b6, b7, b8⟩ := hb s₁ hh0 (Stand.of_body B)
    exact ⟨t, .returned v, a1, b1, b2, L, k, n, b3, v, w1, rfl, b4, b5, b6, b7, b8⟩
/-- the end of a method that only reads -/
def MQR (below : List Frame) (post : Value → Prop) (s : State) : State → Prop := fun t =>
  ∃ v : Value, t.status = .running ∧ Ended t below (.returned (some v)) ∧ FrameEnd s (.returned (some v)) t [] 0 0 ∧ post v ∧ t.heap = s.heap
section RE
variable {p : Program} {l : Launch} {e : Env} {R : Room} {s : State} {m : MethodId} {args : Array Value} {below : List Frame} {meth : Method} {c : Code}
variable {cc : ByteArray} {pc : Nat} {ls : Array Slot} {post : Value → Prop}
theorem r_ret {v : Value} {g : JFrame} (h : W p l e R s m args below meth c s.heap [] 0 0 (MQ below (fun _ _ o t => o = .returned (some v) ∧ t.heap = s.heap) args s 0 0 (fun _ => False)) g)
    (hq : post v) : W p l e R s m args below meth c s.heap [] 0 0 (MQR below post s) g := by
  intro T hT X
  obtain ⟨t, st, o, h1, h2, ⟨rfl, hh⟩, L, hF, hL⟩ := h T hT X
  have hn : L = [] := by
    cases L with
    | nil => rfl
    | cons q L => exact absurd (hL q List.mem_cons_self) (fun h => h)
  subst hn
  exact ⟨t, st, v, h1, h2, hF, hq, hh⟩
theorem r_iret (hx : p.tables.exec = Jvm.exec) (hb : c.code = cc) (hr : meth.sig.returnType = some .int) (hlk : meth.locks = false) {v : Int32} (hdg : decode cc pc = .ok (.ireturn, 1))
    (hq : post (.int v)) : W p l e R s m args below meth c s.heap [] 0 0 (MQR below post s) (F0 m pc ls [.int v]) :=
  r_ret (W.iret hx hb hr (fun t ht hW => ⟨rfl, ht⟩) (fun q h => by cases h) hdg (hlocks := hlk)) hq
theorem r_zret (hx : p.tables.exec = Jvm.exec) (hb : c.code = cc) (hr : meth.sig.returnType = some .boolean) (hlk : meth.locks = false) {v : Int32} (hv : narrow .boolean (.int v) = .int v) (hdg : decode cc pc = .ok (.ireturn, 1))
    (hq : post (.int v)) : W p l e R s m args below meth c s.heap [] 0 0 (MQR below post s) (F0 m pc ls [.int v]) :=
  r_ret (W.zret hx hb hr hv (fun t ht hW => ⟨rfl, ht⟩) (fun q h => by cases h) hdg (hlocks := hlk)) hq
theorem r_lret (hx : p.tables.exec = Jvm.exec) (hb : c.code = cc) (hr : meth.sig.returnType = some .long) (hlk : meth.locks = false) {v : Int64} (hdg : decode cc pc = .ok (.lreturn, 1))
    (hq : post (.long v)) : W p l e R s m args below meth c s.heap [] 0 0 (MQR below post s) (F0 m pc ls [.long v]) :=
  r_ret (W.lret hx hb hr (fun t ht hW => ⟨rfl, ht⟩) (fun q h => by cases h) hdg (hlocks := hlk)) hq
theorem r_aret (hx : p.tables.exec = Jvm.exec) (hb : c.code = cc) {rt : FieldType} (hr : meth.sig.returnType = some rt) (hrt : (∃ n, rt = .object n) ∨ ∃ t, rt = .array t) (hlk : meth.locks = false) {a : Nat} (hdg : decode cc pc = .ok (.areturn, 1))
    (hq : post (.ref a)) : W p l e R s m args below meth c s.heap [] 0 0 (MQR below post s) (F0 m pc ls [.ref a]) :=
  r_ret (W.aret hx hb hr hrt (Or.inr ⟨a, rfl⟩) (fun t ht hW => ⟨rfl, ht⟩) (fun q h => by cases h) hdg (hlocks := hlk)) hq
end RE
theorem Ro.intro {l : Launch} {D : va_G} {cl : List vw_C} {tys : List (ClassId × FieldType)} {Ts NX : List Cond} {y : MethodName} {bytes : ByteArray} {maxL : Nat} {ret : Option FieldType} {rm : Room} {av : List Value} {wc : va_W} {post : Value → Prop}
    (hy : plainFor y = true) (hN : NXok NX) (hsz : (lg_sl av).length ≤ maxL)
    (body : ∀ (p : Program) (e : Env) (s : State) (m : MethodId) (args : Array Value) (below : List Frame) (meth : Method) (c : Code) (A : Nat → Prop) (ls : Array Slot),
      p.tables.exec = Jvm.exec → c.code = bytes → c.maxLocals = maxL → s.vm.findClass y.cls = some m.cls → (∀ w ∈ Ts, w.before args s = true) → meth.sig.returnType = ret → meth.locks = false → meth.name = y.name →
      Sit D cl tys NX s A → va_P D cl wc s.heap → va_D A wc → lv_has ls maxL (lv_args 0 av) →
      W p l e rm s m args below meth c s.heap [] 0 0 (MQR below post s) (F0 m 0 ls [])) : Ro l D cl tys Ts NX y bytes maxL ret rm av wc post := by
  unfold Ro MetK
  refine MetFree.of_bodySF (code := bytes) (maxLocals := maxL) (ret := ret) hy ?_ ?_
  · intro args s m h hn
    obtain ⟨meth, c, h1, h2, h3, h4, h5, h6, -, -⟩ := Cond.code_spec hn (atoms_spec (ws := Cond.code y bytes maxL ret :: Ts) h _ List.mem_cons_self)
    exact ⟨meth, c, h1, h2, h3, h4, h5, h6⟩
  · intro p e s m args below meth c s₁ B hml hP _
    obtain ⟨rfl, hP, hK, hD0, hNs⟩ := hP
    have hh0 : s₁.heap = s.heap := by rw [B.state]; rfl
    have hts := atoms_spec (ws := Cond.code y bytes maxL ret :: Ts) B.pre
    have hb := body p e s m av.toArray below meth c (va_A wc s.heap.size) _ B.exec B.bytes hml (findClass_of_methodNamed B.named) (fun w hw => hts w (List.mem_cons_of_mem _ hw)) B.returns B.notSynchronized (name_of_methodNamed B.named B.method).1
      ⟨hK, hNs, hN, fun q h => Or.inr h⟩ hP (hD0.self (sz := s.heap.size)) (lv_entry av (n := maxL) hsz)
    rw [← lg_entry_eq] at hb
    obtain ⟨t, a1, v, b1, b2, b3, b4, b5⟩ := hb s₁ hh0 (Stand.of_body B)
    exact ⟨t, .returned (some v), a1, b1, b2, [], 0, 0, b3, v, rfl, b4, b5, rfl, rfl, rfl⟩
section TV
variable {p : Program} {l : Launch} {e : Env} {R : Room} {s : State} {m : MethodId} {args : Array Value} {below : List Frame} {meth : Method} {c : Code} {H : Heap} {locs : List Loc} {cells slots : Nat} {Q : State → Prop} {pc : Nat} {ls : Array Slot} {rest : List Value}
theorem lv_tv {x y : Int32} (h : x = y) (k : W p l e R s m args below meth c H locs cells slots Q (F0 m pc ls (.int y :: rest))) : W p l e R s m args below meth c H locs cells slots Q (F0 m pc ls (.int x :: rest)) := by
  rw [h]; exact k
theorem lv_tvl {x y : Int64} (h : x = y) (k : W p l e R s m args below meth c H locs cells slots Q (F0 m pc ls (.long y :: rest))) : W p l e R s m args below meth c H locs cells slots Q (F0 m pc ls (.long x :: rest)) := by
  rw [h]; exact k
/-- a new array of numbers, of a class of arrays that is known -/
theorem t_newa {cc : ByteArray} {D : va_G} {cl : List vw_C} {tys : List (ClassId × FieldType)} {ws : va_W} {A : Nat → Prop} (hexec : p.tables.exec = Jvm.exec) (hb : c.code = cc) {atype : ArrayType} (harr : (Cond.arrayClass (newarray.typeOf atype)).before args s = true) {ty : FieldType} (hty : newarray.typeOf atype = ty) (hK : va_K D cl tys s) (hP : va_P D cl ws H) (hD : va_D A ws) (hS : va_S A s.heap H locs) (hA : ∀ q, s.heap.size ≤ q → A q)
    (t0 : Nat) {cA : ClassId} (ht : tys[t0]? = some (cA, ty)) {n : Int32} {N' : Nat} {a0 : vp_A} (ha : ∀ cA : ClassId, vp_cell cA a0 = arrV cA N' (fun _ => defaultValue ty)) (hn : ¬ n < 0) (hN : n.toNatClampNeg = N') (hbytes : N' * componentBytes ty ≤ 536870912) (hcells : cells + 1 ≤ R.cells) (hslots : slots + N' ≤ R.slots) (hdg : decode cc pc = .ok (.newarray atype, 2))
    (kk : ∀ (q : Nat) (H1 : Heap), va_P D cl (ws ++ [(q, .inl (cA, a0))]) H1 → va_D A (ws ++ [(q, .inl (cA, a0))]) → va_S A s.heap H1 locs →
      W p l e R s m args below meth c H1 locs (cells + 1) (slots + N') Q (F0 m (pc + 2) ls (.ref q :: rest))) : W p l e R s m args below meth c H locs cells slots Q (F0 m pc ls (.int n :: rest)) := by
  refine va_newa hexec hb harr hty hK hP hD hS hA ha hn hN hbytes hcells hslots hdg (fun q cA' H1 hK' hP' hD' hS' => ?_)
  have h1 := (hK.2 t0 _ ht).2
  have h2 := (hK'.2 tys.length (cA', ty) (by rw [List.getElem?_append_right (Nat.le_refl _), Nat.sub_self]; rfl)).2
  have hc : cA' = cA := by
    subst hty
    cases atype <;> exact Option.some.inj (h2.symm.trans h1)
  subst hc
  exact kk q H1 hP' hD' hS'
end TV
end
section
def gd_tbl : List Cond := lw_tbl.filter goodWord
theorem gd_good : GoodIn gd_tbl gd_tbl := fun w h => ⟨h, good_of_word (List.mem_filter.mp h).2⟩
def nx_tbl : List Cond := [(Jvm.Cond.methodLinkNest "CharOutlines" (9 : Nat) ({ cls := "CharOutlines$Bytes", name := "<init>", desc := "()V" } : Jvm.MethodName) "CharOutlines"), (Jvm.Cond.methodLinkNest "CharOutlines" (18 : Nat) ({ cls := "CharOutlines$Machine", name := "<init>", desc := "()V" } : Jvm.MethodName) "CharOutlines"), (Jvm.Cond.methodLinkNest "CharOutlines$Machine" (11 : Nat) ({ cls := "CharOutlines$Strings", name := "<init>", desc := "()V" } : Jvm.MethodName) "CharOutlines"), (Jvm.Cond.methodLinkNest "CharOutlines$Strings" (11 : Nat) ({ cls := "CharOutlines$Shelf", name := "<init>", desc := "()V" } : Jvm.MethodName) "CharOutlines"), (Jvm.Cond.methodLinkNest "CharOutlines$Shelf" (11 : Nat) ({ cls := "CharOutlines$Bytes", name := "<init>", desc := "()V" } : Jvm.MethodName) "CharOutlines"), (Jvm.Cond.methodLinkNest "CharOutlines$Machine" (20 : Nat) ({ cls := "CharOutlines$Values", name := "<init>", desc := "()V" } : Jvm.MethodName) "CharOutlines"), (Jvm.Cond.methodLinkNest "CharOutlines$Machine" (27 : Nat) ({ cls := "CharOutlines$Reckoning", name := "<init>", desc := "()V" } : Jvm.MethodName) "CharOutlines"), (Jvm.Cond.methodLinkNest "CharOutlines$Machine" (34 : Nat) ({ cls := "CharOutlines$Outline", name := "<init>", desc := "()V" } : Jvm.MethodName) "CharOutlines"), (Jvm.Cond.castable "java/lang/IndexOutOfBoundsException" "java/lang/IndexOutOfBoundsException"), (Jvm.Cond.declares ({ cls := "java/lang/RuntimeException", name := "<init>", desc := "()V" } : Jvm.MethodName)), (Jvm.Cond.declares ({ cls := "java/lang/RuntimeException", name := "<init>", desc := "(Ljava/lang/String;)V" } : Jvm.MethodName)), (Jvm.Cond.declares ({ cls := "java/lang/Exception", name := "<init>", desc := "()V" } : Jvm.MethodName)), (Jvm.Cond.declares ({ cls := "java/lang/Exception", name := "<init>", desc := "(Ljava/lang/String;)V" } : Jvm.MethodName)), (Jvm.Cond.declares ({ cls := "java/lang/Throwable", name := "<init>", desc := "()V" } : Jvm.MethodName)), (Jvm.Cond.declares ({ cls := "java/lang/Throwable", name := "<init>", desc := "(Ljava/lang/String;)V" } : Jvm.MethodName)), (Jvm.Cond.castable "java/lang/IllegalArgumentException" "java/lang/IllegalArgumentException")]
theorem nx_ok : NXok nx_tbl := by
  intro w hw
  simp only [nx_tbl, List.mem_cons, List.not_mem_nil, or_false] at hw
  rcases hw with rfl | rfl | rfl | rfl | rfl | rfl | rfl | rfl | rfl | rfl | rfl | rfl | rfl | rfl | rfl | rfl
  · exact Or.inl ⟨_, _, _, _, rfl⟩
  · exact Or.inl ⟨_, _, _, _, rfl⟩
  · exact Or.inl ⟨_, _, _, _, rfl⟩
  · exact Or.inl ⟨_, _, _, _, rfl⟩
  · exact Or.inl ⟨_, _, _, _, rfl⟩
  · exact Or.inl ⟨_, _, _, _, rfl⟩
  · exact Or.inl ⟨_, _, _, _, rfl⟩
  · exact Or.inl ⟨_, _, _, _, rfl⟩
  · exact Or.inr (Or.inr (Or.inr ⟨_, _, rfl⟩))
  · exact Or.inr (Or.inr (Or.inl ⟨_, rfl⟩))
  · exact Or.inr (Or.inr (Or.inl ⟨_, rfl⟩))
  · exact Or.inr (Or.inr (Or.inl ⟨_, rfl⟩))
  · exact Or.inr (Or.inr (Or.inl ⟨_, rfl⟩))
  · exact Or.inr (Or.inr (Or.inl ⟨_, rfl⟩))
  · exact Or.inr (Or.inr (Or.inl ⟨_, rfl⟩))
  · exact Or.inr (Or.inr (Or.inr ⟨_, _, rfl⟩))
set_option maxRecDepth 100000 in
theorem nx_in : ∀ w ∈ nx_tbl, w ∈ lw_tbl := by
  intro w hw
  simp only [nx_tbl, List.mem_cons, List.not_mem_nil, or_false] at hw
  rcases hw with rfl | rfl | rfl | rfl | rfl | rfl | rfl | rfl | rfl | rfl | rfl | rfl | rfl | rfl | rfl | rfl
  · exact List.mem_of_getElem? (i := 88) rfl
  · exact List.mem_of_getElem? (i := 102) rfl
  · exact List.mem_of_getElem? (i := 108) rfl
  · exact List.mem_of_getElem? (i := 114) rfl
  · exact List.mem_of_getElem? (i := 119) rfl
  · exact List.mem_of_getElem? (i := 155) rfl
  · exact List.mem_of_getElem? (i := 171) rfl
  · exact List.mem_of_getElem? (i := 181) rfl
  · exact List.mem_of_getElem? (i := 302) rfl
  · exact List.mem_of_getElem? (i := 303) rfl
  · exact List.mem_of_getElem? (i := 304) rfl
  · exact List.mem_of_getElem? (i := 305) rfl
  · exact List.mem_of_getElem? (i := 306) rfl
  · exact List.mem_of_getElem? (i := 307) rfl
  · exact List.mem_of_getElem? (i := 308) rfl
  · exact List.mem_of_getElem? (i := 368) rfl
abbrev TY (cB cI cJ : ClassId) : List (ClassId × FieldType) := [(cB, .byte), (cI, .int), (cJ, .long)]
abbrev R_By : String := "CharOutlines$Bytes"
def F_By : u_T := fun k => match k with
  | 0 => ("CharOutlines$Bytes", "room", "[B", false)
  | _ => ("CharOutlines$Bytes", "length", "I", false)
def t_By : Nat → FieldType := fun k => match k with
  | 0 => .array .byte
  | _ => .int
theorem n_By : ∀ a, a < 2 → ∀ b, b < 2 → a ≠ b → (F_By a).2.1 ≠ (F_By b).2.1 := by decide +kernel
theorem t_By_ok : ∀ k, k < 2 → parseFieldDescriptor (F_By k).2.2.1 = some (t_By k) := by decide +kernel
set_option maxRecDepth 100000 in
theorem i_By : ∀ w ∈ u_ws R_By F_By 2, w ∈ gd_tbl := by
  intro w hw
  obtain ⟨k, hk, rfl⟩ := List.mem_map.mp hw
  have hk : k < 2 := List.mem_range.mp hk
  match k, hk with
  | 0, _ => exact List.mem_filter.mpr ⟨List.mem_of_getElem? (i := 94) rfl, rfl⟩
  | 1, _ => exact List.mem_filter.mpr ⟨List.mem_of_getElem? (i := 96) rfl, rfl⟩
  | k + 2, h => exact absurd h (by omega)
set_option maxRecDepth 100000 in
theorem in_By : Cond.instantiable R_By 2 ∈ gd_tbl := List.mem_filter.mpr ⟨List.mem_of_getElem? (i := 87) rfl, rfl⟩
set_option maxRecDepth 100000 in
theorem ini_By : Cond.initialized R_By ∈ gd_tbl := List.mem_filter.mpr ⟨List.mem_of_getElem? (i := 61) rfl, rfl⟩
abbrev R_Sh : String := "CharOutlines$Shelf"
def F_Sh : u_T := fun k => match k with
  | 0 => ("CharOutlines$Shelf", "bytes", "LCharOutlines$Bytes;", true)
  | _ => ("CharOutlines$Shelf", "strings", "I", false)
def t_Sh : Nat → FieldType := fun k => match k with
  | 0 => .object "CharOutlines$Bytes"
  | _ => .int
theorem n_Sh : ∀ a, a < 2 → ∀ b, b < 2 → a ≠ b → (F_Sh a).2.1 ≠ (F_Sh b).2.1 := by decide +kernel
theorem t_Sh_ok : ∀ k, k < 2 → parseFieldDescriptor (F_Sh k).2.2.1 = some (t_Sh k) := by decide +kernel
set_option maxRecDepth 100000 in
theorem i_Sh : ∀ w ∈ u_ws R_Sh F_Sh 2, w ∈ gd_tbl := by
  intro w hw
  obtain ⟨k, hk, rfl⟩ := List.mem_map.mp hw
  have hk : k < 2 := List.mem_range.mp hk
  match k, hk with
  | 0, _ => exact List.mem_filter.mpr ⟨List.mem_of_getElem? (i := 122) rfl, rfl⟩
  | 1, _ => exact List.mem_filter.mpr ⟨List.mem_of_getElem? (i := 124) rfl, rfl⟩
  | k + 2, h => exact absurd h (by omega)
set_option maxRecDepth 100000 in
theorem in_Sh : Cond.instantiable R_Sh 2 ∈ gd_tbl := List.mem_filter.mpr ⟨List.mem_of_getElem? (i := 113) rfl, rfl⟩
set_option maxRecDepth 100000 in
theorem ini_Sh : Cond.initialized R_Sh ∈ gd_tbl := List.mem_filter.mpr ⟨List.mem_of_getElem? (i := 64) rfl, rfl⟩
abbrev R_St : String := "CharOutlines$Strings"
def F_St : u_T := fun k => match k with
  | 0 => ("CharOutlines$Strings", "programs", "LCharOutlines$Shelf;", true)
  | 1 => ("CharOutlines$Strings", "globals", "LCharOutlines$Shelf;", true)
  | 2 => ("CharOutlines$Strings", "locals", "LCharOutlines$Shelf;", true)
  | 3 => ("CharOutlines$Strings", "kinds", "[I", true)
  | 4 => ("CharOutlines$Strings", "places", "[I", true)
  | 5 => ("CharOutlines$Strings", "ends", "[I", true)
  | 6 => ("CharOutlines$Strings", "depth", "I", false)
  | _ => ("CharOutlines$Strings", "deepest", "I", false)
def t_St : Nat → FieldType := fun k => match k with
  | 0 => .object "CharOutlines$Shelf"
  | 1 => .object "CharOutlines$Shelf"
  | 2 => .object "CharOutlines$Shelf"
  | 3 => .array .int
  | 4 => .array .int
  | 5 => .array .int
  | 6 => .int
  | _ => .int
theorem n_St : ∀ a, a < 8 → ∀ b, b < 8 → a ≠ b → (F_St a).2.1 ≠ (F_St b).2.1 := by decide +kernel
theorem t_St_ok : ∀ k, k < 8 → parseFieldDescriptor (F_St k).2.2.1 = some (t_St k) := by decide +kernel
set_option maxRecDepth 100000 in
theorem i_St : ∀ w ∈ u_ws R_St F_St 8, w ∈ gd_tbl := by
  intro w hw
  obtain ⟨k, hk, rfl⟩ := List.mem_map.mp hw
  have hk : k < 8 := List.mem_range.mp hk
  match k, hk with
  | 0, _ => exact List.mem_filter.mpr ⟨List.mem_of_getElem? (i := 135) rfl, rfl⟩
  | 1, _ => exact List.mem_filter.mpr ⟨List.mem_of_getElem? (i := 137) rfl, rfl⟩
  | 2, _ => exact List.mem_filter.mpr ⟨List.mem_of_getElem? (i := 139) rfl, rfl⟩
  | 3, _ => exact List.mem_filter.mpr ⟨List.mem_of_getElem? (i := 141) rfl, rfl⟩
  | 4, _ => exact List.mem_filter.mpr ⟨List.mem_of_getElem? (i := 143) rfl, rfl⟩
  | 5, _ => exact List.mem_filter.mpr ⟨List.mem_of_getElem? (i := 145) rfl, rfl⟩
  | 6, _ => exact List.mem_filter.mpr ⟨List.mem_of_getElem? (i := 147) rfl, rfl⟩
  | 7, _ => exact List.mem_filter.mpr ⟨List.mem_of_getElem? (i := 149) rfl, rfl⟩
  | k + 8, h => exact absurd h (by omega)
set_option maxRecDepth 100000 in
theorem in_St : Cond.instantiable R_St 8 ∈ gd_tbl := List.mem_filter.mpr ⟨List.mem_of_getElem? (i := 107) rfl, rfl⟩
set_option maxRecDepth 100000 in
theorem ini_St : Cond.initialized R_St ∈ gd_tbl := List.mem_filter.mpr ⟨List.mem_of_getElem? (i := 63) rfl, rfl⟩
abbrev R_Va : String := "CharOutlines$Values"
def F_Va : u_T := fun k => match k with
  | 0 => ("CharOutlines$Values", "values", "[I", true)
  | 1 => ("CharOutlines$Values", "turned", "[I", true)
  | _ => ("CharOutlines$Values", "size", "I", false)
def t_Va : Nat → FieldType := fun k => match k with
  | 0 => .array .int
  | 1 => .array .int
  | _ => .int
theorem n_Va : ∀ a, a < 3 → ∀ b, b < 3 → a ≠ b → (F_Va a).2.1 ≠ (F_Va b).2.1 := by decide +kernel
theorem t_Va_ok : ∀ k, k < 3 → parseFieldDescriptor (F_Va k).2.2.1 = some (t_Va k) := by decide +kernel
set_option maxRecDepth 100000 in
theorem i_Va : ∀ w ∈ u_ws R_Va F_Va 3, w ∈ gd_tbl := by
  intro w hw
  obtain ⟨k, hk, rfl⟩ := List.mem_map.mp hw
  have hk : k < 3 := List.mem_range.mp hk
  match k, hk with
  | 0, _ => exact List.mem_filter.mpr ⟨List.mem_of_getElem? (i := 162) rfl, rfl⟩
  | 1, _ => exact List.mem_filter.mpr ⟨List.mem_of_getElem? (i := 164) rfl, rfl⟩
  | 2, _ => exact List.mem_filter.mpr ⟨List.mem_of_getElem? (i := 166) rfl, rfl⟩
  | k + 3, h => exact absurd h (by omega)
set_option maxRecDepth 100000 in
theorem in_Va : Cond.instantiable R_Va 3 ∈ gd_tbl := List.mem_filter.mpr ⟨List.mem_of_getElem? (i := 154) rfl, rfl⟩
set_option maxRecDepth 100000 in
theorem ini_Va : Cond.initialized R_Va ∈ gd_tbl := List.mem_filter.mpr ⟨List.mem_of_getElem? (i := 65) rfl, rfl⟩
abbrev R_Ou : String := "CharOutlines$Outline"
def F_Ou : u_T := fun k => match k with
  | 0 => ("CharOutlines$Outline", "room", "[I", false)
  | 1 => ("CharOutlines$Outline", "marks", "I", false)
  | 2 => ("CharOutlines$Outline", "x", "I", false)
  | _ => ("CharOutlines$Outline", "y", "I", false)
def t_Ou : Nat → FieldType := fun k => match k with
  | 0 => .array .int
  | 1 => .int
  | 2 => .int
  | _ => .int
theorem n_Ou : ∀ a, a < 4 → ∀ b, b < 4 → a ≠ b → (F_Ou a).2.1 ≠ (F_Ou b).2.1 := by decide +kernel
theorem t_Ou_ok : ∀ k, k < 4 → parseFieldDescriptor (F_Ou k).2.2.1 = some (t_Ou k) := by decide +kernel
set_option maxRecDepth 100000 in
theorem i_Ou : ∀ w ∈ u_ws R_Ou F_Ou 4, w ∈ gd_tbl := by
  intro w hw
  obtain ⟨k, hk, rfl⟩ := List.mem_map.mp hw
  have hk : k < 4 := List.mem_range.mp hk
  match k, hk with
  | 0, _ => exact List.mem_filter.mpr ⟨List.mem_of_getElem? (i := 189) rfl, rfl⟩
  | 1, _ => exact List.mem_filter.mpr ⟨List.mem_of_getElem? (i := 191) rfl, rfl⟩
  | 2, _ => exact List.mem_filter.mpr ⟨List.mem_of_getElem? (i := 193) rfl, rfl⟩
  | 3, _ => exact List.mem_filter.mpr ⟨List.mem_of_getElem? (i := 195) rfl, rfl⟩
  | k + 4, h => exact absurd h (by omega)
set_option maxRecDepth 100000 in
theorem in_Ou : Cond.instantiable R_Ou 4 ∈ gd_tbl := List.mem_filter.mpr ⟨List.mem_of_getElem? (i := 180) rfl, rfl⟩
set_option maxRecDepth 100000 in
theorem ini_Ou : Cond.initialized R_Ou ∈ gd_tbl := List.mem_filter.mpr ⟨List.mem_of_getElem? (i := 67) rfl, rfl⟩
abbrev R_Re : String := "CharOutlines$Reckoning"
def F_Re : u_T := fun k => match k with
  | _ => ("CharOutlines$Reckoning", "places", "[I", true)
def t_Re : Nat → FieldType := fun k => match k with
  | _ => .array .int
theorem n_Re : ∀ a, a < 1 → ∀ b, b < 1 → a ≠ b → (F_Re a).2.1 ≠ (F_Re b).2.1 := by decide +kernel
theorem t_Re_ok : ∀ k, k < 1 → parseFieldDescriptor (F_Re k).2.2.1 = some (t_Re k) := by decide +kernel
set_option maxRecDepth 100000 in
theorem i_Re : ∀ w ∈ u_ws R_Re F_Re 1, w ∈ gd_tbl := by
  intro w hw
  obtain ⟨k, hk, rfl⟩ := List.mem_map.mp hw
  have hk : k < 1 := List.mem_range.mp hk
  match k, hk with
  | 0, _ => exact List.mem_filter.mpr ⟨List.mem_of_getElem? (i := 176) rfl, rfl⟩
  | k + 1, h => exact absurd h (by omega)
set_option maxRecDepth 100000 in
theorem in_Re : Cond.instantiable R_Re 1 ∈ gd_tbl := List.mem_filter.mpr ⟨List.mem_of_getElem? (i := 170) rfl, rfl⟩
set_option maxRecDepth 100000 in
theorem ini_Re : Cond.initialized R_Re ∈ gd_tbl := List.mem_filter.mpr ⟨List.mem_of_getElem? (i := 66) rfl, rfl⟩
abbrev R_Ma : String := "CharOutlines$Machine"
def F_Ma : u_T := fun k => match k with
  | 0 => ("CharOutlines$Machine", "strings", "LCharOutlines$Strings;", true)
  | 1 => ("CharOutlines$Machine", "values", "LCharOutlines$Values;", true)
  | 2 => ("CharOutlines$Machine", "reckoning", "LCharOutlines$Reckoning;", true)
  | 3 => ("CharOutlines$Machine", "outline", "LCharOutlines$Outline;", true)
  | 4 => ("CharOutlines$Machine", "hasRun", "Z", false)
  | 5 => ("CharOutlines$Machine", "steps", "I", false)
  | 6 => ("CharOutlines$Machine", "hints", "I", false)
  | 7 => ("CharOutlines$Machine", "widthPassed", "Z", false)
  | 8 => ("CharOutlines$Machine", "widthTold", "Z", false)
  | 9 => ("CharOutlines$Machine", "width", "I", false)
  | _ => ("CharOutlines$Machine", "moved", "Z", false)
def t_Ma : Nat → FieldType := fun k => match k with
  | 0 => .object "CharOutlines$Strings"
  | 1 => .object "CharOutlines$Values"
  | 2 => .object "CharOutlines$Reckoning"
  | 3 => .object "CharOutlines$Outline"
  | 4 => .boolean
  | 5 => .int
  | 6 => .int
  | 7 => .boolean
  | 8 => .boolean
  | 9 => .int
  | _ => .boolean
theorem n_Ma : ∀ a, a < 11 → ∀ b, b < 11 → a ≠ b → (F_Ma a).2.1 ≠ (F_Ma b).2.1 := by decide +kernel
theorem t_Ma_ok : ∀ k, k < 11 → parseFieldDescriptor (F_Ma k).2.2.1 = some (t_Ma k) := by decide +kernel
set_option maxRecDepth 100000 in
theorem i_Ma : ∀ w ∈ u_ws R_Ma F_Ma 11, w ∈ gd_tbl := by
  intro w hw
  obtain ⟨k, hk, rfl⟩ := List.mem_map.mp hw
  have hk : k < 11 := List.mem_range.mp hk
  match k, hk with
  | 0, _ => exact List.mem_filter.mpr ⟨List.mem_of_getElem? (i := 209) rfl, rfl⟩
  | 1, _ => exact List.mem_filter.mpr ⟨List.mem_of_getElem? (i := 211) rfl, rfl⟩
  | 2, _ => exact List.mem_filter.mpr ⟨List.mem_of_getElem? (i := 213) rfl, rfl⟩
  | 3, _ => exact List.mem_filter.mpr ⟨List.mem_of_getElem? (i := 215) rfl, rfl⟩
  | 4, _ => exact List.mem_filter.mpr ⟨List.mem_of_getElem? (i := 217) rfl, rfl⟩
  | 5, _ => exact List.mem_filter.mpr ⟨List.mem_of_getElem? (i := 219) rfl, rfl⟩
  | 6, _ => exact List.mem_filter.mpr ⟨List.mem_of_getElem? (i := 221) rfl, rfl⟩
  | 7, _ => exact List.mem_filter.mpr ⟨List.mem_of_getElem? (i := 223) rfl, rfl⟩
  | 8, _ => exact List.mem_filter.mpr ⟨List.mem_of_getElem? (i := 225) rfl, rfl⟩
  | 9, _ => exact List.mem_filter.mpr ⟨List.mem_of_getElem? (i := 227) rfl, rfl⟩
  | 10, _ => exact List.mem_filter.mpr ⟨List.mem_of_getElem? (i := 229) rfl, rfl⟩
  | k + 11, h => exact absurd h (by omega)
set_option maxRecDepth 100000 in
theorem in_Ma : Cond.instantiable R_Ma 11 ∈ gd_tbl := List.mem_filter.mpr ⟨List.mem_of_getElem? (i := 101) rfl, rfl⟩
set_option maxRecDepth 100000 in
theorem ini_Ma : Cond.initialized R_Ma ∈ gd_tbl := List.mem_filter.mpr ⟨List.mem_of_getElem? (i := 62) rfl, rfl⟩
abbrev R_CO : String := "CharOutlines"
def F_CO : u_T := fun k => match k with
  | 0 => ("CharOutlines", "row", "LCharOutlines$Bytes;", true)
  | _ => ("CharOutlines", "machine", "LCharOutlines$Machine;", true)
def t_CO : Nat → FieldType := fun k => match k with
  | 0 => .object "CharOutlines$Bytes"
  | _ => .object "CharOutlines$Machine"
theorem n_CO : ∀ a, a < 2 → ∀ b, b < 2 → a ≠ b → (F_CO a).2.1 ≠ (F_CO b).2.1 := by decide +kernel
theorem t_CO_ok : ∀ k, k < 2 → parseFieldDescriptor (F_CO k).2.2.1 = some (t_CO k) := by decide +kernel
set_option maxRecDepth 100000 in
theorem i_CO : ∀ w ∈ u_ws R_CO F_CO 2, w ∈ gd_tbl := by
  intro w hw
  obtain ⟨k, hk, rfl⟩ := List.mem_map.mp hw
  have hk : k < 2 := List.mem_range.mp hk
  match k, hk with
  | 0, _ => exact List.mem_filter.mpr ⟨List.mem_of_getElem? (i := 234) rfl, rfl⟩
  | 1, _ => exact List.mem_filter.mpr ⟨List.mem_of_getElem? (i := 236) rfl, rfl⟩
  | k + 2, h => exact absurd h (by omega)
set_option maxRecDepth 100000 in
theorem in_CO : Cond.instantiable R_CO 2 ∈ gd_tbl := List.mem_filter.mpr ⟨List.mem_of_getElem? (i := 79) rfl, rfl⟩
set_option maxRecDepth 100000 in
theorem ini_CO : Cond.initialized R_CO ∈ gd_tbl := List.mem_filter.mpr ⟨List.mem_of_getElem? (i := 60) rfl, rfl⟩
abbrev R_Mo : String := "CharOutlinesModel"
def F_Mo : u_T := fun k => match k with
  | 0 => ("CharOutlinesModel", "fault", "I", false)
  | 1 => ("CharOutlinesModel", "size", "I", false)
  | 2 => ("CharOutlinesModel", "row", "[I", true)
  | 3 => ("CharOutlinesModel", "shelves", "[I", true)
  | 4 => ("CharOutlinesModel", "many", "[I", true)
  | 5 => ("CharOutlinesModel", "widths", "[I", true)
  | 6 => ("CharOutlinesModel", "marks", "I", false)
  | 7 => ("CharOutlinesModel", "mark", "[I", true)
  | 8 => ("CharOutlinesModel", "shown", "I", false)
  | 9 => ("CharOutlinesModel", "shownMark", "[I", true)
  | 10 => ("CharOutlinesModel", "wasRun", "Z", false)
  | 11 => ("CharOutlinesModel", "wrong", "I", false)
  | 12 => ("CharOutlinesModel", "ended", "Z", false)
  | 13 => ("CharOutlinesModel", "steps", "I", false)
  | 14 => ("CharOutlinesModel", "hints", "I", false)
  | 15 => ("CharOutlinesModel", "hasWidth", "Z", false)
  | 16 => ("CharOutlinesModel", "width", "I", false)
  | 17 => ("CharOutlinesModel", "first", "Z", false)
  | 18 => ("CharOutlinesModel", "moved", "Z", false)
  | 19 => ("CharOutlinesModel", "deepest", "I", false)
  | 20 => ("CharOutlinesModel", "x", "I", false)
  | 21 => ("CharOutlinesModel", "y", "I", false)
  | 22 => ("CharOutlinesModel", "top", "I", false)
  | 23 => ("CharOutlinesModel", "stack", "[I", true)
  | 24 => ("CharOutlinesModel", "places", "[I", true)
  | 25 => ("CharOutlinesModel", "depth", "I", false)
  | 26 => ("CharOutlinesModel", "kinds", "[I", true)
  | 27 => ("CharOutlinesModel", "ats", "[I", true)
  | _ => ("CharOutlinesModel", "ends", "[I", true)
def t_Mo : Nat → FieldType := fun k => match k with
  | 0 => .int
  | 1 => .int
  | 2 => .array .int
  | 3 => .array .int
  | 4 => .array .int
  | 5 => .array .int
  | 6 => .int
  | 7 => .array .int
  | 8 => .int
  | 9 => .array .int
  | 10 => .boolean
  | 11 => .int
  | 12 => .boolean
  | 13 => .int
  | 14 => .int
  | 15 => .boolean
  | 16 => .int
  | 17 => .boolean
  | 18 => .boolean
  | 19 => .int
  | 20 => .int
  | 21 => .int
  | 22 => .int
  | 23 => .array .int
  | 24 => .array .int
  | 25 => .int
  | 26 => .array .int
  | 27 => .array .int
  | _ => .array .int
theorem n_Mo : ∀ a, a < 29 → ∀ b, b < 29 → a ≠ b → (F_Mo a).2.1 ≠ (F_Mo b).2.1 := by decide +kernel
theorem t_Mo_ok : ∀ k, k < 29 → parseFieldDescriptor (F_Mo k).2.2.1 = some (t_Mo k) := by decide +kernel
set_option maxRecDepth 100000 in
theorem i_Mo : ∀ w ∈ u_ws R_Mo F_Mo 29, w ∈ gd_tbl := by
  intro w hw
  obtain ⟨k, hk, rfl⟩ := List.mem_map.mp hw
  have hk : k < 29 := List.mem_range.mp hk
  match k, hk with
  | 0, _ => exact List.mem_filter.mpr ⟨List.mem_of_getElem? (i := 780) rfl, rfl⟩
  | 1, _ => exact List.mem_filter.mpr ⟨List.mem_of_getElem? (i := 782) rfl, rfl⟩
  | 2, _ => exact List.mem_filter.mpr ⟨List.mem_of_getElem? (i := 784) rfl, rfl⟩
  | 3, _ => exact List.mem_filter.mpr ⟨List.mem_of_getElem? (i := 786) rfl, rfl⟩
  | 4, _ => exact List.mem_filter.mpr ⟨List.mem_of_getElem? (i := 788) rfl, rfl⟩
  | 5, _ => exact List.mem_filter.mpr ⟨List.mem_of_getElem? (i := 790) rfl, rfl⟩
  | 6, _ => exact List.mem_filter.mpr ⟨List.mem_of_getElem? (i := 792) rfl, rfl⟩
  | 7, _ => exact List.mem_filter.mpr ⟨List.mem_of_getElem? (i := 794) rfl, rfl⟩
  | 8, _ => exact List.mem_filter.mpr ⟨List.mem_of_getElem? (i := 796) rfl, rfl⟩
  | 9, _ => exact List.mem_filter.mpr ⟨List.mem_of_getElem? (i := 798) rfl, rfl⟩
  | 10, _ => exact List.mem_filter.mpr ⟨List.mem_of_getElem? (i := 800) rfl, rfl⟩
  | 11, _ => exact List.mem_filter.mpr ⟨List.mem_of_getElem? (i := 802) rfl, rfl⟩
  | 12, _ => exact List.mem_filter.mpr ⟨List.mem_of_getElem? (i := 804) rfl, rfl⟩
  | 13, _ => exact List.mem_filter.mpr ⟨List.mem_of_getElem? (i := 806) rfl, rfl⟩
  | 14, _ => exact List.mem_filter.mpr ⟨List.mem_of_getElem? (i := 808) rfl, rfl⟩
  | 15, _ => exact List.mem_filter.mpr ⟨List.mem_of_getElem? (i := 810) rfl, rfl⟩
  | 16, _ => exact List.mem_filter.mpr ⟨List.mem_of_getElem? (i := 812) rfl, rfl⟩
  | 17, _ => exact List.mem_filter.mpr ⟨List.mem_of_getElem? (i := 814) rfl, rfl⟩
  | 18, _ => exact List.mem_filter.mpr ⟨List.mem_of_getElem? (i := 816) rfl, rfl⟩
  | 19, _ => exact List.mem_filter.mpr ⟨List.mem_of_getElem? (i := 818) rfl, rfl⟩
  | 20, _ => exact List.mem_filter.mpr ⟨List.mem_of_getElem? (i := 820) rfl, rfl⟩
  | 21, _ => exact List.mem_filter.mpr ⟨List.mem_of_getElem? (i := 822) rfl, rfl⟩
  | 22, _ => exact List.mem_filter.mpr ⟨List.mem_of_getElem? (i := 824) rfl, rfl⟩
  | 23, _ => exact List.mem_filter.mpr ⟨List.mem_of_getElem? (i := 826) rfl, rfl⟩
  | 24, _ => exact List.mem_filter.mpr ⟨List.mem_of_getElem? (i := 828) rfl, rfl⟩
  | 25, _ => exact List.mem_filter.mpr ⟨List.mem_of_getElem? (i := 830) rfl, rfl⟩
  | 26, _ => exact List.mem_filter.mpr ⟨List.mem_of_getElem? (i := 832) rfl, rfl⟩
  | 27, _ => exact List.mem_filter.mpr ⟨List.mem_of_getElem? (i := 834) rfl, rfl⟩
  | 28, _ => exact List.mem_filter.mpr ⟨List.mem_of_getElem? (i := 836) rfl, rfl⟩
  | k + 29, h => exact absurd h (by omega)
set_option maxRecDepth 100000 in
theorem in_Mo : Cond.instantiable R_Mo 29 ∈ gd_tbl := List.mem_filter.mpr ⟨List.mem_of_getElem? (i := 745) rfl, rfl⟩
set_option maxRecDepth 100000 in
theorem ini_Mo : Cond.initialized R_Mo ∈ gd_tbl := List.mem_filter.mpr ⟨List.mem_of_getElem? (i := 68) rfl, rfl⟩
abbrev classes : List vw_C := [(R_By, F_By, 2), (R_Sh, F_Sh, 2), (R_St, F_St, 8), (R_Va, F_Va, 3), (R_Ou, F_Ou, 4), (R_Re, F_Re, 1), (R_Ma, F_Ma, 11), (R_CO, F_CO, 2), (R_Mo, F_Mo, 29)]
set_option maxRecDepth 100000 in
theorem ar_B : Cond.arrayClass .byte ∈ gd_tbl := List.mem_filter.mpr ⟨List.mem_of_getElem? (i := 99) rfl, rfl⟩
set_option maxRecDepth 100000 in
theorem ar_I : Cond.arrayClass .int ∈ gd_tbl := List.mem_filter.mpr ⟨List.mem_of_getElem? (i := 152) rfl, rfl⟩
set_option maxRecDepth 100000 in
theorem ar_J : Cond.arrayClass .long ∈ gd_tbl := List.mem_filter.mpr ⟨List.mem_of_getElem? (i := 1059) rfl, rfl⟩
abbrev R_La : String := "CharOutlinesLaw"
set_option maxRecDepth 100000 in
theorem im_objectInit : Cond.instanceMethod objectInit ∈ gd_tbl := List.mem_filter.mpr ⟨List.mem_of_getElem? (i := 84) rfl, rfl⟩
set_option maxRecDepth 100000 in
theorem co_objectInit : Cond.code objectInit ⟨#[0xb1]⟩ 1 none ∈ gd_tbl := List.mem_filter.mpr ⟨List.mem_of_getElem? (i := 85) rfl, rfl⟩
end
section
/-! THROWING: contracts of methods that return or throw, the throw of a new exception, the call whose exception is caught. -/
def XZ (O f d : String) (A : Nat → Prop) (U : State) (H : Heap) : Prop := ∃ (c : ClassId) (k : Class) (i : Nat) (fd : Field) (a : Nat) (cell : Cell) (v : Value), U.vm.findClass O = some c ∧ U.fieldFound? O f d = some (c, k, i, fd) ∧ fd.isStatic = true ∧ k.statics = some a ∧ H[a]? = some cell ∧ cell.vm.isStatics = true ∧ cell.cls = c ∧ fd.slot < cell.slots.size ∧ k.staticTypes[fd.slot]? = some fd.type ∧ cell.slots[fd.slot]? = some v ∧ (v = .null ∨ ∃ q, v = .ref q) ∧ ¬ A a
section XZs
variable {O f d : String} {A B : Nat → Prop} {u U s : State} {H H1 : Heap} {args : Array Value}
theorem XZ.moved (hvm : u.vm.Alike U.vm) (h : XZ O f d A u H) : XZ O f d A U H := by
  obtain ⟨c, k, i, fd, a, cell, v, h1, h2, h3, h4, h5, h6, h7, h8, h9, h10, h11, h12⟩ := h
  obtain ⟨k', hi', he⟩ := State.fieldFound?_setVm hvm h2
  exact ⟨c, k', i, fd, a, cell, v, by rw [hvm.findClass]; exact h1, hi', h3, by rw [he]; exact h4, h5, h6, h7, h8, by rw [he]; exact h9, h10, h11, h12⟩
theorem XZ.kept (h : XZ O f d A U H) (hq : ∀ a : Nat, a < H.size → ¬ A a → H1[a]? = H[a]?) : XZ O f d A U H1 := by
  obtain ⟨c, k, i, fd, a, cell, v, h1, h2, h3, h4, h5, h6, h7, h8, h9, h10, h11, h12⟩ := h
  exact ⟨c, k, i, fd, a, cell, v, h1, h2, h3, h4, by rw [hq a (Array.getElem?_eq_some_iff.mp h5).1 h12]; exact h5, h6, h7, h8, h9, h10, h11, h12⟩
theorem XZ.narrow (h : XZ O f d A U H) (hAB : ∀ q, B q → A q) : XZ O f d B U H := by
  obtain ⟨c, k, i, fd, a, cell, v, h1, h2, h3, h4, h5, h6, h7, h8, h9, h10, h11, h12⟩ := h
  exact ⟨c, k, i, fd, a, cell, v, h1, h2, h3, h4, h5, h6, h7, h8, h9, h10, h11, fun z => h12 (hAB a z)⟩
theorem XZ.lays (h : XZ O f d A U U.heap) : (Cond.laysStatic O f d).before args U = true := by
  obtain ⟨c, k, i, fd, a, cell, v, h1, h2, h3, h4, h5, h6, h7, h8, h9, h10, h11, h12⟩ := h
  simp [Cond.before, Cond.holds, Cond.value, h1, h2, h3, h4, h5, h6, h7, h8, h9]
theorem XZ.isRef (h : XZ O f d A U U.heap) : (Cond.isRef (.static O f d)).before args U = true := by
  obtain ⟨c, k, i, fd, a, cell, v, h1, h2, h3, h4, h5, h6, h7, h8, h9, h10, h11, h12⟩ := h
  have he : (Term.static O f d).eval args U none [] U = some v := by simp [Term.eval, State.fieldNamed?, h2, h3, h4, h5, h6, h10]
  simp only [Cond.before, Cond.holds, Cond.value, he]
  rcases h11 with e | ⟨x, e⟩ <;> simp [e]
theorem XZ.of (hl : (Cond.laysStatic O f d).before args s = true) (hr : (Cond.isRef (.static O f d)).before args s = true) (hA : ∀ a : Nat, a < s.heap.size → ¬ A a) : XZ O f d A s s.heap := by
  obtain ⟨c, k, i, fd, a, cell, hc, hf, hst, hsta, hcell, hiss, hcls, hlt, hty⟩ := Cond.laysStatic_spec hl
  have hv : cell.slots[fd.slot]? = some cell.slots[fd.slot] := Array.getElem?_eq_getElem hlt
  refine ⟨c, k, i, fd, a, cell, cell.slots[fd.slot], hc, hf, hst, hsta, hcell, hiss, hcls, hlt, hty, hv, ?_, hA a (Array.getElem?_eq_some_iff.mp hcell).1⟩
  have he : (Term.static O f d).eval args s none [] s = some cell.slots[fd.slot] := by simp [Term.eval, State.fieldNamed?, hf, hst, hsta, hcell, hiss, hv]
  simp only [Cond.before, Cond.holds, Cond.value, he] at hr
  cases hz : cell.slots[fd.slot] <;> simp [hz] at hr ⊢
end XZs
def XU (st : List (Nat × String)) (ad : Nat → Nat) (A : Nat → Prop) (U : State) (H : Heap) : Prop := XZ Bundle.tN "UNASSIGNED_STACK" Bundle.steD A U H ∧ XZ Bundle.tN "SUPPRESSED_SENTINEL" Bundle.listD A U H ∧ (∀ q ∈ st, vk_R "CharOutlines" q.1 q.2 (ad q.1) U) ∧ va_Nc "java/lang/IllegalArgumentException" "java/lang/IndexOutOfBoundsException" U
theorem XU.warm {st : List (Nat × String)} {ad : Nat → Nat} {A : Nat → Prop} {s U : State} {H : Heap} (hW : s.WarmedH U.vm) (h : XU st ad A s H) : XU st ad A U H := ⟨h.1.moved hW.alike, h.2.1.moved hW.alike, fun q hq => (h.2.2.1 q hq).warm hW, h.2.2.2.moved hW.alike⟩
theorem XU.kept {st : List (Nat × String)} {ad : Nat → Nat} {A : Nat → Prop} {U : State} {H H1 : Heap} (h : XU st ad A U H) (hq : ∀ a : Nat, a < H.size → ¬ A a → H1[a]? = H[a]?) : XU st ad A U H1 := ⟨h.1.kept hq, h.2.1.kept hq, h.2.2⟩
theorem XU.narrow {st : List (Nat × String)} {ad : Nat → Nat} {A B : Nat → Prop} {U : State} {H : Heap} (h : XU st ad A U H) (hAB : ∀ q, B q → A q) : XU st ad B U H := ⟨h.1.narrow hAB, h.2.1.narrow hAB, h.2.2⟩
theorem XU.same {st : List (Nat × String)} {ad : Nat → Nat} {A : Nat → Prop} {s U : State} {H : Heap} (hv : U.vm = s.vm) (h : XU st ad A s H) : XU st ad A U H := ⟨h.1.moved (by rw [hv]; exact Vm.Alike.refl _), h.2.1.moved (by rw [hv]; exact Vm.Alike.refl _), fun q hq => (h.2.2.1 q hq).same hv, h.2.2.2.moved (by rw [hv]; exact Vm.Alike.refl _)⟩
def TrPX (D : va_G) (cl : List vw_C) (tys : List (ClassId × FieldType)) (NX : List Cond) (st : List (Nat × String)) (ad : Nat → Nat) (av : List Value) (wc : va_W) : Array Value → State → Prop := fun v U => TrP D cl tys NX av wc v U ∧ XU st ad (va_A wc U.heap.size) U U.heap
def TxQ (D : va_G) (cl : List vw_C) (wc : va_W) (post : Option Value → va_W → Nat → Nat → Prop) (px : String → Prop) : Array Value → State → Outcome → State → Prop := fun a st o t =>
  (∃ (L : List Loc) (k n : Nat), FrameEnd st o t L k n ∧ TrQ D cl wc post a st o t L k n) ∨
  ∃ (x : Addr) (X : String) (ce : Cell), o = .threw x ∧ st.WarmedH t.vm ∧ st.sameButNew ({ t with vm := st.vm } : State) [] 1 6 ∧ px X ∧ t.heap[x]? = some ce ∧ st.vm.findClass X = some ce.cls ∧ ce.vm = .none
def TrX (l : Launch) (D : va_G) (cl : List vw_C) (tys : List (ClassId × FieldType)) (Ts NX : List Cond) (st : List (Nat × String)) (ad : Nat → Nat) (y : MethodName) (bytes : ByteArray) (maxL : Nat) (ret : Option FieldType) (rm : Room) (av : List Value) (wc : va_W) (post : Option Value → va_W → Nat → Nat → Prop) (px : String → Prop) : Prop :=
  MetFree l y (headSpec (Cond.code y bytes maxL ret :: Ts) rm) (TrPX D cl tys NX st ad av wc) (fun _ _ _ _ _ => True) (TxQ D cl wc post px)
def MQX (below : List Frame) (D : va_G) (cl : List vw_C) (A : Nat → Prop) (post : Option Value → va_W → Nat → Nat → Prop) (px : String → Prop) (s : State) : State → Prop := fun t =>
  MQT below D cl A post s t ∨ ∃ (x : Addr) (X : String) (ce : Cell), t.status = .running ∧ Ended t below (.threw x) ∧ s.WarmedH t.vm ∧ s.sameButNew ({ t with vm := s.vm } : State) [] 1 6 ∧ px X ∧ t.heap[x]? = some ce ∧ s.vm.findClass X = some ce.cls ∧ ce.vm = .none
theorem TrX.intro {l : Launch} {D : va_G} {cl : List vw_C} {tys : List (ClassId × FieldType)} {Ts NX : List Cond} {st : List (Nat × String)} {ad : Nat → Nat} {y : MethodName} {bytes : ByteArray} {maxL : Nat} {ret : Option FieldType} {rm : Room} {av : List Value} {wc : va_W} {post : Option Value → va_W → Nat → Nat → Prop} {px : String → Prop}
    (hy : plainFor y = true) (hN : NXok NX) (hsz : (lg_sl av).length ≤ maxL)
    (body : ∀ (p : Program) (e : Env) (s : State) (m : MethodId) (args : Array Value) (below : List Frame) (meth : Method) (c : Code) (A : Nat → Prop) (ls : Array Slot),
      p.tables.exec = Jvm.exec → c.code = bytes → c.maxLocals = maxL → s.vm.findClass y.cls = some m.cls → (∀ w ∈ Ts, w.before args s = true) → meth.sig.returnType = ret → meth.locks = false → meth.name = y.name →
      Sit D cl tys NX s A → va_P D cl wc s.heap → va_D A wc → va_S A s.heap s.heap [] → lv_has ls maxL (lv_args 0 av) → XU st ad A s s.heap → c.exceptionTable.isEmpty = true →
      W p l e rm s m args below meth c s.heap [] 0 0 (MQX below D cl A post px s) (F0 m 0 ls [])) : TrX l D cl tys Ts NX st ad y bytes maxL ret rm av wc post px := by
  unfold TrX
  refine MetFree.of_bodySF (code := bytes) (maxLocals := maxL) (ret := ret) hy ?_ ?_
  · intro args s m h hn
    obtain ⟨meth, c, h1, h2, h3, h4, h5, h6, -, -⟩ := Cond.code_spec hn (atoms_spec (ws := Cond.code y bytes maxL ret :: Ts) h _ List.mem_cons_self)
    exact ⟨meth, c, h1, h2, h3, h4, h5, h6⟩
  · intro p e s m args below meth c s₁ B hml hP _
    obtain ⟨⟨rfl, hP, hK, hD0, hNs⟩, hX⟩ := hP
    have hh0 : s₁.heap = s.heap := by rw [B.state]; rfl
    have hts := atoms_spec (ws := Cond.code y bytes maxL ret :: Ts) B.pre
    have hb := body p e s m av.toArray below meth c (va_A wc s.heap.size) _ B.exec B.bytes hml (findClass_of_methodNamed B.named) (fun w hw => hts w (List.mem_cons_of_mem _ hw)) B.returns B.notSynchronized (name_of_methodNamed B.named B.method).1
      ⟨hK, hNs, hN, fun q h => Or.inr h⟩ hP (hD0.self (sz := s.heap.size)) va_S.rf (lv_entry av (n := maxL) hsz) hX (B.noHandlers (hts _ List.mem_cons_self))
    rw [← lg_entry_eq] at hb
    obtain ⟨t, a1, hq⟩ := hb s₁ hh0 (Stand.of_body B)
    rcases hq with ⟨v, w1, L, k, n, b1, b2, b3, b4, b5, b6, b7, b8⟩ | ⟨x, X, ce, b1, b2, b3, b4, b5, b6, b7, b8⟩
    · exact ⟨t, .returned v, a1, b1, b2, Or.inl ⟨L, k, n, b3, v, w1, rfl, b4, b5, b6, b7, b8⟩⟩
    · exact ⟨t, .threw x, a1, b1, b2, Or.inr ⟨x, X, ce, rfl, b3, b4, b5, b6, b7, b8⟩⟩
section XT
variable {p : Program} {l : Launch} {e : Env} {R : Room} {s : State} {m : MethodId} {args : Array Value} {below : List Frame} {meth : Method} {c : Code} {H : Heap} {locs : List Loc} {cells slots : Nat} {Q : State → Prop}
variable {cc : ByteArray} {pc : Nat} {ls : Array Slot} {D : va_G} {cl : List vw_C} {A : Nat → Prop} {post : Option Value → va_W → Nat → Nat → Prop} {px : String → Prop}
theorem x_ret {g : JFrame} (h : W p l e R s m args below meth c H locs cells slots (MQT below D cl A post s) g) : W p l e R s m args below meth c H locs cells slots (MQX below D cl A post px s) g := by
  intro T hT X
  obtain ⟨t, a, b⟩ := h T hT X
  exact ⟨t, a, Or.inl b⟩
/-- throw new cls(text) -/
theorem x_throw (hfl : l.flags = pinnedFlags ++ [noTraceFlag]) (hx : p.tables.exec = Jvm.exec) (hb : c.code = cc) (hml : c.maxLocals = ls.size) (hlk : meth.locks = false) {own cls tx : String} {names : List String} {ia ib ic q : Nat} (hown : s.vm.findClass own = some m.cls)
    (hcls : Bundle.fit cls = true) (hnames : ∀ n ∈ names, Bundle.fit n = true) (hat : ∀ a ∈ Bundle.ownAtoms own ic cls names, a.before args s = true) (hcl : (Cond.classLink own ia cls).before args s = true) (hini : (Cond.initialized cls).before args s = true) (hst : vk_R own ib tx q s)
    (hno : c.exceptionTable.isEmpty = true) (hRf : names.length + 3 < R.frames) (hRl : 1 + (13 * (names.length + 1) + 42) ≤ R.locals) (hRc : 1 ≤ R.cells) (hRs : 6 ≤ R.slots) (hpx : px cls)
    (d0 : decode cc pc = .ok (.new ia, 3)) (d3 : decode cc (pc + 3) = .ok (.dup, 1)) (d4 : decode cc (pc + 3 + 1) = .ok (.ldc ib, 2)) (d6 : decode cc (pc + 3 + 1 + 2) = .ok (.invokespecial ic, 3)) (d9 : decode cc (pc + 3 + 1 + 2 + 3) = .ok (.athrow, 1)) :
    W p l e R s m args below meth c s.heap [] 0 0 (MQX below D cl A post px s) (F0 m pc ls []) := by
  have hins : (Cond.instantiable cls 6).before args s = true := hat _ (by simp [Bundle.ownAtoms])
  refine W.newc (n := 6) hx hb hown hcl hins hini rfl d0 (by omega) (by omega) (fun cC kC h1 h2 h3 h4 => ?_)
  refine W.eq (g2 := F0 m (pc + 3) ls [.ref s.heap.size]) rfl ?_
  refine lv_dup hx hb d3 rfl ?_
  refine va_ldcS hx hb hown hst d4 ?_
  intro T hT X
  have hcell : T.heap[s.heap.size]? = some (freshCell cC kC) := by
    rw [hT]
    simp [freshCell]
  have htr : e.platform.stackTraces = false := Launch.traces_off hfl X.admits
  have hout : ∀ x ∈ c.exceptionTable.toList, covers x (pc + 3 + 1 + 2 + 3) = false := by
    intro x hx
    have : c.exceptionTable = #[] := Array.isEmpty_iff.mp hno
    rw [this] at hx
    cases hx
  obtain ⟨U, u1, u2, u3, u4, u5, ce, u6, u7⟩ := X.ctorThrowS hx htr (own := own) (cls := cls) (names := names) (ic := ic) hown hcls hnames hat (fun x hx => by cases hx) h1 h2 hcell (Nat.le_refl _) (msg := .ref q) rfl
    (g := F0 m (pc + 3 + 1 + 2) ls [.ref q, .ref s.heap.size, .ref s.heap.size]) rfl hml.symm rfl rfl (rest := []) rfl (by rw [hb]; exact d6) (by rw [hb]; exact d9) hout hRf (by show 2 * 0 + _ + _ ≤ _; simp [Value.category]; omega) (hlocks := hlk)
  exact ⟨U, u1, Or.inr ⟨s.heap.size, cls, ce, u2, u3, u4, by simpa using u5, hpx, u6, u7.cls, u7.vm⟩⟩
end XT
end
section
/-! CATCHING: the search of a handler whose classes may have to be linked; the call whose exception is caught; methods with a table of handlers. -/
theorem cx_row {e : Env} {S : State} {f : JFrame} {a : Addr} {x : ExceptionTableEntry} {t : List ExceptionTableEntry} {c : ClassId} {cell : Cell} (hx : covers x f.pc = true) (h0 : x.catchType ≠ 0)
    (hl : S.vm.ClassLinks e.platform f.method.cls x.catchType c) (hcell : S.heap[a]? = some cell) (hobj : ∀ k, cell.vm ≠ .statics k) (hk : ∃ k, S.vm.classes[cell.cls]? = some k) (hc : ∃ k, S.vm.classes[c]? = some k)
    {Q : Handler → Pre} {E : CtlPost} {d : Bool} {acts : List Action} :
    wp (findHandler.go f a (x :: t)) Q E e d acts S ↔ if S.vm.assignable cell.cls c = true then Q (.found x.handlerPc) d acts (S.setVm (S.vm.noted f.method.cls x.catchType (.cls c))) else wp (findHandler.go f a t) Q E e d acts (S.setVm (S.vm.noted f.method.cls x.catchType (.cls c))) := by
  simp only [covers] at hx
  obtain ⟨ha, ht⟩ := (resolveClass_links e.toSetting hl).op (op := VmOp.resolveClass f.method.cls x.catchType) rfl
  have hal : S.vm.Alike (S.vm.noted f.method.cls x.catchType (.cls c)) := (Vm.Alike.refl S.vm).noted _ _ _
  obtain ⟨k1, hk1⟩ := hk
  obtain ⟨k2, hk2⟩ := hc
  obtain ⟨k1', hk1', -⟩ := hal.2.2 _ _ hk1
  obtain ⟨k2', hk2', -⟩ := hal.2.2 _ _ hk2
  cases hfit : S.vm.assignable cell.cls c
  · have hfit' : (S.vm.noted f.method.cls x.catchType (.cls c)).assignable cell.cls c = false := by rw [hal.assignable]; exact hfit
    simp [findHandler.go, hx, h0, ha, ht, hcell, hobj, hk1', hk2', hfit', VmOp.dirties, VmOp.acts]
  · have hfit' : (S.vm.noted f.method.cls x.catchType (.cls c)).assignable cell.cls c = true := by rw [hal.assignable]; exact hfit
    simp [findHandler.go, hx, h0, ha, ht, hcell, hobj, hk1', hk2', hfit', VmOp.dirties, VmOp.acts]
/-- a row of the table that links, at the method's start, to the name tn -/
def CxL (pl : Platform) (s : State) (d : ClassId) (y : ExceptionTableEntry) (c : ClassId) : Prop := y.catchType ≠ 0 ∧ s.vm.ClassLinks pl d y.catchType c
theorem cx_through {e : Env} {s : State} {f : JFrame} {a : Addr} {cell : Cell} (hobj : ∀ k, cell.vm ≠ .statics k) (hk0 : ∃ k, s.vm.classes[cell.cls]? = some k)
    (x : ExceptionTableEntry) (rest : List ExceptionTableEntry) (hx : covers x f.pc = true) {cx : ClassId} (hend : CxL e.platform s f.method.cls x cx) (hfit : s.vm.assignable cell.cls cx = true) :
    ∀ (pre : List ExceptionTableEntry) (S : State), s.WarmedH S.vm → S.heap[a]? = some cell → (∀ y ∈ pre, covers y f.pc = true ∧ ∃ c, CxL e.platform s f.method.cls y c ∧ s.vm.assignable cell.cls c = false) →
      ∃ vm', s.WarmedH vm' ∧ ∀ (Q : Handler → Pre) (E : CtlPost) (d : Bool) (acts : List Action), wp (findHandler.go f a (pre ++ x :: rest)) Q E e d acts S ↔ Q (.found x.handlerPc) d acts (S.setVm vm') := by
  obtain ⟨k0, hk0⟩ := hk0
  intro pre
  induction pre with
  | nil =>
    intro S hW hcell _
    obtain ⟨k0', hk0', -⟩ := hW.alike.2.2 _ _ hk0
    obtain ⟨h0, hl⟩ := hend
    obtain ⟨dk, _, _, kt, hd, _, _, _, _, hkt, _, hopen⟩ := hl.here
    obtain ⟨kt', hkt', -⟩ := hW.alike.2.2 _ _ hkt
    exact ⟨_, hW.noted hd hopen (State.rightAt_cls hl), fun Q E d acts => by
      rw [List.nil_append, cx_row hx h0 (hW.classLinks hl) hcell hobj ⟨k0', hk0'⟩ ⟨kt', hkt'⟩, if_pos (by rw [hW.alike.assignable]; exact hfit)]⟩
  | cons y ys ih =>
    intro S hW hcell hpass
    obtain ⟨k0', hk0', -⟩ := hW.alike.2.2 _ _ hk0
    obtain ⟨hcov, c, ⟨h0, hl⟩, hno⟩ := hpass y List.mem_cons_self
    obtain ⟨dk, _, _, kt, hd, _, _, _, _, hkt, _, hopen⟩ := hl.here
    obtain ⟨kt', hkt', -⟩ := hW.alike.2.2 _ _ hkt
    have hW2 := hW.noted hd hopen (State.rightAt_cls hl)
    obtain ⟨vm', hW3, hgo⟩ := ih (S.setVm (S.vm.noted f.method.cls y.catchType (.cls c))) hW2 hcell (fun z hz => hpass z (List.mem_cons_of_mem _ hz))
    refine ⟨vm', hW3, fun Q E d acts => ?_⟩
    rw [List.cons_append, cx_row hcov h0 (hW.classLinks hl) hcell hobj ⟨k0', hk0'⟩ ⟨kt', hkt'⟩, if_neg (by rw [hW.alike.assignable, hno]; decide), hgo]
    rfl
theorem cx_caught {tb : Tables} {e : Env} {S target : State} {g : JFrame} {c : Code} {below : List Frame} {a : Addr} (h : At S g.method c below) {pc : Nat} {vm' : Vm}
    (hfind : ∀ (Q : Handler → Pre) (E : CtlPost) (d : Bool) (acts : List Action), wp (findHandler g a) Q E e d acts ((S.setTop g).pushFrame (.throwing a)) ↔ Q (.found pc) d acts (((S.setTop g).pushFrame (.throwing a)).setVm vm'))
    (hrest : Steps tb e below ((S.setVm vm').setTop { g with pc := pc, stack := [.ref a] }) target) :
    Steps tb e below ((S.setTop g).pushFrame (.throwing a)) target := by
  obtain ⟨hgo, hw⟩ := h.throwing a
  refine Steps.head hgo hw ?_
  have hstep : (stepThrowing e ((S.setTop g).pushFrame (.throwing a)) a (.java g :: S.frames.tail)).1 = ((((S.setTop g).pushFrame (.throwing a)).setVm vm').setFrames (.java { g with pc := pc, stack := [.ref a] } :: S.frames.tail)) := by
    simp only [stepThrowing, searchFrame, vmDo]
    generalize hr : Sem.go _ e false [] ((S.setTop g).pushFrame (.throwing a)) = res
    obtain ⟨as, rfl, ha⟩ := Sem.eq_ok_of hr (a := Handler.found pc) (s' := ((S.setTop g).pushFrame (.throwing a)).setVm vm') (acts' := []) (by simp [hfind _ _ _ _])
    rfl
  rw [stepThread_throwing (frames_entered h.top _), hstep]
  obtain ⟨g₀, hg⟩ := Option.isSome_iff_exists.mp h.top
  obtain ⟨r, hr⟩ := State.topJava?_eq_some.mp hg
  have hr' : (S.setVm vm').frames = .java g₀ :: r := hr
  have key : ∀ (u : State) (vm' : Vm) (F G : List Frame), ((u.setFrames F).setVm vm').setFrames G = (u.setVm vm').setFrames G := fun u vm' F G => by
    have h1 : (u.setFrames F).setVm vm' = (u.setVm vm').setFrames F := rfl
    rw [h1, State.setFrames_setFrames]
  rw [State.setTop_of_frames _ hr'] at hrest
  rw [hr, List.tail_cons, State.pushFrame, key, State.setTop_of_frames _ hr, key]
  exact hrest
/-- the rows of a table of handlers, for the pc of a call: an exception of the kind X is caught at hp -/
def Hnd (pl : Platform) (s : State) (d : ClassId) (c : Code) (pc : Nat) (X : String) (hp : Nat) : Prop :=
  ∃ (pre : List ExceptionTableEntry) (x : ExceptionTableEntry) (rest : List ExceptionTableEntry) (cX cx : ClassId), c.exceptionTable.toList = pre ++ x :: rest ∧ covers x pc = true ∧ x.handlerPc = hp ∧ s.vm.findClass X = some cX ∧ CxL pl s d x cx ∧ s.vm.assignable cX cx = true ∧
    ∀ y ∈ pre, covers y pc = true ∧ ∃ c, CxL pl s d y c ∧ s.vm.assignable cX c = false
/-- the way back of a call that returned -/
theorem x_back {p : Program} {l : Launch} {e : Env} {R : Room} {s : State} {m : MethodId} {args : Array Value} {below : List Frame} {meth : Method} {c : Code} {U : State} {locs : List Loc} {cells slots : Nat} (X : Stand p l e R s m args below meth c U locs cells slots) {g : JFrame} (hg : g.method = m) {ig : Instr} {len : Nat} (hdg : decode c.code g.pc = .ok (ig, len))
    {mk : MethodId} {a : Array Value} {s₂ : State} {v : Option Value} {L : List Loc} {k n : Nat} (hend : Ended s₂ (.java g :: U.frames.tail) (.returned v)) (hW₂ : (U.calling g mk a).WarmedH s₂.vm) (hsame : (U.calling g mk a).sameButNew ({ s₂ with vm := (U.calling g mk a).vm } : State) L k n) :
    ∃ T' : State, Stand p l e R s m args below meth c T' (locs ++ L) (cells + k) (slots + n) ∧ s₂ = T'.setTop { g with pc := g.pc + len, stack := v.toList ++ g.stack } ∧ T'.heap = s₂.heap ∧ T'.vm = s₂.vm := by
  have h : At U g.method c below := by rw [hg]; exact X.here
  obtain ⟨e2, q2, q3, q4, q5, q6⟩ := hsame
  have e3 : s₂ = ({ (U.calling g mk a).setFrames s₂.frames with heap := s₂.heap, slotsUsed := s₂.slotsUsed } : State).setVm s₂.vm := by
    have : s₂ = ({ s₂ with vm := (U.calling g mk a).vm } : State).setVm s₂.vm := rfl
    rw [e2] at this
    exact this
  obtain ⟨c₂, i₂, len₂, hc₂, hd₂, hf₂⟩ := hend
  have hW' : U.WarmedH s₂.vm := hW₂
  have hcc : c₂ = c := by
    have h1 : s₂.code? g.method = U.code? g.method := by
      rw [State.code?_eq, State.code?_eq, hW'.alike.method?]
    exact Option.some.inj (hc₂.symm.trans (h1.trans h.code))
  subst hcc
  have hlen : len₂ = len := by rw [hdg] at hd₂; cases hd₂; rfl
  subst hlen
  obtain ⟨g₀, hg0⟩ := Option.isSome_iff_exists.mp h.top
  obtain ⟨r, hr⟩ := State.topJava?_eq_some.mp hg0
  have hs₂ : s₂ = (({ U with heap := s₂.heap, slotsUsed := s₂.slotsUsed } : State).setVm s₂.vm).setTop { g with pc := g.pc + len₂, stack := v.toList ++ g.stack } := by
    have hr' : (({ U with heap := s₂.heap, slotsUsed := s₂.slotsUsed } : State).setVm s₂.vm).frames = .java g₀ :: r := hr
    refine e3.trans ?_
    rw [hf₂, State.calling_eq h.top, State.setFrames_setFrames, State.setTop_of_frames _ hr', hr]
    rfl
  have hsame : U.sameButNew ({ U with heap := s₂.heap, slotsUsed := s₂.slotsUsed } : State) L k n := by
    refine ⟨?_, q2, q3, q4, q5, q6⟩
    obtain ⟨t, ht, -⟩ := State.frames_cons hr
    show ({ U with heap := s₂.heap, slotsUsed := s₂.slotsUsed } : State) = { U.setFrames U.frames with heap := s₂.heap, slotsUsed := s₂.slotsUsed }
    rw [State.setFrames_self ht]
  subst hg
  exact ⟨({ U with heap := s₂.heap, slotsUsed := s₂.slotsUsed } : State).setVm s₂.vm,
    ⟨X.admits, X.cas, X.clock, X.frames, X.room, X.hears, X.method, X.code, (X.here.setHeapUsed s₂.heap s₂.slotsUsed).setVm hW'.alike, X.tail, State.WarmedH.trans X.warmed hW', X.limits, X.bytes, X.same.trans (hsame.setVm s.vm)⟩, hs₂, rfl, rfl⟩
section XC
variable {p : Program} {l : Launch} {e : Env} {R : Room} {s : State} {m : MethodId} {args : Array Value} {below : List Frame} {meth : Method} {c : Code} {H : Heap} {locs : List Loc} {cells slots : Nat} {Q : State → Prop}
variable {y : MethodName} {bytes cc : ByteArray} {maxL nL n index : Nat} {ret : Option FieldType} {rm : Room} {Ts NX : List Cond} {own C : String} {b : Addr} {As rest st0 : List Value} {pc : Nat} {ls : Array Slot}
variable {D : va_G} {cl : List vw_C} {tys : List (ClassId × FieldType)} {ws wc wr : va_W} {A0 : Nat → Prop} {post : Option Value → va_W → Nat → Nat → Prop} {px : String → Prop} {st : List (Nat × String)} {ad : Nat → Nat}
theorem same_cells {S t : State} {k n : Nat} (h : S.sameButNew t [] k n) : ∀ q : Nat, q < S.heap.size → t.heap[q]? = S.heap[q]? := by
  intro q hq
  obtain ⟨-, -, -, -, -, h6⟩ := h
  have hc : S.heap[q]? = some S.heap[q] := Array.getElem?_eq_getElem hq
  obtain ⟨c', h1, h2, h3, h4⟩ := h6 q _ hc
  rw [h1, hc]
  have : c'.slots = S.heap[q].slots := by
    apply Array.ext_getElem?
    intro i
    exact h4 i (by simp)
  rw [h2, this]
theorem x_callV (S : CallFix p m c cc nL s args Ts own) (hG : GoodIn Ts Ts) (hM : TrX l D cl tys Ts NX st ad y bytes maxL ret rm (.ref b :: As) wc post px) (hc : CalV Ts C y bytes maxL ret n) (hl : Cond.methodLink own index y ∈ Ts) (hR : rm.frames + 1 ≤ R.frames ∧ 8 + (maxL + 11) + rm.locals ≤ R.locals) (hZ : Sit D cl tys NX s A0) (hXU : XU st ad A0 s s.heap) (hP : va_P D cl ws H) (hD : va_D A0 ws) (hS : va_S A0 s.heap H locs)
    {isC isR : List Nat} (hC : Cut ws wc wr isC isR) (q0 : Nat) {ci : Nat} {fs : List Value} {qc : vw_C} (hci : cl[ci]? = some qc) (hcn : qc.1 = C) (hq0 : ws[q0]? = some (b, .inr (ci, fs)))
    (hn : As.length = n) (hsize : ls.size = nL) (hst : st0 = As.reverse ++ .ref b :: rest) (hW : (rest.map fun v => v.category).sum ≤ 8) (hdg : decode cc pc = .ok (.invokevirtual index, 3)) (hf : cells + rm.cells ≤ R.cells ∧ slots + rm.slots ≤ R.slots)
    (hp : String → Nat) (hh : ∀ X, px X → Hnd e.platform s m.cls c pc X (hp X))
    (kr : ∀ (v : Option Value) (w1 : va_W) (k n : Nat) (H1 : Heap) (locs1 : List Loc), post v w1 k n → va_P D cl (wr ++ w1) H1 → va_D A0 (wr ++ w1) → va_S A0 s.heap H1 locs1 → W p l e R s m args below meth c H1 locs1 (cells + k) (slots + n) Q (F0 m (pc + 3) ls (v.toList ++ rest)))
    (kx : ∀ (X : String) (x : Addr) (H1 : Heap), px X → va_P D cl ws H1 → va_S A0 s.heap H1 locs → W p l e R s m args below meth c H1 locs (cells + 1) (slots + 6) Q (F0 m (hp X) ls [.ref x])) :
    W p l e R s m args below meth c H locs cells slots Q (F0 m pc ls st0) := by
  subst hcn
  obtain ⟨hx, hb, hml, ho, ht⟩ := S
  intro T hT X
  obtain ⟨cellB, hcB, hoB, hclB⟩ := va_recv hZ.1 hP hci hq0
  obtain ⟨mk, methM, hnamed, hmethM, hstM, habM⟩ := Cond.instanceMethod_spec (ht _ hc.2.1)
  obtain ⟨methM', cM, hmethM', -, -, -, -, -, -, hsigM⟩ := Cond.code_spec hnamed (ht _ hc.1.1)
  cases hmethM.symm.trans hmethM'
  obtain ⟨c2, r2, m2, q1, q2, q3, q4, kP, hkP, hkPi⟩ := Cond.selects_spec (ht _ hc.2.2)
  cases hclB.symm.trans q1
  cases (State.methodFound?_of_named hnamed hc.1.2.2.1).symm.trans q2
  cases hnamed.symm.trans q3
  have hselP : selectMethod e.platform s.vm cellB.cls mk = .method mk := by rw [Launch.admits_selectMethod X.admits]; exact q4
  obtain ⟨vm₁, X₁, hstep₁⟩ := X.invokevirtual hx ho (ht _ hl) hnamed hmethM hstM hkP hkPi hc.1.2.2.1 (a := b) (cell := cellB) (by rw [hT]; exact hcB)
    (fun z h => by rw [h] at hoB; cases hoB) hselP hmethM habM hkP hkPi (g := F0 m pc ls st0) rfl (argsL := As) (rest := rest) (hn.trans (hc.1.len _ hsigM)) hst (by rw [hb]; exact hdg)
  -- the callee, from its contract
  have hdg' : decode c.code pc = .ok (.invokevirtual index, 3) := by rw [hb]; exact hdg
  have hn1 : (T.setVm vm₁).methodNamed? y = some mk := X₁.named hnamed
  have hws : ∀ w ∈ (Cond.code y bytes maxL ret :: Ts), w.before (Value.ref b :: As).toArray (T.setVm vm₁) = true := by
    intro w hw
    rcases List.mem_cons.mp hw with rfl | hw
    · exact pay_in ht hG _ hc.1.1 _ _ X₁.warmed
    · exact pay_in ht hG _ hw _ _ X₁.warmed
  obtain ⟨methY, cY, hmY, hcY, -, hlY, -, -, -, -⟩ := Cond.code_spec hn1 (hws _ List.mem_cons_self)
  obtain ⟨kY, hkY, -⟩ := className_of_methodNamed hn1
  have hinitY : kY.init = .initialized := Cond.initialized_spec (findClass_of_methodNamed hn1) hkY (hws _ (List.mem_cons_of_mem _ hc.1.2.1))
  have hAt : At (T.setVm vm₁) m c below := X₁.here
  have happ : (headSpec (Cond.code y bytes maxL ret :: Ts) rm).appliesLoose y e.platform ((T.setVm vm₁).calling (F0 m pc ls rest) mk (Value.ref b :: As).toArray) = true :=
    Spec.appliesLoose_calling (g := F0 m pc ls rest) hAt hdg' hn1 hkY hinitY (X₁.room_calling (g := F0 m pc ls rest) (R' := rm) (hsize.trans hml.symm) hmY hcY hR.1 (by rw [hlY]; have := lv_room (m := m) (pc := pc) (ls := ls) (rest := rest) hW; show 2 * (F0 m pc ls rest).monitorRoom + (rest.map fun v => v.category).sum + (maxL + 11) + rm.locals ≤ R.locals; omega) hf.1 hf.2) (atoms_intro hws)
  have hF : ∀ q, va_A wc H.size q → A0 q := va_free hD hS hZ.2.2.2 isC hC.1
  have hPc0 : TrPX D cl tys NX st ad (.ref b :: As) wc (Value.ref b :: As).toArray (T.setVm vm₁) := by
    refine ⟨TrP.at (av := .ref b :: As) hZ hP hD hC (T.setVm vm₁) hT X₁.warmed, ?_⟩
    have h1 : XU st ad A0 s (T.setVm vm₁).heap := hXU.kept (fun q h1 h2 => by show T.heap[q]? = _; rw [hT]; exact hS.2.1 q h1 h2)
    exact (h1.narrow (fun q hq => hF q (by have e : (T.setVm vm₁).heap = H := hT; rw [e] at hq; exact hq))).warm X₁.warmed
  have hPc : TrPX D cl tys NX st ad (.ref b :: As) wc (Value.ref b :: As).toArray ((T.setVm vm₁).calling (F0 m pc ls rest) mk (Value.ref b :: As).toArray) :=
    ⟨TrP.blind hZ.2.2.1 _ _ _ _ hPc0.1, hPc0.2.same (s := T.setVm vm₁) rfl⟩
  obtain ⟨mid, hmid⟩ := hAt.above
  have hfr : ((T.setVm vm₁).setTop (F0 m pc ls rest)).frames = (.java (F0 m pc ls rest) :: mid) ++ below := by rw [State.frames_setTop' (F0 m pc ls rest) hAt.top, hmid]; rfl
  obtain ⟨o, s₂, hsteps, -, hend, hq⟩ := Steps.callFree hM p X₁.admits X₁.cas X₁.clock (acts := []) hfr happ hPc trivial
  have hh0 : ((T.setVm vm₁).calling (F0 m pc ls rest) mk (Value.ref b :: As).toArray).heap = H := hT
  rw [State.frames_setTop' (F0 m pc ls rest) hAt.top] at hend
  have hq : TxQ D cl wc post px (Value.ref b :: As).toArray ((T.setVm vm₁).calling (F0 m pc ls rest) mk (Value.ref b :: As).toArray) o s₂ := hq
  rcases hq with ⟨L, k, n', hfe, v, w1, rfl, hpost, hP1, hD1, hF1, hL⟩ | ⟨x, XX, ce, rfl, hW₂, hsame, hpx, hce, hcX, hvmX⟩
  · -- it returned
    obtain ⟨-, hW₂, hsame⟩ := hfe
    obtain ⟨T', X', hT', hheap, hvm'⟩ := x_back X₁ (g := F0 m pc ls rest) rfl hdg' hend hW₂ hsame
    have hzz : ((T.setVm vm₁).calling (F0 m pc ls rest) mk (Value.ref b :: As).toArray).heap.size = H.size := by rw [hh0]
    rw [hzz] at hD1 hL
    have hk : ∀ q : Nat, q < H.size → ¬ va_A wc H.size q → T'.heap[q]? = H[q]? := fun q h1 h2 => by
      rw [hheap, ← hh0]
      exact hF1.2 q (by rw [hzz]; exact h1) (by rw [hzz]; exact h2)
    have hz : H.size ≤ T'.heap.size := by rw [hheap, ← hzz]; exact hF1.1
    obtain ⟨hPj, hDj⟩ := va_join (wr := wr) (w1 := w1) hP hD isC isR hC.1 hC.2.1 hC.2.2.2.1 hC.2.2.2.2 hk hF (by rw [hheap]; exact hP1) hD1
    obtain ⟨t2, a1, b1⟩ := kr v w1 k n' T'.heap (locs ++ L) hpost hPj hDj ⟨Nat.le_trans hS.1 hz, fun q h1 h2 => by
        rw [hk q (Nat.lt_of_lt_of_le h1 hS.1) (fun z => h2 (hF q z))]
        exact hS.2.1 q h1 h2, fun q hq => by
        rcases List.mem_append.mp hq with h | h
        · exact hS.2.2 q h
        · exact hF _ (hL q h)⟩ T' rfl X'
    refine ⟨t2, hstep₁ _ (fun acts => ?_), b1⟩
    rw [doInvoke_state]
    exact hsteps.trans (by rw [hT']; exact a1)
  · -- it threw
    rw [X₁.tail] at hend
    obtain ⟨T', X', hW', hB, ht2⟩ := X₁.outOfThrown (g := F0 m pc ls rest) rfl hend hW₂ hsame
    rw [List.append_nil] at X'
    have hold : ∀ q : Nat, q < H.size → T'.heap[q]? = H[q]? := fun q hq => by
      have := same_cells hB q (by show q < T.heap.size; rw [hT]; exact hq)
      rw [← hT]; exact this
    have hT'h : T'.heap = s₂.heap := by rw [ht2]; exact (Stand.throwing_heap T' (F0 m pc ls rest) x).symm
    have hsz : H.size ≤ T'.heap.size := by rw [← hT]; exact hB.2.1
    have hcX1 : s.vm.findClass XX = some ce.cls := by
      have : ((T.setVm vm₁).calling (F0 m pc ls rest) mk (Value.ref b :: As).toArray).vm.findClass XX = some ce.cls := hcX
      rw [← X₁.warmed.alike.findClass]; exact this
    obtain ⟨pre, xr, rest', cX, cx, htab, hcov, hhp, hfX, hlx, hasg, hpass⟩ := hh XX hpx
    cases hfX.symm.trans hcX1
    have hkX : ∃ k, s.vm.classes[ce.cls]? = some k := Vm.classAt_of_findClass hcX1
    have hTh : ((T'.setTop (F0 m pc ls rest)).pushFrame (.throwing x)).heap[x]? = some ce := by rw [← ht2]; exact hce
    have hTv : ((T'.setTop (F0 m pc ls rest)).pushFrame (.throwing x)).vm = T'.vm := Stand.throwing_vm T' (F0 m pc ls rest) x
    obtain ⟨vm', hW3, hgo⟩ := cx_through (e := e) (s := s) (f := F0 m pc ls rest) (a := x) (cell := ce) (fun k hk => by rw [hvmX] at hk; cases hk) hkX xr rest' hcov hlx hasg pre ((T'.setTop (F0 m pc ls rest)).pushFrame (.throwing x)) (by rw [hTv]; exact X'.warmed) hTh hpass
    have hmeth : ((T'.setTop (F0 m pc ls rest)).pushFrame (.throwing x)).vm.method? (F0 m pc ls rest).method = some meth := by rw [hTv]; exact X'.method'
    have hfind : ∀ (Q : Handler → Pre) (E : CtlPost) (d : Bool) (acts : List Action), wp (findHandler (F0 m pc ls rest) x) Q E e d acts ((T'.setTop (F0 m pc ls rest)).pushFrame (.throwing x)) ↔ Q (.found (hp XX)) d acts (((T'.setTop (F0 m pc ls rest)).pushFrame (.throwing x)).setVm vm') := by
      intro Q E d acts
      rw [W.findHandler_eq hmeth X'.code, htab, hgo, hhp]
    obtain ⟨t3, a3, b3⟩ := kx XX x T'.heap hpx (hP.kept (fun k q hk => hold q.1 ((hP k q hk).lt))) ⟨Nat.le_trans hS.1 hsz, fun q h1 h2 => (hold q (Nat.lt_of_lt_of_le h1 hS.1)).trans (hS.2.1 q h1 h2), hS.2.2⟩ (T'.setVm vm') rfl (X'.noted hW3)
    refine ⟨t3, hstep₁ _ (fun acts => ?_), b3⟩
    rw [doInvoke_state]
    refine hsteps.trans ?_
    rw [ht2]
    exact cx_caught X'.here hfind a3
end XC
/-! methods with a table of handlers, that return -/
def TrW (l : Launch) (D : va_G) (cl : List vw_C) (tys : List (ClassId × FieldType)) (Ts NX : List Cond) (st : List (Nat × String)) (ad : Nat → Nat) (y : MethodName) (bytes : ByteArray) (maxL : Nat) (ret : Option FieldType) (hh : List (Nat × Nat × Nat × Nat)) (rm : Room) (av : List Value) (wc : va_W) (post : Option Value → va_W → Nat → Nat → Prop) : Prop :=
  MetK l y (Cond.codeWith y bytes maxL ret hh :: Ts) rm (TrPX D cl tys NX st ad av wc) (TrQ D cl wc post)
theorem tab_of {l : List ExceptionTableEntry} {hh : List (Nat × Nat × Nat × Nat)} (h : l.map (fun h => (h.startPc, h.endPc, h.handlerPc, h.catchType)) = hh) : l = hh.map (fun q => ⟨q.1, q.2.1, q.2.2.1, q.2.2.2⟩) := by
  rw [← h, List.map_map]
  simp [Function.comp_def]
theorem TrW.intro {l : Launch} {D : va_G} {cl : List vw_C} {tys : List (ClassId × FieldType)} {Ts NX : List Cond} {st : List (Nat × String)} {ad : Nat → Nat} {y : MethodName} {bytes : ByteArray} {maxL : Nat} {ret : Option FieldType} {hh : List (Nat × Nat × Nat × Nat)} {rm : Room} {av : List Value} {wc : va_W} {post : Option Value → va_W → Nat → Nat → Prop}
    (hy : plainName y.cls = true) (hN : NXok NX) (hsz : (lg_sl av).length ≤ maxL)
    (body : ∀ (p : Program) (e : Env) (s : State) (m : MethodId) (args : Array Value) (below : List Frame) (meth : Method) (c : Code) (A : Nat → Prop) (ls : Array Slot), l.admits e →
      p.tables.exec = Jvm.exec → c.code = bytes → c.maxLocals = maxL → s.vm.findClass y.cls = some m.cls → (∀ w ∈ Ts, w.before args s = true) → meth.sig.returnType = ret → meth.locks = false → meth.name = y.name →
      Sit D cl tys NX s A → va_P D cl wc s.heap → va_D A wc → va_S A s.heap s.heap [] → lv_has ls maxL (lv_args 0 av) → XU st ad A s s.heap → c.exceptionTable.toList = hh.map (fun q => ⟨q.1, q.2.1, q.2.2.1, q.2.2.2⟩) →
      W p l e rm s m args below meth c s.heap [] 0 0 (MQT below D cl A post s) (F0 m 0 ls [])) : TrW l D cl tys Ts NX st ad y bytes maxL ret hh rm av wc post := by
  unfold TrW MetK
  refine MetFree.of_bodyS (code := bytes) (maxLocals := maxL) (ret := ret) hy ?_ ?_
  · intro args s m h hn
    obtain ⟨m9, meth, c, hn9, h1, h2, h3, h4, -, h5, h6, -⟩ := Cond.codeWith_spec (atoms_spec (ws := Cond.codeWith y bytes maxL ret hh :: Ts) h _ List.mem_cons_self)
    cases hn.symm.trans hn9
    exact ⟨meth, c, h1, h2, h3, h4, h5, h6⟩
  · intro p e s m args below meth c s₁ B hml hP _
    obtain ⟨⟨rfl, hP, hK, hD0, hNs⟩, hX⟩ := hP
    have hh0 : s₁.heap = s.heap := by rw [B.state]; rfl
    have hts := atoms_spec (ws := Cond.codeWith y bytes maxL ret hh :: Ts) B.pre
    obtain ⟨m9, meth9, c9, hn9, hm9, hc9, -, -, htab, -, -, -⟩ := Cond.codeWith_spec (hts _ List.mem_cons_self)
    cases B.named.symm.trans hn9
    cases B.method.symm.trans hm9
    cases (Stand.of_body B).code.symm.trans hc9
    have hb := body p e s m av.toArray below meth c (va_A wc s.heap.size) _ (Stand.of_body B).admits B.exec B.bytes hml (findClass_of_methodNamed B.named) (fun w hw => hts w (List.mem_cons_of_mem _ hw)) B.returns B.notSynchronized (name_of_methodNamed B.named B.method).1
      ⟨hK, hNs, hN, fun q h => Or.inr h⟩ hP (hD0.self (sz := s.heap.size)) va_S.rf (lv_entry av (n := maxL) hsz) hX (tab_of htab)
    rw [← lg_entry_eq] at hb
    obtain ⟨t, a1, v, w1, L, k, n, b1, b2, b3, b4, b5, b6, b7, b8⟩ := hb s₁ hh0 (Stand.of_body B)
    exact ⟨t, .returned v, a1, b1, b2, L, k, n, b3, v, w1, rfl, b4, b5, b6, b7, b8⟩
def CalSW (Ts : List Cond) (y : MethodName) (bytes : ByteArray) (maxL : Nat) (ret : Option FieldType) (hh : List (Nat × Nat × Nat × Nat)) (n : Nat) : Prop :=
  Cond.codeWith y bytes maxL ret hh ∈ Ts ∧ Cond.initialized y.cls ∈ Ts ∧ (y.cls ≠ "java/lang/invoke/MethodHandle" ∧ y.cls ≠ "java/lang/invoke/VarHandle") ∧ (parseMethodDescriptor y.desc).map (fun d => d.parameters.length) = some n ∧ Cond.static y ∈ Ts
section XW
variable {p : Program} {l : Launch} {e : Env} {R : Room} {s : State} {m : MethodId} {args : Array Value} {below : List Frame} {meth : Method} {c : Code} {H : Heap} {locs : List Loc} {cells slots : Nat}
variable {y : MethodName} {bytes cc : ByteArray} {maxL nL n index : Nat} {ret : Option FieldType} {hh : List (Nat × Nat × Nat × Nat)} {rm : Room} {Ts NX : List Cond} {own : String} {As rest st0 : List Value} {pc : Nat} {ls : Array Slot}
variable {D : va_G} {cl : List vw_C} {tys : List (ClassId × FieldType)} {ws wc wr : va_W} {A0 : Nat → Prop} {post : Option Value → va_W → Nat → Nat → Prop} {st : List (Nat × String)} {ad : Nat → Nat}
theorem trSW (S : CallFix p m c cc nL s args Ts own) (hG : GoodIn Ts Ts) (hM : TrW l D cl tys Ts NX st ad y bytes maxL ret hh rm As wc post) (hc : CalSW Ts y bytes maxL ret hh n) (hl : Cond.methodLink own index y ∈ Ts) (hR : rm.frames + 1 ≤ R.frames ∧ 8 + (maxL + 11) + rm.locals ≤ R.locals) (hZ : Sit D cl tys NX s A0) (hXU : XU st ad A0 s s.heap) (hP : va_P D cl ws H) (hD : va_D A0 ws) (hS : va_S A0 s.heap H locs)
    {isC isR : List Nat} (hC : Cut ws wc wr isC isR)
    (hn : As.length = n) (hsize : ls.size = nL) (hst : st0 = As.reverse ++ rest) (hW : (rest.map fun v => v.category).sum ≤ 8) (hdg : decode cc pc = .ok (.invokestatic index, 3)) (hf : cells + rm.cells ≤ R.cells ∧ slots + rm.slots ≤ R.slots) :
    RunK p l e R s m args below meth c H locs cells slots (F0 m pc ls st0) rest (fun st v t L k n => TrQ D cl wc post As.toArray st (.returned v) t L k n) := by
  obtain ⟨hx, hb, hml, ho, ht⟩ := S
  have hF : ∀ q, va_A wc H.size q → A0 q := va_free hD hS hZ.2.2.2 isC hC.1
  have hlen : ∀ sig, parseMethodDescriptor y.desc = some sig → As.length = sig.parameters.length := fun sig hs => by
    have h2 := hc.2.2.2.1
    rw [hs] at h2
    exact hn.trans (Option.some.inj h2).symm
  have hblind : FrameBlind (TrPX D cl tys NX st ad As wc) := fun a U g mk q => ⟨TrP.blind hZ.2.2.1 _ _ _ _ q.1, q.2.same (s := U) rfl⟩
  have hws : ∀ w ∈ (Cond.codeWith y bytes maxL ret hh :: Ts), ∀ (a' : Array Value) (U : State), s.WarmedH U.vm → w.before a' U = true := by
    intro w hw
    rcases List.mem_cons.mp hw with rfl | hw
    · exact pay_in ht hG _ hc.1
    · exact pay_in ht hG _ hw
  have hK : Back l R p e below s args y 3 8 (PreK R rm (TrPX D cl tys NX st ad As wc)) (PostK (TrQ D cl wc post)) := by
    refine va_ofFreeW (hh := hh) (S := headSpec (Cond.codeWith y bytes maxL ret hh :: Ts) rm) (P := TrPX D cl tys NX st ad As wc) (K := fun _ _ _ _ _ => True) (Q := fun a st o t => ∃ L k n, FrameEnd st o t L k n ∧ TrQ D cl wc post a st o t L k n) (bytes := bytes) (maxL := maxL) (ret := ret)
      (E := fun a st o t L k n => TrQ D cl wc post a st o t L k n) hM hR.1 hR.2 ?_ ?_ (fun _ _ _ _ _ _ _ _ _ => trivial) ?_ ?_
    · intro m meth c A a X hp
      exact ⟨atoms_intro fun w hw => hws w hw _ _ X.warmed, hws _ List.mem_cons_self _ _ X.warmed, word_at X.warmed (hG _ hc.2.1).2 (ht _ hc.2.1), hp.1, hp.2.1⟩
    · intro m meth c A a g mk X hp
      exact hblind _ _ _ _ hp.2.2
    · intro a st o t ⟨L, k, n, hF, hq⟩
      exact ⟨L, k, n, hF, hq⟩
    · intro m meth c A a g mk v t L k n X hp hq hF hE
      exact ⟨g, mk, t, L, k, n, rfl, rfl, hE, rfl, rfl, rfl⟩
  intro T hT X
  obtain ⟨mk, methM, cM, hnamed, hmethM, -, -, -, -, -, -, hsigM⟩ := Cond.codeWith_spec (ht _ hc.1)
  have hstatic : methM.isStatic = true := Cond.static_spec hnamed hmethM (ht _ hc.2.2.2.2)
  obtain ⟨kP, hkP, -⟩ := className_of_methodNamed hnamed
  have hinitP : kP.init = .initialized := Cond.initialized_spec (findClass_of_methodNamed hnamed) hkP (ht _ hc.2.1)
  obtain ⟨vm₁, X₁, hstep₁⟩ := X.invokestatic hx ho (ht _ hl) hnamed hmethM hstatic hkP hinitP hc.2.2.1 (g := F0 m pc ls st0) rfl (argsL := As) (rest := rest) (hlen _ hsigM) hst (by rw [hb]; exact hdg)
  have hpre : PreK R rm (TrPX D cl tys NX st ad As wc) ⟨T.setVm vm₁, locs, cells, slots⟩ As.toArray := by
    refine ⟨hf.1, hf.2, TrP.at (av := As) hZ hP hD hC (T.setVm vm₁) hT X₁.warmed, ?_⟩
    have h1 : XU st ad A0 s (T.setVm vm₁).heap := hXU.kept (fun q h1 h2 => by show T.heap[q]? = _; rw [hT]; exact hS.2.1 q h1 h2)
    exact (h1.narrow (fun q hq => hF q (by have e : (T.setVm vm₁).heap = H := hT; rw [e] at hq; exact hq))).warm X₁.warmed
  obtain ⟨v, ⟨U', l2, c2, s2⟩, X', hpost, hsteps⟩ := hK m meth c ⟨T.setVm vm₁, locs, cells, slots⟩ (F0 m pc ls rest) (.invokestatic index) mk As.toArray X₁ rfl (hsize.trans hml.symm) (by rw [hb]; exact hdg) (lv_room hW) (X₁.named hnamed) hpre
  obtain ⟨g', mk', t, L, k, n', e1, e2, hq, h1, h2, h3⟩ := hpost
  dsimp only [Pt.U, Pt.locs, Pt.cells, Pt.slots] at X' e1 e2 h1 h2 h3 hsteps
  subst h1; subst h2; subst h3
  exact ⟨v, (T.setVm vm₁).calling g' mk' As.toArray, t, U', L, k, n', hT, X', e1, e2, hq, fun target h => hstep₁ _ fun acts => by rw [doInvoke_state]; exact hsteps.trans h⟩
end XW
end
