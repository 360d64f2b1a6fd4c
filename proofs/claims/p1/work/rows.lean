section
-- ===== PART A: goes FIRST, ahead of the names: the tables' words, and 'selects' of the private methods out of them =====
/-- a private method of a class that the tables say can be made, by its rows of tables_1 -/
def lw_okq (q : MethodName × Nat) : Prop := (q.1.cls ≠ "java/lang/invoke/MethodHandle" ∧ q.1.cls ≠ "java/lang/invoke/VarHandle") ∧ Cond.instantiable q.1.cls q.2 ∈ tables_1 ∧ Cond.privateMethod q.1 ∈ tables_1 ∧ Cond.instanceMethod q.1 ∈ tables_1
theorem lw_p0 : lw_okq (⟨"CharOutlines$Bytes", "makeRoom", "(I)V"⟩, 2) := ⟨⟨by decide +kernel, by decide +kernel⟩, List.mem_of_getElem? (i := 28) (by decide +kernel), List.mem_of_getElem? (i := 193) (by decide +kernel), List.mem_of_getElem? (i := 194) (by decide +kernel)⟩
theorem lw_p1 : lw_okq (⟨"java/lang/Throwable", "fillInStackTrace", "(I)Ljava/lang/Throwable;"⟩, 6) := ⟨⟨by decide +kernel, by decide +kernel⟩, List.mem_of_getElem? (i := 279) (by decide +kernel), List.mem_of_getElem? (i := 277) (by decide +kernel), List.mem_of_getElem? (i := 278) (by decide +kernel)⟩
theorem lw_p2 : lw_okq (⟨"CharOutlines$Machine", "begin", "(I)V"⟩, 11) := ⟨⟨by decide +kernel, by decide +kernel⟩, List.mem_of_getElem? (i := 42) (by decide +kernel), List.mem_of_getElem? (i := 401) (by decide +kernel), List.mem_of_getElem? (i := 402) (by decide +kernel)⟩
theorem lw_p3 : lw_okq (⟨"CharOutlines$Machine", "readCode", "()I"⟩, 11) := ⟨⟨by decide +kernel, by decide +kernel⟩, List.mem_of_getElem? (i := 42) (by decide +kernel), List.mem_of_getElem? (i := 435) (by decide +kernel), List.mem_of_getElem? (i := 436) (by decide +kernel)⟩
theorem lw_p4 : lw_okq (⟨"CharOutlines$Machine", "perform", "(I)I"⟩, 11) := ⟨⟨by decide +kernel, by decide +kernel⟩, List.mem_of_getElem? (i := 42) (by decide +kernel), List.mem_of_getElem? (i := 451) (by decide +kernel), List.mem_of_getElem? (i := 452) (by decide +kernel)⟩
theorem lw_p5 : lw_okq (⟨"CharOutlines$Machine", "pushNumber", "(I)I"⟩, 11) := ⟨⟨by decide +kernel, by decide +kernel⟩, List.mem_of_getElem? (i := 42) (by decide +kernel), List.mem_of_getElem? (i := 455) (by decide +kernel), List.mem_of_getElem? (i := 456) (by decide +kernel)⟩
theorem lw_p6 : lw_okq (⟨"CharOutlines$Machine", "draw", "(I)I"⟩, 11) := ⟨⟨by decide +kernel, by decide +kernel⟩, List.mem_of_getElem? (i := 42) (by decide +kernel), List.mem_of_getElem? (i := 473) (by decide +kernel), List.mem_of_getElem? (i := 474) (by decide +kernel)⟩
theorem lw_p7 : lw_okq (⟨"CharOutlines$Outline", "add", "(IIIIIII)Z"⟩, 4) := ⟨⟨by decide +kernel, by decide +kernel⟩, List.mem_of_getElem? (i := 121) (by decide +kernel), List.mem_of_getElem? (i := 509) (by decide +kernel), List.mem_of_getElem? (i := 510) (by decide +kernel)⟩
theorem lw_p8 : lw_okq (⟨"CharOutlines$Machine", "hint", "()I"⟩, 11) := ⟨⟨by decide +kernel, by decide +kernel⟩, List.mem_of_getElem? (i := 42) (by decide +kernel), List.mem_of_getElem? (i := 544) (by decide +kernel), List.mem_of_getElem? (i := 545) (by decide +kernel)⟩
theorem lw_p9 : lw_okq (⟨"CharOutlines$Machine", "passWidth", "(I)Z"⟩, 11) := ⟨⟨by decide +kernel, by decide +kernel⟩, List.mem_of_getElem? (i := 42) (by decide +kernel), List.mem_of_getElem? (i := 548) (by decide +kernel), List.mem_of_getElem? (i := 549) (by decide +kernel)⟩
theorem lw_p10 : lw_okq (⟨"CharOutlines$Machine", "mask", "()I"⟩, 11) := ⟨⟨by decide +kernel, by decide +kernel⟩, List.mem_of_getElem? (i := 42) (by decide +kernel), List.mem_of_getElem? (i := 553) (by decide +kernel), List.mem_of_getElem? (i := 554) (by decide +kernel)⟩
theorem lw_p11 : lw_okq (⟨"CharOutlines$Machine", "move", "(I)I"⟩, 11) := ⟨⟨by decide +kernel, by decide +kernel⟩, List.mem_of_getElem? (i := 42) (by decide +kernel), List.mem_of_getElem? (i := 561) (by decide +kernel), List.mem_of_getElem? (i := 562) (by decide +kernel)⟩
theorem lw_p12 : lw_okq (⟨"CharOutlines$Machine", "end", "()I"⟩, 11) := ⟨⟨by decide +kernel, by decide +kernel⟩, List.mem_of_getElem? (i := 42) (by decide +kernel), List.mem_of_getElem? (i := 573) (by decide +kernel), List.mem_of_getElem? (i := 574) (by decide +kernel)⟩
theorem lw_p13 : lw_okq (⟨"CharOutlines$Machine", "call", "(I)I"⟩, 11) := ⟨⟨by decide +kernel, by decide +kernel⟩, List.mem_of_getElem? (i := 42) (by decide +kernel), List.mem_of_getElem? (i := 577) (by decide +kernel), List.mem_of_getElem? (i := 578) (by decide +kernel)⟩
theorem lw_p14 : lw_okq (⟨"CharOutlines$Reckoning", "ofOne", "(ILCharOutlines$Values;)I"⟩, 1) := ⟨⟨by decide +kernel, by decide +kernel⟩, List.mem_of_getElem? (i := 111) (by decide +kernel), List.mem_of_getElem? (i := 604) (by decide +kernel), List.mem_of_getElem? (i := 605) (by decide +kernel)⟩
theorem lw_p15 : lw_okq (⟨"CharOutlines$Reckoning", "load", "(ILCharOutlines$Values;)I"⟩, 1) := ⟨⟨by decide +kernel, by decide +kernel⟩, List.mem_of_getElem? (i := 111) (by decide +kernel), List.mem_of_getElem? (i := 615) (by decide +kernel), List.mem_of_getElem? (i := 616) (by decide +kernel)⟩
def lw_privs_1 : List (MethodName × Nat) := [(⟨"CharOutlines$Bytes", "makeRoom", "(I)V"⟩, 2), (⟨"java/lang/Throwable", "fillInStackTrace", "(I)Ljava/lang/Throwable;"⟩, 6), (⟨"CharOutlines$Machine", "begin", "(I)V"⟩, 11), (⟨"CharOutlines$Machine", "readCode", "()I"⟩, 11), (⟨"CharOutlines$Machine", "perform", "(I)I"⟩, 11), (⟨"CharOutlines$Machine", "pushNumber", "(I)I"⟩, 11), (⟨"CharOutlines$Machine", "draw", "(I)I"⟩, 11), (⟨"CharOutlines$Outline", "add", "(IIIIIII)Z"⟩, 4), (⟨"CharOutlines$Machine", "hint", "()I"⟩, 11), (⟨"CharOutlines$Machine", "passWidth", "(I)Z"⟩, 11), (⟨"CharOutlines$Machine", "mask", "()I"⟩, 11), (⟨"CharOutlines$Machine", "move", "(I)I"⟩, 11), (⟨"CharOutlines$Machine", "end", "()I"⟩, 11), (⟨"CharOutlines$Machine", "call", "(I)I"⟩, 11), (⟨"CharOutlines$Reckoning", "ofOne", "(ILCharOutlines$Values;)I"⟩, 1), (⟨"CharOutlines$Reckoning", "load", "(ILCharOutlines$Values;)I"⟩, 1)]
theorem lw_r1 : ∀ q ∈ lw_privs_1, lw_okq q := List.forall_mem_cons.mpr ⟨lw_p0, List.forall_mem_cons.mpr ⟨lw_p1, List.forall_mem_cons.mpr ⟨lw_p2, List.forall_mem_cons.mpr ⟨lw_p3, List.forall_mem_cons.mpr ⟨lw_p4, List.forall_mem_cons.mpr ⟨lw_p5, List.forall_mem_cons.mpr ⟨lw_p6, List.forall_mem_cons.mpr ⟨lw_p7, List.forall_mem_cons.mpr ⟨lw_p8, List.forall_mem_cons.mpr ⟨lw_p9, List.forall_mem_cons.mpr ⟨lw_p10, List.forall_mem_cons.mpr ⟨lw_p11, List.forall_mem_cons.mpr ⟨lw_p12, List.forall_mem_cons.mpr ⟨lw_p13, List.forall_mem_cons.mpr ⟨lw_p14, List.forall_mem_cons.mpr ⟨lw_p15, fun _ h => absurd h List.not_mem_nil⟩⟩⟩⟩⟩⟩⟩⟩⟩⟩⟩⟩⟩⟩⟩⟩
theorem lw_p16 : lw_okq (⟨"CharOutlines$Reckoning", "ofTwo", "(ILCharOutlines$Values;)I"⟩, 1) := ⟨⟨by decide +kernel, by decide +kernel⟩, List.mem_of_getElem? (i := 111) (by decide +kernel), List.mem_of_getElem? (i := 628) (by decide +kernel), List.mem_of_getElem? (i := 629) (by decide +kernel)⟩
theorem lw_p17 : lw_okq (⟨"CharOutlines$Reckoning", "store", "(II)I"⟩, 1) := ⟨⟨by decide +kernel, by decide +kernel⟩, List.mem_of_getElem? (i := 111) (by decide +kernel), List.mem_of_getElem? (i := 635) (by decide +kernel), List.mem_of_getElem? (i := 636) (by decide +kernel)⟩
theorem lw_p18 : lw_okq (⟨"CharOutlinesModel", "refused", "(I)Z"⟩, 29) := ⟨⟨by decide +kernel, by decide +kernel⟩, List.mem_of_getElem? (i := 686) (by decide +kernel), List.mem_of_getElem? (i := 793) (by decide +kernel), List.mem_of_getElem? (i := 794) (by decide +kernel)⟩
theorem lw_p19 : lw_okq (⟨"CharOutlinesModel", "isShelf", "()Z"⟩, 29) := ⟨⟨by decide +kernel, by decide +kernel⟩, List.mem_of_getElem? (i := 686) (by decide +kernel), List.mem_of_getElem? (i := 805) (by decide +kernel), List.mem_of_getElem? (i := 806) (by decide +kernel)⟩
theorem lw_p20 : lw_okq (⟨"CharOutlinesModel", "rowNumber", "(II)J"⟩, 29) := ⟨⟨by decide +kernel, by decide +kernel⟩, List.mem_of_getElem? (i := 686) (by decide +kernel), List.mem_of_getElem? (i := 809) (by decide +kernel), List.mem_of_getElem? (i := 810) (by decide +kernel)⟩
theorem lw_p21 : lw_okq (⟨"CharOutlinesModel", "enter", "(II)V"⟩, 29) := ⟨⟨by decide +kernel, by decide +kernel⟩, List.mem_of_getElem? (i := 686) (by decide +kernel), List.mem_of_getElem? (i := 822) (by decide +kernel), List.mem_of_getElem? (i := 823) (by decide +kernel)⟩
theorem lw_p22 : lw_okq (⟨"CharOutlinesModel", "begin", "(II)I"⟩, 29) := ⟨⟨by decide +kernel, by decide +kernel⟩, List.mem_of_getElem? (i := 686) (by decide +kernel), List.mem_of_getElem? (i := 826) (by decide +kernel), List.mem_of_getElem? (i := 827) (by decide +kernel)⟩
theorem lw_p23 : lw_okq (⟨"CharOutlinesModel", "step", "()V"⟩, 29) := ⟨⟨by decide +kernel, by decide +kernel⟩, List.mem_of_getElem? (i := 686) (by decide +kernel), List.mem_of_getElem? (i := 830) (by decide +kernel), List.mem_of_getElem? (i := 831) (by decide +kernel)⟩
theorem lw_p24 : lw_okq (⟨"CharOutlinesModel", "fail", "(I)V"⟩, 29) := ⟨⟨by decide +kernel, by decide +kernel⟩, List.mem_of_getElem? (i := 686) (by decide +kernel), List.mem_of_getElem? (i := 834) (by decide +kernel), List.mem_of_getElem? (i := 835) (by decide +kernel)⟩
theorem lw_p25 : lw_okq (⟨"CharOutlinesModel", "next", "()I"⟩, 29) := ⟨⟨by decide +kernel, by decide +kernel⟩, List.mem_of_getElem? (i := 686) (by decide +kernel), List.mem_of_getElem? (i := 838) (by decide +kernel), List.mem_of_getElem? (i := 839) (by decide +kernel)⟩
theorem lw_p26 : lw_okq (⟨"CharOutlinesModel", "number", "(I)I"⟩, 29) := ⟨⟨by decide +kernel, by decide +kernel⟩, List.mem_of_getElem? (i := 686) (by decide +kernel), List.mem_of_getElem? (i := 842) (by decide +kernel), List.mem_of_getElem? (i := 843) (by decide +kernel)⟩
theorem lw_p27 : lw_okq (⟨"CharOutlinesModel", "push", "(I)V"⟩, 29) := ⟨⟨by decide +kernel, by decide +kernel⟩, List.mem_of_getElem? (i := 686) (by decide +kernel), List.mem_of_getElem? (i := 847) (by decide +kernel), List.mem_of_getElem? (i := 848) (by decide +kernel)⟩
theorem lw_p28 : lw_okq (⟨"CharOutlinesModel", "longOperator", "(I)V"⟩, 29) := ⟨⟨by decide +kernel, by decide +kernel⟩, List.mem_of_getElem? (i := 686) (by decide +kernel), List.mem_of_getElem? (i := 851) (by decide +kernel), List.mem_of_getElem? (i := 852) (by decide +kernel)⟩
theorem lw_p29 : lw_okq (⟨"CharOutlinesModel", "flex", "(I)V"⟩, 29) := ⟨⟨by decide +kernel, by decide +kernel⟩, List.mem_of_getElem? (i := 686) (by decide +kernel), List.mem_of_getElem? (i := 855) (by decide +kernel), List.mem_of_getElem? (i := 856) (by decide +kernel)⟩
theorem lw_p30 : lw_okq (⟨"CharOutlinesModel", "may", "(Z)Z"⟩, 29) := ⟨⟨by decide +kernel, by decide +kernel⟩, List.mem_of_getElem? (i := 686) (by decide +kernel), List.mem_of_getElem? (i := 859) (by decide +kernel), List.mem_of_getElem? (i := 860) (by decide +kernel)⟩
theorem lw_p31 : lw_okq (⟨"CharOutlinesModel", "six", "(I)V"⟩, 29) := ⟨⟨by decide +kernel, by decide +kernel⟩, List.mem_of_getElem? (i := 686) (by decide +kernel), List.mem_of_getElem? (i := 863) (by decide +kernel), List.mem_of_getElem? (i := 864) (by decide +kernel)⟩
def lw_privs_2 : List (MethodName × Nat) := [(⟨"CharOutlines$Reckoning", "ofTwo", "(ILCharOutlines$Values;)I"⟩, 1), (⟨"CharOutlines$Reckoning", "store", "(II)I"⟩, 1), (⟨"CharOutlinesModel", "refused", "(I)Z"⟩, 29), (⟨"CharOutlinesModel", "isShelf", "()Z"⟩, 29), (⟨"CharOutlinesModel", "rowNumber", "(II)J"⟩, 29), (⟨"CharOutlinesModel", "enter", "(II)V"⟩, 29), (⟨"CharOutlinesModel", "begin", "(II)I"⟩, 29), (⟨"CharOutlinesModel", "step", "()V"⟩, 29), (⟨"CharOutlinesModel", "fail", "(I)V"⟩, 29), (⟨"CharOutlinesModel", "next", "()I"⟩, 29), (⟨"CharOutlinesModel", "number", "(I)I"⟩, 29), (⟨"CharOutlinesModel", "push", "(I)V"⟩, 29), (⟨"CharOutlinesModel", "longOperator", "(I)V"⟩, 29), (⟨"CharOutlinesModel", "flex", "(I)V"⟩, 29), (⟨"CharOutlinesModel", "may", "(Z)Z"⟩, 29), (⟨"CharOutlinesModel", "six", "(I)V"⟩, 29)]
theorem lw_r2 : ∀ q ∈ lw_privs_2, lw_okq q := List.forall_mem_cons.mpr ⟨lw_p16, List.forall_mem_cons.mpr ⟨lw_p17, List.forall_mem_cons.mpr ⟨lw_p18, List.forall_mem_cons.mpr ⟨lw_p19, List.forall_mem_cons.mpr ⟨lw_p20, List.forall_mem_cons.mpr ⟨lw_p21, List.forall_mem_cons.mpr ⟨lw_p22, List.forall_mem_cons.mpr ⟨lw_p23, List.forall_mem_cons.mpr ⟨lw_p24, List.forall_mem_cons.mpr ⟨lw_p25, List.forall_mem_cons.mpr ⟨lw_p26, List.forall_mem_cons.mpr ⟨lw_p27, List.forall_mem_cons.mpr ⟨lw_p28, List.forall_mem_cons.mpr ⟨lw_p29, List.forall_mem_cons.mpr ⟨lw_p30, List.forall_mem_cons.mpr ⟨lw_p31, fun _ h => absurd h List.not_mem_nil⟩⟩⟩⟩⟩⟩⟩⟩⟩⟩⟩⟩⟩⟩⟩⟩
theorem lw_p32 : lw_okq (⟨"CharOutlinesModel", "curve", "(IIIIII)V"⟩, 29) := ⟨⟨by decide +kernel, by decide +kernel⟩, List.mem_of_getElem? (i := 686) (by decide +kernel), List.mem_of_getElem? (i := 867) (by decide +kernel), List.mem_of_getElem? (i := 868) (by decide +kernel)⟩
theorem lw_p33 : lw_okq (⟨"CharOutlinesModel", "add", "(IIIII)V"⟩, 29) := ⟨⟨by decide +kernel, by decide +kernel⟩, List.mem_of_getElem? (i := 686) (by decide +kernel), List.mem_of_getElem? (i := 871) (by decide +kernel), List.mem_of_getElem? (i := 872) (by decide +kernel)⟩
theorem lw_p34 : lw_okq (⟨"CharOutlinesModel", "two", "(IIIIII)V"⟩, 29) := ⟨⟨by decide +kernel, by decide +kernel⟩, List.mem_of_getElem? (i := 686) (by decide +kernel), List.mem_of_getElem? (i := 875) (by decide +kernel), List.mem_of_getElem? (i := 876) (by decide +kernel)⟩
theorem lw_p35 : lw_okq (⟨"CharOutlinesModel", "take", "()V"⟩, 29) := ⟨⟨by decide +kernel, by decide +kernel⟩, List.mem_of_getElem? (i := 686) (by decide +kernel), List.mem_of_getElem? (i := 879) (by decide +kernel), List.mem_of_getElem? (i := 880) (by decide +kernel)⟩
theorem lw_p36 : lw_okq (⟨"CharOutlinesModel", "one", "(I)V"⟩, 29) := ⟨⟨by decide +kernel, by decide +kernel⟩, List.mem_of_getElem? (i := 686) (by decide +kernel), List.mem_of_getElem? (i := 886) (by decide +kernel), List.mem_of_getElem? (i := 887) (by decide +kernel)⟩
theorem lw_p37 : lw_okq (⟨"CharOutlinesModel", "has", "(I)Z"⟩, 29) := ⟨⟨by decide +kernel, by decide +kernel⟩, List.mem_of_getElem? (i := 686) (by decide +kernel), List.mem_of_getElem? (i := 890) (by decide +kernel), List.mem_of_getElem? (i := 891) (by decide +kernel)⟩
theorem lw_p38 : lw_okq (⟨"CharOutlinesModel", "pair", "(I)V"⟩, 29) := ⟨⟨by decide +kernel, by decide +kernel⟩, List.mem_of_getElem? (i := 686) (by decide +kernel), List.mem_of_getElem? (i := 903) (by decide +kernel), List.mem_of_getElem? (i := 904) (by decide +kernel)⟩
theorem lw_p39 : lw_okq (⟨"CharOutlinesModel", "choose", "()V"⟩, 29) := ⟨⟨by decide +kernel, by decide +kernel⟩, List.mem_of_getElem? (i := 686) (by decide +kernel), List.mem_of_getElem? (i := 910) (by decide +kernel), List.mem_of_getElem? (i := 911) (by decide +kernel)⟩
theorem lw_p40 : lw_okq (⟨"CharOutlinesModel", "index", "()V"⟩, 29) := ⟨⟨by decide +kernel, by decide +kernel⟩, List.mem_of_getElem? (i := 686) (by decide +kernel), List.mem_of_getElem? (i := 914) (by decide +kernel), List.mem_of_getElem? (i := 915) (by decide +kernel)⟩
theorem lw_p41 : lw_okq (⟨"CharOutlinesModel", "roll", "()V"⟩, 29) := ⟨⟨by decide +kernel, by decide +kernel⟩, List.mem_of_getElem? (i := 686) (by decide +kernel), List.mem_of_getElem? (i := 921) (by decide +kernel), List.mem_of_getElem? (i := 922) (by decide +kernel)⟩
theorem lw_p42 : lw_okq (⟨"CharOutlinesModel", "store", "()V"⟩, 29) := ⟨⟨by decide +kernel, by decide +kernel⟩, List.mem_of_getElem? (i := 686) (by decide +kernel), List.mem_of_getElem? (i := 925) (by decide +kernel), List.mem_of_getElem? (i := 926) (by decide +kernel)⟩
theorem lw_p43 : lw_okq (⟨"CharOutlinesModel", "load", "()V"⟩, 29) := ⟨⟨by decide +kernel, by decide +kernel⟩, List.mem_of_getElem? (i := 686) (by decide +kernel), List.mem_of_getElem? (i := 929) (by decide +kernel), List.mem_of_getElem? (i := 930) (by decide +kernel)⟩
theorem lw_p44 : lw_okq (⟨"CharOutlinesModel", "operator", "(I)V"⟩, 29) := ⟨⟨by decide +kernel, by decide +kernel⟩, List.mem_of_getElem? (i := 686) (by decide +kernel), List.mem_of_getElem? (i := 933) (by decide +kernel), List.mem_of_getElem? (i := 934) (by decide +kernel)⟩
theorem lw_p45 : lw_okq (⟨"CharOutlinesModel", "stems", "(Z)V"⟩, 29) := ⟨⟨by decide +kernel, by decide +kernel⟩, List.mem_of_getElem? (i := 686) (by decide +kernel), List.mem_of_getElem? (i := 937) (by decide +kernel), List.mem_of_getElem? (i := 938) (by decide +kernel)⟩
theorem lw_p46 : lw_okq (⟨"CharOutlinesModel", "begins", "(Z)I"⟩, 29) := ⟨⟨by decide +kernel, by decide +kernel⟩, List.mem_of_getElem? (i := 686) (by decide +kernel), List.mem_of_getElem? (i := 941) (by decide +kernel), List.mem_of_getElem? (i := 942) (by decide +kernel)⟩
theorem lw_p47 : lw_okq (⟨"CharOutlinesModel", "move", "(I)V"⟩, 29) := ⟨⟨by decide +kernel, by decide +kernel⟩, List.mem_of_getElem? (i := 686) (by decide +kernel), List.mem_of_getElem? (i := 945) (by decide +kernel), List.mem_of_getElem? (i := 946) (by decide +kernel)⟩
def lw_privs_3 : List (MethodName × Nat) := [(⟨"CharOutlinesModel", "curve", "(IIIIII)V"⟩, 29), (⟨"CharOutlinesModel", "add", "(IIIII)V"⟩, 29), (⟨"CharOutlinesModel", "two", "(IIIIII)V"⟩, 29), (⟨"CharOutlinesModel", "take", "()V"⟩, 29), (⟨"CharOutlinesModel", "one", "(I)V"⟩, 29), (⟨"CharOutlinesModel", "has", "(I)Z"⟩, 29), (⟨"CharOutlinesModel", "pair", "(I)V"⟩, 29), (⟨"CharOutlinesModel", "choose", "()V"⟩, 29), (⟨"CharOutlinesModel", "index", "()V"⟩, 29), (⟨"CharOutlinesModel", "roll", "()V"⟩, 29), (⟨"CharOutlinesModel", "store", "()V"⟩, 29), (⟨"CharOutlinesModel", "load", "()V"⟩, 29), (⟨"CharOutlinesModel", "operator", "(I)V"⟩, 29), (⟨"CharOutlinesModel", "stems", "(Z)V"⟩, 29), (⟨"CharOutlinesModel", "begins", "(Z)I"⟩, 29), (⟨"CharOutlinesModel", "move", "(I)V"⟩, 29)]
theorem lw_r3 : ∀ q ∈ lw_privs_3, lw_okq q := List.forall_mem_cons.mpr ⟨lw_p32, List.forall_mem_cons.mpr ⟨lw_p33, List.forall_mem_cons.mpr ⟨lw_p34, List.forall_mem_cons.mpr ⟨lw_p35, List.forall_mem_cons.mpr ⟨lw_p36, List.forall_mem_cons.mpr ⟨lw_p37, List.forall_mem_cons.mpr ⟨lw_p38, List.forall_mem_cons.mpr ⟨lw_p39, List.forall_mem_cons.mpr ⟨lw_p40, List.forall_mem_cons.mpr ⟨lw_p41, List.forall_mem_cons.mpr ⟨lw_p42, List.forall_mem_cons.mpr ⟨lw_p43, List.forall_mem_cons.mpr ⟨lw_p44, List.forall_mem_cons.mpr ⟨lw_p45, List.forall_mem_cons.mpr ⟨lw_p46, List.forall_mem_cons.mpr ⟨lw_p47, fun _ h => absurd h List.not_mem_nil⟩⟩⟩⟩⟩⟩⟩⟩⟩⟩⟩⟩⟩⟩⟩⟩
theorem lw_p48 : lw_okq (⟨"CharOutlinesModel", "end", "()V"⟩, 29) := ⟨⟨by decide +kernel, by decide +kernel⟩, List.mem_of_getElem? (i := 686) (by decide +kernel), List.mem_of_getElem? (i := 949) (by decide +kernel), List.mem_of_getElem? (i := 950) (by decide +kernel)⟩
theorem lw_p49 : lw_okq (⟨"CharOutlinesModel", "lines", "()V"⟩, 29) := ⟨⟨by decide +kernel, by decide +kernel⟩, List.mem_of_getElem? (i := 686) (by decide +kernel), List.mem_of_getElem? (i := 953) (by decide +kernel), List.mem_of_getElem? (i := 954) (by decide +kernel)⟩
theorem lw_p50 : lw_okq (⟨"CharOutlinesModel", "line", "(II)V"⟩, 29) := ⟨⟨by decide +kernel, by decide +kernel⟩, List.mem_of_getElem? (i := 686) (by decide +kernel), List.mem_of_getElem? (i := 957) (by decide +kernel), List.mem_of_getElem? (i := 958) (by decide +kernel)⟩
theorem lw_p51 : lw_okq (⟨"CharOutlinesModel", "turns", "(Z)V"⟩, 29) := ⟨⟨by decide +kernel, by decide +kernel⟩, List.mem_of_getElem? (i := 686) (by decide +kernel), List.mem_of_getElem? (i := 961) (by decide +kernel), List.mem_of_getElem? (i := 962) (by decide +kernel)⟩
theorem lw_p52 : lw_okq (⟨"CharOutlinesModel", "curves", "()V"⟩, 29) := ⟨⟨by decide +kernel, by decide +kernel⟩, List.mem_of_getElem? (i := 686) (by decide +kernel), List.mem_of_getElem? (i := 965) (by decide +kernel), List.mem_of_getElem? (i := 966) (by decide +kernel)⟩
theorem lw_p53 : lw_okq (⟨"CharOutlinesModel", "flats", "(Z)V"⟩, 29) := ⟨⟨by decide +kernel, by decide +kernel⟩, List.mem_of_getElem? (i := 686) (by decide +kernel), List.mem_of_getElem? (i := 969) (by decide +kernel), List.mem_of_getElem? (i := 970) (by decide +kernel)⟩
theorem lw_p54 : lw_okq (⟨"CharOutlinesModel", "waves", "(Z)V"⟩, 29) := ⟨⟨by decide +kernel, by decide +kernel⟩, List.mem_of_getElem? (i := 686) (by decide +kernel), List.mem_of_getElem? (i := 973) (by decide +kernel), List.mem_of_getElem? (i := 974) (by decide +kernel)⟩
theorem lw_p55 : lw_okq (⟨"CharOutlinesModel", "curvesLine", "()V"⟩, 29) := ⟨⟨by decide +kernel, by decide +kernel⟩, List.mem_of_getElem? (i := 686) (by decide +kernel), List.mem_of_getElem? (i := 977) (by decide +kernel), List.mem_of_getElem? (i := 978) (by decide +kernel)⟩
theorem lw_p56 : lw_okq (⟨"CharOutlinesModel", "linesCurve", "()V"⟩, 29) := ⟨⟨by decide +kernel, by decide +kernel⟩, List.mem_of_getElem? (i := 686) (by decide +kernel), List.mem_of_getElem? (i := 981) (by decide +kernel), List.mem_of_getElem? (i := 982) (by decide +kernel)⟩
theorem lw_p57 : lw_okq (⟨"CharOutlinesModel", "call", "(I)V"⟩, 29) := ⟨⟨by decide +kernel, by decide +kernel⟩, List.mem_of_getElem? (i := 686) (by decide +kernel), List.mem_of_getElem? (i := 985) (by decide +kernel), List.mem_of_getElem? (i := 986) (by decide +kernel)⟩
theorem lw_p58 : lw_okq (⟨"CharOutlinesModel", "back", "()V"⟩, 29) := ⟨⟨by decide +kernel, by decide +kernel⟩, List.mem_of_getElem? (i := 686) (by decide +kernel), List.mem_of_getElem? (i := 989) (by decide +kernel), List.mem_of_getElem? (i := 990) (by decide +kernel)⟩
def lw_privs_4 : List (MethodName × Nat) := [(⟨"CharOutlinesModel", "end", "()V"⟩, 29), (⟨"CharOutlinesModel", "lines", "()V"⟩, 29), (⟨"CharOutlinesModel", "line", "(II)V"⟩, 29), (⟨"CharOutlinesModel", "turns", "(Z)V"⟩, 29), (⟨"CharOutlinesModel", "curves", "()V"⟩, 29), (⟨"CharOutlinesModel", "flats", "(Z)V"⟩, 29), (⟨"CharOutlinesModel", "waves", "(Z)V"⟩, 29), (⟨"CharOutlinesModel", "curvesLine", "()V"⟩, 29), (⟨"CharOutlinesModel", "linesCurve", "()V"⟩, 29), (⟨"CharOutlinesModel", "call", "(I)V"⟩, 29), (⟨"CharOutlinesModel", "back", "()V"⟩, 29)]
theorem lw_r4 : ∀ q ∈ lw_privs_4, lw_okq q := List.forall_mem_cons.mpr ⟨lw_p48, List.forall_mem_cons.mpr ⟨lw_p49, List.forall_mem_cons.mpr ⟨lw_p50, List.forall_mem_cons.mpr ⟨lw_p51, List.forall_mem_cons.mpr ⟨lw_p52, List.forall_mem_cons.mpr ⟨lw_p53, List.forall_mem_cons.mpr ⟨lw_p54, List.forall_mem_cons.mpr ⟨lw_p55, List.forall_mem_cons.mpr ⟨lw_p56, List.forall_mem_cons.mpr ⟨lw_p57, List.forall_mem_cons.mpr ⟨lw_p58, fun _ h => absurd h List.not_mem_nil⟩⟩⟩⟩⟩⟩⟩⟩⟩⟩⟩
def lw_privs : List (MethodName × Nat) := lw_privs_1 ++ (lw_privs_2 ++ (lw_privs_3 ++ (lw_privs_4)))
def lw_tbl : List Cond := k2_sels lw_privs ++ tables_1
theorem lw_privs_ok : ∀ q ∈ lw_privs, lw_okq q := by
  show ∀ q ∈ lw_privs_1 ++ (lw_privs_2 ++ (lw_privs_3 ++ (lw_privs_4))), lw_okq q
  exact List.forall_mem_append.mpr ⟨lw_r1, List.forall_mem_append.mpr ⟨lw_r2, List.forall_mem_append.mpr ⟨lw_r3, lw_r4⟩⟩⟩
end
section
/-! THE BASE: contracts as triples over worlds (small footprints, a frame rule), that tell how many cells and slots came. -/
def MetK (l : Launch) (y : MethodName) (ws : List Cond) (rm : Room) (Pc : Array Value → State → Prop) (Qc : Array Value → State → Outcome → State → List Loc → Nat → Nat → Prop) : Prop :=
  MetFree l y (headSpec ws rm) Pc (fun _ _ _ _ _ => True) (fun a st o t => ∃ L k n, FrameEnd st o t L k n ∧ Qc a st o t L k n)
def PreK (R rm : Room) (Pc : Array Value → State → Prop) : Pt → Array Value → Prop := fun A a => A.cells + rm.cells ≤ R.cells ∧ A.slots + rm.slots ≤ R.slots ∧ Pc a A.U
def PostK (Qc : Array Value → State → Outcome → State → List Loc → Nat → Nat → Prop) : Pt → Array Value → Option Value → Pt → Prop := fun A a v B =>
  ∃ (g : JFrame) (mk : MethodId) (t : State) (L : List Loc) (k n : Nat), B.U.heap = t.heap ∧ B.U.vm = t.vm ∧ Qc a (A.U.calling g mk a) (.returned v) t L k n ∧ B.locs = A.locs ++ L ∧ B.cells = A.cells + k ∧ B.slots = A.slots + n
section BK
variable {l : Launch} {R : Room} {p : Program} {e : Env} {below : List Frame} {s : State} {sargs : Array Value} {y : MethodName} {len W : Nat}
theorem back_ofK {ws : List Cond} {rm : Room} {Pc : Array Value → State → Prop} {Qc : Array Value → State → Outcome → State → List Loc → Nat → Nat → Prop} {bytes : ByteArray} {maxL : Nat} {ret : Option FieldType}
    (hM : MetK l y ws rm Pc Qc) (hblind : FrameBlind Pc) (hframes : rm.frames + 1 ≤ R.frames) (hlocals : W + (maxL + 11) + rm.locals ≤ R.locals)
    (hws : ∀ w ∈ ws, ∀ a' U, s.WarmedH U.vm → w.before a' U = true) (hcode : Cond.code y bytes maxL ret ∈ ws) (hinit : ∀ a' U, s.WarmedH U.vm → (Cond.initialized y.cls).before a' U = true) :
    Back l R p e below s sargs y len W (PreK R rm Pc) (PostK Qc) := by
  refine Back.of_free (S := headSpec ws rm) (P := Pc) (K := fun _ _ _ _ _ => True) (Q := fun a st o t => ∃ L k n, FrameEnd st o t L k n ∧ Qc a st o t L k n) (bytes := bytes) (maxL := maxL) (ret := ret)
    (E := fun a st o t L k n => Qc a st o t L k n) hM hframes hlocals ?_ ?_ (fun _ _ _ _ _ _ _ _ _ => trivial) ?_ ?_
  · intro m meth c A a X hp
    exact ⟨atoms_intro fun w hw => hws w hw _ _ X.warmed, hws _ hcode _ _ X.warmed, hinit _ _ X.warmed, hp.1, hp.2.1⟩
  · intro m meth c A a g mk X hp
    exact hblind _ _ _ _ hp.2.2
  · intro a st o t ⟨L, k, n, hF, hq⟩
    exact ⟨L, k, n, hF, hq⟩
  · intro m meth c A a g mk v t L k n X hp hq hF hE
    exact ⟨g, mk, t, L, k, n, rfl, rfl, hE, rfl, rfl, rfl⟩
end BK
/-- what a call asks of its callee's words -/
def Cal (Ts : List Cond) (y : MethodName) (bytes : ByteArray) (maxL : Nat) (ret : Option FieldType) (n : Nat) : Prop :=
  Cond.code y bytes maxL ret ∈ Ts ∧ Cond.initialized y.cls ∈ Ts ∧ (y.cls ≠ "java/lang/invoke/MethodHandle" ∧ y.cls ≠ "java/lang/invoke/VarHandle") ∧ (parseMethodDescriptor y.desc).map (fun d => d.parameters.length) = some n
def CalV (Ts : List Cond) (C : String) (y : MethodName) (bytes : ByteArray) (maxL : Nat) (ret : Option FieldType) (n : Nat) : Prop :=
  Cal Ts y bytes maxL ret n ∧ Cond.instanceMethod y ∈ Ts ∧ Cond.selects C y y ∈ Ts
def CalS (Ts : List Cond) (y : MethodName) (bytes : ByteArray) (maxL : Nat) (ret : Option FieldType) (n : Nat) : Prop :=
  Cal Ts y bytes maxL ret n ∧ Cond.static y ∈ Ts
def CalI (Ts : List Cond) (y : MethodName) (bytes : ByteArray) (maxL : Nat) (n : Nat) : Prop :=
  Cal Ts y bytes maxL none n ∧ y.name = "<init>" ∧ Cond.instanceMethod y ∈ Ts
/-- words of nest mates: they hold, whatever was linked since -/
def NW (NX : List Cond) (U : State) : Prop := ∀ w ∈ NX, va_Nw w U
def NXok (NX : List Cond) : Prop := ∀ w ∈ NX, (∃ a i x h, w = Cond.methodLinkNest a i x h) ∨ ∃ a i b n d h, w = Cond.fieldLinkNest a i b n d h
theorem NW.warm {NX : List Cond} {s U : State} (hN : NXok NX) (hW : s.WarmedH U.vm) (h : NW NX s) : NW NX U := by
  intro w hw
  rcases hN w hw with ⟨a, i, x, k, rfl⟩ | ⟨a, i, b, n, d, k, rfl⟩
  · exact va_Nw.warmM hW (h _ hw)
  · exact va_Nw.warmF hW (h _ hw)
theorem NW.same {NX : List Cond} {s U : State} (hN : NXok NX) (hW : s.vm = U.vm) (h : NW NX s) : NW NX U := by
  intro w hw
  rcases hN w hw with ⟨a, i, x, k, rfl⟩ | ⟨a, i, b, n, d, k, rfl⟩
  · exact va_Nw.same rfl hW (h _ hw)
  · exact va_Nw.same rfl hW (h _ hw)
def RunK (p : Program) (l : Launch) (e : Env) (R : Room) (s : State) (m : MethodId) (args : Array Value) (below : List Frame) (meth : Method) (c : Code) (H : Heap) (locs : List Loc) (cells slots : Nat) (g : JFrame) (rest : List Value) (Qa : State → Option Value → State → List Loc → Nat → Nat → Prop) : Prop :=
  ∀ T : State, T.heap = H → Stand p l e R s m args below meth c T locs cells slots → ∃ (v : Option Value) (st₀ t T' : State) (L : List Loc) (k n : Nat), st₀.heap = H ∧ Stand p l e R s m args below meth c T' (locs ++ L) (cells + k) (slots + n) ∧ T'.heap = t.heap ∧ T'.vm = t.vm ∧ Qa st₀ v t L k n ∧
    Goes p e below T g T' { g with pc := g.pc + 3, stack := v.toList ++ rest }
section RK
variable {p : Program} {l : Launch} {e : Env} {R : Room} {s : State} {m : MethodId} {args : Array Value} {below : List Frame} {meth : Method} {c : Code} {H : Heap} {locs : List Loc} {cells slots : Nat}
variable {y : MethodName} {bytes cc : ByteArray} {maxL nL n index : Nat} {ret : Option FieldType} {rm : Room} {Pc : Array Value → State → Prop} {Qc : Array Value → State → Outcome → State → List Loc → Nat → Nat → Prop} {Ts : List Cond} {own C host : String} {b : Addr} {As rest : List Value} {g : JFrame}
theorem Cal.len {Ts : List Cond} (h : Cal Ts y bytes maxL ret n) : ∀ sig, parseMethodDescriptor y.desc = some sig → n = sig.parameters.length := fun sig hs => by
  have h2 := h.2.2.2
  rw [hs] at h2
  exact (Option.some.inj h2).symm
theorem Cal.back (ht : ∀ w ∈ Ts, w.before args s = true) (hG : GoodIn Ts Ts) (hM : MetK l y (Cond.code y bytes maxL ret :: Ts) rm Pc Qc) (hc : Cal Ts y bytes maxL ret n) (hbl : FrameBlind Pc) (hR : rm.frames + 1 ≤ R.frames ∧ 8 + (maxL + 11) + rm.locals ≤ R.locals) :
    Back l R p e below s args y 3 8 (PreK R rm Pc) (PostK Qc) := by
  refine back_ofK (bytes := bytes) (maxL := maxL) (ret := ret) hM hbl hR.1 hR.2 ?_ List.mem_cons_self (fun a' U hW => word_at hW (hG _ hc.2.1).2 (ht _ hc.2.1))
  intro w hw
  rcases List.mem_cons.mp hw with rfl | hw
  · exact pay_in ht hG _ hc.1
  · exact pay_in ht hG _ hw
theorem runKV (S : CallFix p m c cc nL s args Ts own) (hG : GoodIn Ts Ts) (hM : MetK l y (Cond.code y bytes maxL ret :: Ts) rm Pc Qc) (hc : CalV Ts C y bytes maxL ret n) (hl : Cond.methodLink own index y ∈ Ts) (hR : rm.frames + 1 ≤ R.frames ∧ 8 + (maxL + 11) + rm.locals ≤ R.locals) (hp : PreV s H C b Pc As)
    (hg : g.method = m) (hn : As.length = n) (hsize : g.locals.size = nL) (hstack : g.stack = As.reverse ++ .ref b :: rest) (hW : 2 * g.monitorRoom + (rest.map fun v => v.category).sum ≤ 8) (hdg : decode cc g.pc = .ok (.invokevirtual index, 3)) (hf : cells + rm.cells ≤ R.cells ∧ slots + rm.slots ≤ R.slots) :
    RunK p l e R s m args below meth c H locs cells slots g rest (fun st v t L k n => Qc (Value.ref b :: As).toArray st (.returned v) t L k n) := by
  obtain ⟨hx, hb, hml, ho, ht⟩ := S
  have hK : Back l R p e below s args y 3 8 (PreK R rm Pc) (PostK Qc) := hc.1.back ht hG hM hp.1 hR
  obtain ⟨-, ⟨cellB, hcB, hoB, hclB⟩, hPc⟩ := hp
  intro T hT X
  obtain ⟨v, vm₁, ⟨U', l2, c2, s2⟩, hW₁, X', ⟨g', mk, t, L, k, n', e1, e2, hq, h1, h2, h3⟩, st⟩ := callV X hx (C := C) (bytes := bytes) (maxL := maxL) (ret := ret) ho (ht _ hl) (ht _ hc.2.1) (ht _ hc.2.2) (ht _ hc.1.1) hc.1.2.2.1 hK (by rw [hT]; exact hcB) hoB hclB hg (hsize.trans hml.symm) (argsL := As) (rest := rest) (fun sig h => hn.trans (hc.1.len sig h)) hstack hW (by rw [hb]; exact hdg)
    (fun vm₁ hW₁ => ⟨hf.1, hf.2, hPc (T.setVm vm₁) hT hW₁⟩)
  dsimp only [Pt.U, Pt.locs, Pt.cells, Pt.slots] at X' e1 e2 h1 h2 h3 st
  subst h1; subst h2; subst h3
  exact ⟨v, (T.setVm vm₁).calling g' mk (Value.ref b :: As).toArray, t, U', L, k, n', hT, X', e1, e2, hq, st⟩
theorem runKS (S : CallFix p m c cc nL s args Ts own) (hG : GoodIn Ts Ts) (hM : MetK l y (Cond.code y bytes maxL ret :: Ts) rm Pc Qc) (hc : CalS Ts y bytes maxL ret n) (hl : Cond.methodLink own index y ∈ Ts) (hR : rm.frames + 1 ≤ R.frames ∧ 8 + (maxL + 11) + rm.locals ≤ R.locals) (hp : PreS s H Pc As)
    (hg : g.method = m) (hn : As.length = n) (hsize : g.locals.size = nL) (hstack : g.stack = As.reverse ++ rest) (hW : 2 * g.monitorRoom + (rest.map fun v => v.category).sum ≤ 8) (hdg : decode cc g.pc = .ok (.invokestatic index, 3)) (hf : cells + rm.cells ≤ R.cells ∧ slots + rm.slots ≤ R.slots) :
    RunK p l e R s m args below meth c H locs cells slots g rest (fun st v t L k n => Qc As.toArray st (.returned v) t L k n) := by
  obtain ⟨hx, hb, hml, ho, ht⟩ := S
  have hK : Back l R p e below s args y 3 8 (PreK R rm Pc) (PostK Qc) := hc.1.back ht hG hM hp.1 hR
  intro T hT X
  obtain ⟨v, vm₁, ⟨U', l2, c2, s2⟩, hW₁, X', ⟨g', mk, t, L, k, n', e1, e2, hq, h1, h2, h3⟩, st⟩ := callS X hx (bytes := bytes) (maxL := maxL) (ret := ret) ho (ht _ hl) (ht _ hc.2) (ht _ hc.1.2.1) (ht _ hc.1.1) hc.1.2.2.1 hK hg (hsize.trans hml.symm) (argsL := As) (rest := rest) (fun sig h => hn.trans (hc.1.len sig h)) hstack hW (by rw [hb]; exact hdg)
    (fun vm₁ hW₁ => ⟨hf.1, hf.2, hp.2 (T.setVm vm₁) hT hW₁⟩)
  dsimp only [Pt.U, Pt.locs, Pt.cells, Pt.slots] at X' e1 e2 h1 h2 h3 st
  subst h1; subst h2; subst h3
  exact ⟨v, (T.setVm vm₁).calling g' mk As.toArray, t, U', L, k, n', hT, X', e1, e2, hq, st⟩
theorem runKI (S : CallFix p m c cc nL s args Ts own) (hG : GoodIn Ts Ts) (hM : MetK l y (Cond.code y bytes maxL none :: Ts) rm Pc Qc) (hc : CalI Ts y bytes maxL n) (hl : Cond.methodLink own index y ∈ Ts) (hR : rm.frames + 1 ≤ R.frames ∧ 8 + (maxL + 11) + rm.locals ≤ R.locals) (hp : PreS s H Pc (.ref b :: As))
    (hg : g.method = m) (hn : As.length = n) (hsize : g.locals.size = nL) (hstack : g.stack = As.reverse ++ .ref b :: rest) (hW : 2 * g.monitorRoom + (rest.map fun v => v.category).sum ≤ 8) (hdg : decode cc g.pc = .ok (.invokespecial index, 3)) (hf : cells + rm.cells ≤ R.cells ∧ slots + rm.slots ≤ R.slots) :
    RunK p l e R s m args below meth c H locs cells slots g rest (fun st v t L k n => Qc (Value.ref b :: As).toArray st (.returned v) t L k n) := by
  obtain ⟨hx, hb, hml, ho, ht⟩ := S
  have hK : Back l R p e below s args y 3 8 (PreK R rm Pc) (PostK Qc) := hc.1.back ht hG hM hp.1 hR
  intro T hT X
  obtain ⟨v, vm₁, ⟨U', l2, c2, s2⟩, hW₁, X', ⟨g', mk, t, L, k, n', e1, e2, hq, h1, h2, h3⟩, st⟩ := callI X hx (bytes := bytes) (maxL := maxL) ho hc.2.1 (ht _ hl) (ht _ hc.2.2) (ht _ hc.1.1) hc.1.2.2.1 hK hg (hsize.trans hml.symm) (a := b) (argsL := As) (rest := rest) (fun sig h => hn.trans (hc.1.len sig h)) hstack hW (by rw [hb]; exact hdg)
    (fun vm₁ hW₁ => ⟨hf.1, hf.2, hp.2 (T.setVm vm₁) hT hW₁⟩)
  dsimp only [Pt.U, Pt.locs, Pt.cells, Pt.slots] at X' e1 e2 h1 h2 h3 st
  subst h1; subst h2; subst h3
  exact ⟨v, (T.setVm vm₁).calling g' mk (Value.ref b :: As).toArray, t, U', L, k, n', hT, X', e1, e2, hq, st⟩
theorem runKIN (S : CallFix p m c cc nL s args Ts own) (hG : GoodIn Ts Ts) (hM : MetK l y (Cond.code y bytes maxL none :: Ts) rm Pc Qc) (hc : CalI Ts y bytes maxL n) (hl : va_Nw (.methodLinkNest own index y host) s) (hR : rm.frames + 1 ≤ R.frames ∧ 8 + (maxL + 11) + rm.locals ≤ R.locals) (hp : PreS s H Pc (.ref b :: As))
    (hg : g.method = m) (hn : As.length = n) (hsize : g.locals.size = nL) (hstack : g.stack = As.reverse ++ .ref b :: rest) (hW : 2 * g.monitorRoom + (rest.map fun v => v.category).sum ≤ 8) (hdg : decode cc g.pc = .ok (.invokespecial index, 3)) (hf : cells + rm.cells ≤ R.cells ∧ slots + rm.slots ≤ R.slots) :
    RunK p l e R s m args below meth c H locs cells slots g rest (fun st v t L k n => Qc (Value.ref b :: As).toArray st (.returned v) t L k n) := by
  obtain ⟨hx, hb, hml, ho, ht⟩ := S
  have hK : Back l R p e below s args y 3 8 (PreK R rm Pc) (PostK Qc) := hc.1.back ht hG hM hp.1 hR
  intro T hT X
  obtain ⟨v, vm₁, ⟨U', l2, c2, s2⟩, hW₁, X', ⟨g', mk, t, L, k, n', e1, e2, hq, h1, h2, h3⟩, st⟩ := va_callIN X hx (bytes := bytes) (maxL := maxL) ho hc.2.1 (va_Nw.use rfl hl) (ht _ hc.2.2) (ht _ hc.1.1) hc.1.2.2.1 hK hg (hsize.trans hml.symm) (a := b) (argsL := As) (rest := rest) (fun sig h => hn.trans (hc.1.len sig h)) hstack hW (by rw [hb]; exact hdg)
    (fun vm₁ hW₁ => ⟨hf.1, hf.2, hp.2 (T.setVm vm₁) hT hW₁⟩)
  dsimp only [Pt.U, Pt.locs, Pt.cells, Pt.slots] at X' e1 e2 h1 h2 h3 st
  subst h1; subst h2; subst h3
  exact ⟨v, (T.setVm vm₁).calling g' mk (Value.ref b :: As).toArray, t, U', L, k, n', hT, X', e1, e2, hq, st⟩
end RK
/-! triples -/
def TrP (D : va_G) (cl : List vw_C) (tys : List (ClassId × FieldType)) (NX : List Cond) (av : List Value) (wc : va_W) : Array Value → State → Prop :=
  va_Pc av (fun U => va_P D cl wc U.heap ∧ va_K D cl tys U ∧ va_D (fun _ => True) wc ∧ NW NX U)
def TrQ (D : va_G) (cl : List vw_C) (wc : va_W) (post : Option Value → va_W → Nat → Nat → Prop) : Array Value → State → Outcome → State → List Loc → Nat → Nat → Prop := fun _ st o t L k n =>
  ∃ (v : Option Value) (w1 : va_W), o = .returned v ∧ post v w1 k n ∧ va_P D cl w1 t.heap ∧ va_D (va_A wc st.heap.size) w1 ∧ va_F (va_A wc st.heap.size) st t ∧ ∀ q ∈ L, va_A wc st.heap.size q.base
def Tr (l : Launch) (D : va_G) (cl : List vw_C) (tys : List (ClassId × FieldType)) (Ts NX : List Cond) (y : MethodName) (bytes : ByteArray) (maxL : Nat) (ret : Option FieldType) (rm : Room) (av : List Value) (wc : va_W) (post : Option Value → va_W → Nat → Nat → Prop) : Prop :=
  MetK l y (Cond.code y bytes maxL ret :: Ts) rm (TrP D cl tys NX av wc) (TrQ D cl wc post)
def pI0 (post : Int32 → va_W → Prop) : Option Value → va_W → Nat → Nat → Prop := fun v w k n => ∃ r, v = some (.int r) ∧ k = 0 ∧ n = 0 ∧ post r w
def pL0 (post : Int64 → va_W → Prop) : Option Value → va_W → Nat → Nat → Prop := fun v w k n => ∃ r, v = some (.long r) ∧ k = 0 ∧ n = 0 ∧ post r w
def pR0 (post : Nat → va_W → Prop) : Option Value → va_W → Nat → Nat → Prop := fun v w k n => ∃ r, v = some (.ref r) ∧ k = 0 ∧ n = 0 ∧ post r w
def pV0 (post : va_W → Prop) : Option Value → va_W → Nat → Nat → Prop := fun v w k n => v = none ∧ k = 0 ∧ n = 0 ∧ post w
def pI (post : Int32 → va_W → Nat → Nat → Prop) : Option Value → va_W → Nat → Nat → Prop := fun v w k n => ∃ r, v = some (.int r) ∧ post r w k n
def pR (post : Nat → va_W → Nat → Nat → Prop) : Option Value → va_W → Nat → Nat → Prop := fun v w k n => ∃ r, v = some (.ref r) ∧ post r w k n
def pV (post : va_W → Nat → Nat → Prop) : Option Value → va_W → Nat → Nat → Prop := fun v w k n => v = none ∧ post w k n
theorem TrP.blind {D : va_G} {cl : List vw_C} {tys : List (ClassId × FieldType)} {NX : List Cond} {av : List Value} {wc : va_W} (hN : NXok NX) : FrameBlind (TrP D cl tys NX av wc) := fun a U g mk q => by
  obtain ⟨q0, qP, qK, qD, qN⟩ := q
  exact ⟨q0, qP, va_K.moved (u := U) (U := U.calling g mk a) (Vm.Alike.refl U.vm) qK, qD, NW.same (s := U) (U := U.calling g mk a) hN rfl qN⟩
theorem va_P.subm {D : va_G} {cl : List vw_C} {ws ws' : va_W} {H : Heap} (h : va_P D cl ws H) (is : List Nat) (hs : is.map (fun i => ws[i]?) = ws'.map some) : va_P D cl ws' H := fun k q hk => by
  have h1 : (is.map (fun i => ws[i]?))[k]? = some (some q) := by rw [hs, List.getElem?_map, hk]; rfl
  rw [List.getElem?_map] at h1
  cases hi : is[k]? with
  | none => rw [hi] at h1; cases h1
  | some i => rw [hi] at h1; exact h i q (Option.some.inj h1)
section TG
variable {p : Program} {l : Launch} {e : Env} {R : Room} {s : State} {m : MethodId} {args : Array Value} {below : List Frame} {meth : Method} {c : Code} {H : Heap} {locs : List Loc} {cells slots : Nat} {Q : State → Prop}
variable {y : MethodName} {bytes cc : ByteArray} {maxL nL n index : Nat} {ret : Option FieldType} {rm : Room} {Ts NX : List Cond} {own C host : String} {b : Addr} {As rest st0 : List Value} {pc : Nat} {ls : Array Slot}
variable {D : va_G} {cl : List vw_C} {tys : List (ClassId × FieldType)} {ws wc wr : va_W} {A0 : Nat → Prop} {a : Array Value} {post : Option Value → va_W → Nat → Nat → Prop}
/-- the caller's world, cut: the callee's part at isC, the rest at isR -/
def Cut (ws wc wr : va_W) (isC isR : List Nat) : Prop := isC.map (fun i => ws[i]?) = wc.map some ∧ isR.map (fun i => ws[i]?) = wr.map some ∧ va_nd isC = true ∧ va_nd isR = true ∧ ∀ i ∈ isR, i ∉ isC
/-- what stands around a walk: the tables, the world -/
def Sit (D : va_G) (cl : List vw_C) (tys : List (ClassId × FieldType)) (NX : List Cond) (s : State) (A0 : Nat → Prop) : Prop := va_K D cl tys s ∧ NW NX s ∧ NXok NX ∧ ∀ q, s.heap.size ≤ q → A0 q
theorem TrP.at {av : List Value} (hZ : Sit D cl tys NX s A0) (hP : va_P D cl ws H) (hD : va_D A0 ws) {isC isR : List Nat} (hC : Cut ws wc wr isC isR) :
    ∀ U : State, U.heap = H → s.WarmedH U.vm → TrP D cl tys NX av wc av.toArray U := by
  intro U hU hW
  exact ⟨rfl, by rw [hU]; exact hP.subm isC hC.1, va_K.moved hW.alike hZ.1, (hD.sub isC hC.2.2.1 hC.1).weaken (fun _ _ _ _ => trivial), hZ.2.1.warm hZ.2.2.1 hW⟩
theorem tr_go (hr : RunK p l e R s m args below meth c H locs cells slots (F0 m pc ls st0) rest (fun st v t L k n => TrQ D cl wc post a st (.returned v) t L k n))
    (hZ : Sit D cl tys NX s A0) (hP : va_P D cl ws H) (hD : va_D A0 ws) (hS : va_S A0 s.heap H locs) {isC isR : List Nat} (hC : Cut ws wc wr isC isR)
    (kk : ∀ (v : Option Value) (w1 : va_W) (k n : Nat) (H1 : Heap) (locs1 : List Loc), post v w1 k n → va_P D cl (wr ++ w1) H1 → va_D A0 (wr ++ w1) → va_S A0 s.heap H1 locs1 → W p l e R s m args below meth c H1 locs1 (cells + k) (slots + n) Q (F0 m (pc + 3) ls (v.toList ++ rest))) :
    W p l e R s m args below meth c H locs cells slots Q (F0 m pc ls st0) := by
  intro T hT X
  obtain ⟨v, st₀, t, T', L, k, n, h0, X', e1, e2, ⟨v', w1, hv, hq, hP1, hD1, hF1, hL⟩, st⟩ := hr T hT X
  cases hv
  rw [h0] at hD1 hL
  have hF : ∀ q, va_A wc H.size q → A0 q := va_free hD hS hZ.2.2.2 isC hC.1
  have hk : ∀ q : Nat, q < H.size → ¬ va_A wc H.size q → T'.heap[q]? = H[q]? := fun q h1 h2 => by
    rw [e1, ← h0]
    exact hF1.2 q (by rw [h0]; exact h1) (by rw [h0]; exact h2)
  have hz : H.size ≤ T'.heap.size := by rw [e1, ← h0]; exact hF1.1
  obtain ⟨hPj, hDj⟩ := va_join (wr := wr) (w1 := w1) hP hD isC isR hC.1 hC.2.1 hC.2.2.2.1 hC.2.2.2.2 hk hF (by rw [e1]; exact hP1) hD1
  obtain ⟨t2, a1, b1⟩ := kk v w1 k n T'.heap (locs ++ L) hq hPj hDj ⟨Nat.le_trans hS.1 hz, fun q h1 h2 => by
      rw [hk q (Nat.lt_of_lt_of_le h1 hS.1) (fun z => h2 (hF q z))]
      exact hS.2.1 q h1 h2, fun q hq => by
      rcases List.mem_append.mp hq with h | h
      · exact hS.2.2 q h
      · exact hF _ (hL q h)⟩ T' rfl X'
  exact ⟨t2, st t2 a1, b1⟩
theorem goI0 {po : Int32 → va_W → Prop} (hr : RunK p l e R s m args below meth c H locs cells slots (F0 m pc ls st0) rest (fun st v t L k n => TrQ D cl wc (pI0 po) a st (.returned v) t L k n))
    (hZ : Sit D cl tys NX s A0) (hP : va_P D cl ws H) (hD : va_D A0 ws) (hS : va_S A0 s.heap H locs) {isC isR : List Nat} (hC : Cut ws wc wr isC isR)
    (kk : ∀ (r : Int32) (w1 : va_W) (H1 : Heap) (locs1 : List Loc), po r w1 → va_P D cl (wr ++ w1) H1 → va_D A0 (wr ++ w1) → va_S A0 s.heap H1 locs1 → W p l e R s m args below meth c H1 locs1 cells slots Q (F0 m (pc + 3) ls (.int r :: rest))) :
    W p l e R s m args below meth c H locs cells slots Q (F0 m pc ls st0) :=
  tr_go hr hZ hP hD hS hC fun v w1 k n H1 locs1 hq hP hD hS => by
    obtain ⟨r, rfl, rfl, rfl, hq⟩ := hq
    exact kk r w1 H1 locs1 hq hP hD hS
theorem goL0 {po : Int64 → va_W → Prop} (hr : RunK p l e R s m args below meth c H locs cells slots (F0 m pc ls st0) rest (fun st v t L k n => TrQ D cl wc (pL0 po) a st (.returned v) t L k n))
    (hZ : Sit D cl tys NX s A0) (hP : va_P D cl ws H) (hD : va_D A0 ws) (hS : va_S A0 s.heap H locs) {isC isR : List Nat} (hC : Cut ws wc wr isC isR)
    (kk : ∀ (r : Int64) (w1 : va_W) (H1 : Heap) (locs1 : List Loc), po r w1 → va_P D cl (wr ++ w1) H1 → va_D A0 (wr ++ w1) → va_S A0 s.heap H1 locs1 → W p l e R s m args below meth c H1 locs1 cells slots Q (F0 m (pc + 3) ls (.long r :: rest))) :
    W p l e R s m args below meth c H locs cells slots Q (F0 m pc ls st0) :=
  tr_go hr hZ hP hD hS hC fun v w1 k n H1 locs1 hq hP hD hS => by
    obtain ⟨r, rfl, rfl, rfl, hq⟩ := hq
    exact kk r w1 H1 locs1 hq hP hD hS
theorem goR0 {po : Nat → va_W → Prop} (hr : RunK p l e R s m args below meth c H locs cells slots (F0 m pc ls st0) rest (fun st v t L k n => TrQ D cl wc (pR0 po) a st (.returned v) t L k n))
    (hZ : Sit D cl tys NX s A0) (hP : va_P D cl ws H) (hD : va_D A0 ws) (hS : va_S A0 s.heap H locs) {isC isR : List Nat} (hC : Cut ws wc wr isC isR)
    (kk : ∀ (r : Nat) (w1 : va_W) (H1 : Heap) (locs1 : List Loc), po r w1 → va_P D cl (wr ++ w1) H1 → va_D A0 (wr ++ w1) → va_S A0 s.heap H1 locs1 → W p l e R s m args below meth c H1 locs1 cells slots Q (F0 m (pc + 3) ls (.ref r :: rest))) :
    W p l e R s m args below meth c H locs cells slots Q (F0 m pc ls st0) :=
  tr_go hr hZ hP hD hS hC fun v w1 k n H1 locs1 hq hP hD hS => by
    obtain ⟨r, rfl, rfl, rfl, hq⟩ := hq
    exact kk r w1 H1 locs1 hq hP hD hS
theorem goV0 {po : va_W → Prop} (hr : RunK p l e R s m args below meth c H locs cells slots (F0 m pc ls st0) rest (fun st v t L k n => TrQ D cl wc (pV0 po) a st (.returned v) t L k n))
    (hZ : Sit D cl tys NX s A0) (hP : va_P D cl ws H) (hD : va_D A0 ws) (hS : va_S A0 s.heap H locs) {isC isR : List Nat} (hC : Cut ws wc wr isC isR)
    (kk : ∀ (w1 : va_W) (H1 : Heap) (locs1 : List Loc), po w1 → va_P D cl (wr ++ w1) H1 → va_D A0 (wr ++ w1) → va_S A0 s.heap H1 locs1 → W p l e R s m args below meth c H1 locs1 cells slots Q (F0 m (pc + 3) ls rest)) :
    W p l e R s m args below meth c H locs cells slots Q (F0 m pc ls st0) :=
  tr_go hr hZ hP hD hS hC fun v w1 k n H1 locs1 hq hP hD hS => by
    obtain ⟨rfl, rfl, rfl, hq⟩ := hq
    exact kk w1 H1 locs1 hq hP hD hS
theorem goI {po : Int32 → va_W → Nat → Nat → Prop} (hr : RunK p l e R s m args below meth c H locs cells slots (F0 m pc ls st0) rest (fun st v t L k n => TrQ D cl wc (pI po) a st (.returned v) t L k n))
    (hZ : Sit D cl tys NX s A0) (hP : va_P D cl ws H) (hD : va_D A0 ws) (hS : va_S A0 s.heap H locs) {isC isR : List Nat} (hC : Cut ws wc wr isC isR)
    (kk : ∀ (r : Int32) (w1 : va_W) (k n : Nat) (H1 : Heap) (locs1 : List Loc), po r w1 k n → va_P D cl (wr ++ w1) H1 → va_D A0 (wr ++ w1) → va_S A0 s.heap H1 locs1 → W p l e R s m args below meth c H1 locs1 (cells + k) (slots + n) Q (F0 m (pc + 3) ls (.int r :: rest))) :
    W p l e R s m args below meth c H locs cells slots Q (F0 m pc ls st0) :=
  tr_go hr hZ hP hD hS hC fun v w1 k n H1 locs1 hq hP hD hS => by
    obtain ⟨r, rfl, hq⟩ := hq
    exact kk r w1 k n H1 locs1 hq hP hD hS
theorem goR {po : Nat → va_W → Nat → Nat → Prop} (hr : RunK p l e R s m args below meth c H locs cells slots (F0 m pc ls st0) rest (fun st v t L k n => TrQ D cl wc (pR po) a st (.returned v) t L k n))
    (hZ : Sit D cl tys NX s A0) (hP : va_P D cl ws H) (hD : va_D A0 ws) (hS : va_S A0 s.heap H locs) {isC isR : List Nat} (hC : Cut ws wc wr isC isR)
    (kk : ∀ (r : Nat) (w1 : va_W) (k n : Nat) (H1 : Heap) (locs1 : List Loc), po r w1 k n → va_P D cl (wr ++ w1) H1 → va_D A0 (wr ++ w1) → va_S A0 s.heap H1 locs1 → W p l e R s m args below meth c H1 locs1 (cells + k) (slots + n) Q (F0 m (pc + 3) ls (.ref r :: rest))) :
    W p l e R s m args below meth c H locs cells slots Q (F0 m pc ls st0) :=
  tr_go hr hZ hP hD hS hC fun v w1 k n H1 locs1 hq hP hD hS => by
    obtain ⟨r, rfl, hq⟩ := hq
    exact kk r w1 k n H1 locs1 hq hP hD hS
theorem goV {po : va_W → Nat → Nat → Prop} (hr : RunK p l e R s m args below meth c H locs cells slots (F0 m pc ls st0) rest (fun st v t L k n => TrQ D cl wc (pV po) a st (.returned v) t L k n))
    (hZ : Sit D cl tys NX s A0) (hP : va_P D cl ws H) (hD : va_D A0 ws) (hS : va_S A0 s.heap H locs) {isC isR : List Nat} (hC : Cut ws wc wr isC isR)
    (kk : ∀ (w1 : va_W) (k n : Nat) (H1 : Heap) (locs1 : List Loc), po w1 k n → va_P D cl (wr ++ w1) H1 → va_D A0 (wr ++ w1) → va_S A0 s.heap H1 locs1 → W p l e R s m args below meth c H1 locs1 (cells + k) (slots + n) Q (F0 m (pc + 3) ls rest)) :
    W p l e R s m args below meth c H locs cells slots Q (F0 m pc ls st0) :=
  tr_go hr hZ hP hD hS hC fun v w1 k n H1 locs1 hq hP hD hS => by
    obtain ⟨rfl, hq⟩ := hq
    exact kk w1 k n H1 locs1 hq hP hD hS
/-- the four kinds of call, of a triple -/
theorem trV (S : CallFix p m c cc nL s args Ts own) (hG : GoodIn Ts Ts) (hM : Tr l D cl tys Ts NX y bytes maxL ret rm (.ref b :: As) wc post) (hc : CalV Ts C y bytes maxL ret n) (hl : Cond.methodLink own index y ∈ Ts) (hR : rm.frames + 1 ≤ R.frames ∧ 8 + (maxL + 11) + rm.locals ≤ R.locals) (hZ : Sit D cl tys NX s A0) (hP : va_P D cl ws H) (hD : va_D A0 ws)
    {isC isR : List Nat} (hC : Cut ws wc wr isC isR) (q0 : Nat) {ci : Nat} {fs : List Value} {qc : vw_C} (hci : cl[ci]? = some qc) (hcn : qc.1 = C) (hq0 : ws[q0]? = some (b, .inr (ci, fs)))
    (hn : As.length = n) (hsize : ls.size = nL) (hst : st0 = As.reverse ++ .ref b :: rest) (hW : (rest.map fun v => v.category).sum ≤ 8) (hdg : decode cc pc = .ok (.invokevirtual index, 3)) (hf : cells + rm.cells ≤ R.cells ∧ slots + rm.slots ≤ R.slots) :
    RunK p l e R s m args below meth c H locs cells slots (F0 m pc ls st0) rest (fun st v t L k n => TrQ D cl wc post (Value.ref b :: As).toArray st (.returned v) t L k n) := by
  subst hcn
  exact runKV S hG hM hc hl hR ⟨TrP.blind hZ.2.2.1, va_recv hZ.1 hP hci hq0, TrP.at (av := .ref b :: As) hZ hP hD hC⟩ rfl hn hsize hst (lv_room hW) hdg hf
theorem trS (S : CallFix p m c cc nL s args Ts own) (hG : GoodIn Ts Ts) (hM : Tr l D cl tys Ts NX y bytes maxL ret rm As wc post) (hc : CalS Ts y bytes maxL ret n) (hl : Cond.methodLink own index y ∈ Ts) (hR : rm.frames + 1 ≤ R.frames ∧ 8 + (maxL + 11) + rm.locals ≤ R.locals) (hZ : Sit D cl tys NX s A0) (hP : va_P D cl ws H) (hD : va_D A0 ws)
    {isC isR : List Nat} (hC : Cut ws wc wr isC isR)
    (hn : As.length = n) (hsize : ls.size = nL) (hst : st0 = As.reverse ++ rest) (hW : (rest.map fun v => v.category).sum ≤ 8) (hdg : decode cc pc = .ok (.invokestatic index, 3)) (hf : cells + rm.cells ≤ R.cells ∧ slots + rm.slots ≤ R.slots) :
    RunK p l e R s m args below meth c H locs cells slots (F0 m pc ls st0) rest (fun st v t L k n => TrQ D cl wc post As.toArray st (.returned v) t L k n) :=
  runKS S hG hM hc hl hR ⟨TrP.blind hZ.2.2.1, TrP.at (av := As) hZ hP hD hC⟩ rfl hn hsize hst (lv_room hW) hdg hf
theorem trI (S : CallFix p m c cc nL s args Ts own) (hG : GoodIn Ts Ts) (hM : Tr l D cl tys Ts NX y bytes maxL none rm (.ref b :: As) wc post) (hc : CalI Ts y bytes maxL n) (hl : Cond.methodLink own index y ∈ Ts) (hR : rm.frames + 1 ≤ R.frames ∧ 8 + (maxL + 11) + rm.locals ≤ R.locals) (hZ : Sit D cl tys NX s A0) (hP : va_P D cl ws H) (hD : va_D A0 ws)
    {isC isR : List Nat} (hC : Cut ws wc wr isC isR)
    (hn : As.length = n) (hsize : ls.size = nL) (hst : st0 = As.reverse ++ .ref b :: rest) (hW : (rest.map fun v => v.category).sum ≤ 8) (hdg : decode cc pc = .ok (.invokespecial index, 3)) (hf : cells + rm.cells ≤ R.cells ∧ slots + rm.slots ≤ R.slots) :
    RunK p l e R s m args below meth c H locs cells slots (F0 m pc ls st0) rest (fun st v t L k n => TrQ D cl wc post (Value.ref b :: As).toArray st (.returned v) t L k n) :=
  runKI S hG hM hc hl hR ⟨TrP.blind hZ.2.2.1, TrP.at (av := .ref b :: As) hZ hP hD hC⟩ rfl hn hsize hst (lv_room hW) hdg hf
theorem trIN (S : CallFix p m c cc nL s args Ts own) (hG : GoodIn Ts Ts) (hM : Tr l D cl tys Ts NX y bytes maxL none rm (.ref b :: As) wc post) (hc : CalI Ts y bytes maxL n) (hl : Cond.methodLinkNest own index y host ∈ NX) (hR : rm.frames + 1 ≤ R.frames ∧ 8 + (maxL + 11) + rm.locals ≤ R.locals) (hZ : Sit D cl tys NX s A0) (hP : va_P D cl ws H) (hD : va_D A0 ws)
    {isC isR : List Nat} (hC : Cut ws wc wr isC isR)
    (hn : As.length = n) (hsize : ls.size = nL) (hst : st0 = As.reverse ++ .ref b :: rest) (hW : (rest.map fun v => v.category).sum ≤ 8) (hdg : decode cc pc = .ok (.invokespecial index, 3)) (hf : cells + rm.cells ≤ R.cells ∧ slots + rm.slots ≤ R.slots) :
    RunK p l e R s m args below meth c H locs cells slots (F0 m pc ls st0) rest (fun st v t L k n => TrQ D cl wc post (Value.ref b :: As).toArray st (.returned v) t L k n) :=
  runKIN S hG hM hc (hZ.2.1 _ hl) hR ⟨TrP.blind hZ.2.2.1, TrP.at (av := .ref b :: As) hZ hP hD hC⟩ rfl hn hsize hst (lv_room hW) hdg hf
end TG
/-! contracts that only read: the heap stays as it is -/
def RoQ (post : Value → Prop) : Array Value → State → Outcome → State → List Loc → Nat → Nat → Prop := fun _ st o t L k n =>
  ∃ v : Value, o = .returned (some v) ∧ post v ∧ t.heap = st.heap ∧ L = [] ∧ k = 0 ∧ n = 0
def Ro (l : Launch) (D : va_G) (cl : List vw_C) (tys : List (ClassId × FieldType)) (Ts NX : List Cond) (y : MethodName) (bytes : ByteArray) (maxL : Nat) (ret : Option FieldType) (rm : Room) (av : List Value) (wc : va_W) (post : Value → Prop) : Prop :=
  MetK l y (Cond.code y bytes maxL ret :: Ts) rm (TrP D cl tys NX av wc) (RoQ post)
section RG
variable {p : Program} {l : Launch} {e : Env} {R : Room} {s : State} {m : MethodId} {args : Array Value} {below : List Frame} {meth : Method} {c : Code} {H : Heap} {locs : List Loc} {cells slots : Nat} {Q : State → Prop}
variable {y : MethodName} {bytes cc : ByteArray} {maxL nL n index : Nat} {ret : Option FieldType} {rm : Room} {Ts NX : List Cond} {own C host : String} {b : Addr} {As rest st0 : List Value} {pc : Nat} {ls : Array Slot}
variable {D : va_G} {cl : List vw_C} {tys : List (ClassId × FieldType)} {ws wc : va_W} {A0 : Nat → Prop} {a : Array Value} {post : Value → Prop}
theorem ro_go (hr : RunK p l e R s m args below meth c H locs cells slots (F0 m pc ls st0) rest (fun st v t L k n => RoQ post a st (.returned v) t L k n))
    (kk : ∀ v : Value, post v → W p l e R s m args below meth c H locs cells slots Q (F0 m (pc + 3) ls (v :: rest))) :
    W p l e R s m args below meth c H locs cells slots Q (F0 m pc ls st0) := by
  intro T hT X
  obtain ⟨v, st₀, t, T', L, k, n, h0, X', e1, e2, ⟨v', hv, hq, hh, rfl, rfl, rfl⟩, st⟩ := hr T hT X
  cases hv
  rw [List.append_nil] at X'
  obtain ⟨t2, a1, b1⟩ := kk v' hq T' (by rw [e1, hh, h0]) X'
  exact ⟨t2, st t2 a1, b1⟩
/-- the callee's part of the caller's world -/
def Part (ws wc : va_W) (isC : List Nat) : Prop := isC.map (fun i => ws[i]?) = wc.map some ∧ va_nd isC = true
theorem TrP.part {av : List Value} (hZ : Sit D cl tys NX s A0) (hP : va_P D cl ws H) (hD : va_D A0 ws) {isC : List Nat} (hC : Part ws wc isC) :
    ∀ U : State, U.heap = H → s.WarmedH U.vm → TrP D cl tys NX av wc av.toArray U := by
  intro U hU hW
  exact ⟨rfl, by rw [hU]; exact hP.subm isC hC.1, va_K.moved hW.alike hZ.1, (hD.sub isC hC.2 hC.1).weaken (fun _ _ _ _ => trivial), hZ.2.1.warm hZ.2.2.1 hW⟩
theorem roV (S : CallFix p m c cc nL s args Ts own) (hG : GoodIn Ts Ts) (hM : Ro l D cl tys Ts NX y bytes maxL ret rm (.ref b :: As) wc post) (hc : CalV Ts C y bytes maxL ret n) (hl : Cond.methodLink own index y ∈ Ts) (hR : rm.frames + 1 ≤ R.frames ∧ 8 + (maxL + 11) + rm.locals ≤ R.locals) (hZ : Sit D cl tys NX s A0) (hP : va_P D cl ws H) (hD : va_D A0 ws)
    {isC : List Nat} (hC : Part ws wc isC) (q0 : Nat) {ci : Nat} {fs : List Value} {qc : vw_C} (hci : cl[ci]? = some qc) (hcn : qc.1 = C) (hq0 : ws[q0]? = some (b, .inr (ci, fs)))
    (hn : As.length = n) (hsize : ls.size = nL) (hst : st0 = As.reverse ++ .ref b :: rest) (hW : (rest.map fun v => v.category).sum ≤ 8) (hdg : decode cc pc = .ok (.invokevirtual index, 3)) (hf : cells + rm.cells ≤ R.cells ∧ slots + rm.slots ≤ R.slots)
    (kk : ∀ v : Value, post v → W p l e R s m args below meth c H locs cells slots Q (F0 m (pc + 3) ls (v :: rest))) : W p l e R s m args below meth c H locs cells slots Q (F0 m pc ls st0) := by
  subst hcn
  exact ro_go (runKV S hG hM hc hl hR ⟨TrP.blind hZ.2.2.1, va_recv hZ.1 hP hci hq0, TrP.part (av := .ref b :: As) hZ hP hD hC⟩ rfl hn hsize hst (lv_room hW) hdg hf) kk
theorem roS (S : CallFix p m c cc nL s args Ts own) (hG : GoodIn Ts Ts) (hM : Ro l D cl tys Ts NX y bytes maxL ret rm As wc post) (hc : CalS Ts y bytes maxL ret n) (hl : Cond.methodLink own index y ∈ Ts) (hR : rm.frames + 1 ≤ R.frames ∧ 8 + (maxL + 11) + rm.locals ≤ R.locals) (hZ : Sit D cl tys NX s A0) (hP : va_P D cl ws H) (hD : va_D A0 ws)
    {isC : List Nat} (hC : Part ws wc isC)
    (hn : As.length = n) (hsize : ls.size = nL) (hst : st0 = As.reverse ++ rest) (hW : (rest.map fun v => v.category).sum ≤ 8) (hdg : decode cc pc = .ok (.invokestatic index, 3)) (hf : cells + rm.cells ≤ R.cells ∧ slots + rm.slots ≤ R.slots)
    (kk : ∀ v : Value, post v → W p l e R s m args below meth c H locs cells slots Q (F0 m (pc + 3) ls (v :: rest))) : W p l e R s m args below meth c H locs cells slots Q (F0 m pc ls st0) :=
  ro_go (runKS S hG hM hc hl hR ⟨TrP.blind hZ.2.2.1, TrP.part (av := As) hZ hP hD hC⟩ rfl hn hsize hst (lv_room hW) hdg hf) kk
end RG
/-! the end of a method -/
def MQT (below : List Frame) (D : va_G) (cl : List vw_C) (A : Nat → Prop) (post : Option Value → va_W → Nat → Nat → Prop) (s : State) : State → Prop := fun t =>
  ∃ (v : Option Value) (w1 : va_W) (L : List Loc) (k n : Nat), t.status = .running ∧ Ended t below (.returned v) ∧ FrameEnd s (.returned v) t L k n ∧ post v w1 k n ∧ va_P D cl w1 t.heap ∧ va_D A w1 ∧ va_F A s t ∧ ∀ q ∈ L, A q.base
section TE
variable {p : Program} {l : Launch} {e : Env} {R : Room} {s : State} {m : MethodId} {args : Array Value} {below : List Frame} {meth : Method} {c : Code} {H : Heap} {locs : List Loc} {cells slots : Nat}
variable {cc : ByteArray} {pc : Nat} {ls : Array Slot} {D : va_G} {cl : List vw_C} {w1 : va_W} {A : Nat → Prop} {post : Option Value → va_W → Nat → Nat → Prop}
theorem t_ret {v : Option Value} {g : JFrame} (h : W p l e R s m args below meth c H locs cells slots (MQ below (fun _ _ o t => o = .returned v ∧ t.heap = H) args s cells slots A) g)
    (hP : va_P D cl w1 H) (hD : va_D A w1) (hS : va_S A s.heap H locs) (hq : post v w1 cells slots) : W p l e R s m args below meth c H locs cells slots (MQT below D cl A post s) g := by
  intro T hT X
  obtain ⟨t, st, o, h1, h2, ⟨rfl, hh⟩, L, hF, hL⟩ := h T hT X
  exact ⟨t, st, v, w1, L, cells, slots, h1, h2, hF, hq, by rw [hh]; exact hP, hD, hS.F hh, hL⟩
theorem t_iret (hx : p.tables.exec = Jvm.exec) (hb : c.code = cc) (hr : meth.sig.returnType = some .int) (hlk : meth.locks = false) {v : Int32} (hdg : decode cc pc = .ok (.ireturn, 1))
    (hP : va_P D cl w1 H) (hD : va_D A w1) (hS : va_S A s.heap H locs) (hq : post (some (.int v)) w1 cells slots) : W p l e R s m args below meth c H locs cells slots (MQT below D cl A post s) (F0 m pc ls [.int v]) :=
  t_ret (W.iret hx hb hr (fun t ht hW => ⟨rfl, ht⟩) hS.2.2 hdg (hlocks := hlk)) hP hD hS hq
theorem t_zret (hx : p.tables.exec = Jvm.exec) (hb : c.code = cc) (hr : meth.sig.returnType = some .boolean) (hlk : meth.locks = false) {v : Int32} (hv : narrow .boolean (.int v) = .int v) (hdg : decode cc pc = .ok (.ireturn, 1))
    (hP : va_P D cl w1 H) (hD : va_D A w1) (hS : va_S A s.heap H locs) (hq : post (some (.int v)) w1 cells slots) : W p l e R s m args below meth c H locs cells slots (MQT below D cl A post s) (F0 m pc ls [.int v]) :=
  t_ret (W.zret hx hb hr hv (fun t ht hW => ⟨rfl, ht⟩) hS.2.2 hdg (hlocks := hlk)) hP hD hS hq
theorem t_vret (hx : p.tables.exec = Jvm.exec) (hb : c.code = cc) (hr : meth.sig.returnType = none) (hlk : meth.locks = false) (hdg : decode cc pc = .ok (.return_, 1))
    (hP : va_P D cl w1 H) (hD : va_D A w1) (hS : va_S A s.heap H locs) (hq : post none w1 cells slots) : W p l e R s m args below meth c H locs cells slots (MQT below D cl A post s) (F0 m pc ls []) :=
  t_ret (W.vret hx hb hr (fun t ht hW => ⟨rfl, ht⟩) hS.2.2 hdg (hlocks := hlk)) hP hD hS hq
theorem t_lret (hx : p.tables.exec = Jvm.exec) (hb : c.code = cc) (hr : meth.sig.returnType = some .long) (hlk : meth.locks = false) {v : Int64} (hdg : decode cc pc = .ok (.lreturn, 1))
    (hP : va_P D cl w1 H) (hD : va_D A w1) (hS : va_S A s.heap H locs) (hq : post (some (.long v)) w1 cells slots) : W p l e R s m args below meth c H locs cells slots (MQT below D cl A post s) (F0 m pc ls [.long v]) :=
  t_ret (W.lret hx hb hr (fun t ht hW => ⟨rfl, ht⟩) hS.2.2 hdg (hlocks := hlk)) hP hD hS hq
theorem t_aret (hx : p.tables.exec = Jvm.exec) (hb : c.code = cc) {rt : FieldType} (hr : meth.sig.returnType = some rt) (hrt : (∃ n, rt = .object n) ∨ ∃ t, rt = .array t) (hlk : meth.locks = false) {a : Nat} (hdg : decode cc pc = .ok (.areturn, 1))
    (hP : va_P D cl w1 H) (hD : va_D A w1) (hS : va_S A s.heap H locs) (hq : post (some (.ref a)) w1 cells slots) : W p l e R s m args below meth c H locs cells slots (MQT below D cl A post s) (F0 m pc ls [.ref a]) :=
  t_ret (W.aret hx hb hr hrt (Or.inr ⟨a, rfl⟩) (fun t ht hW => ⟨rfl, ht⟩) hS.2.2 hdg (hlocks := hlk)) hP hD hS hq
end TE
theorem Tr.intro {l : Launch} {D : va_G} {cl : List vw_C} {tys : List (ClassId × FieldType)} {Ts NX : List Cond} {y : MethodName} {bytes : ByteArray} {maxL : Nat} {ret : Option FieldType} {rm : Room} {av : List Value} {wc : va_W} {post : Option Value → va_W → Nat → Nat → Prop}
    (hy : plainFor y = true) (hN : NXok NX) (hsz : (lg_sl av).length ≤ maxL)
    (body : ∀ (p : Program) (e : Env) (s : State) (m : MethodId) (args : Array Value) (below : List Frame) (meth : Method) (c : Code) (A : Nat → Prop) (ls : Array Slot),
      p.tables.exec = Jvm.exec → c.code = bytes → c.maxLocals = maxL → s.vm.findClass y.cls = some m.cls → (∀ w ∈ Ts, w.before args s = true) → meth.sig.returnType = ret → meth.locks = false → meth.name = y.name →
      Sit D cl tys NX s A → va_P D cl wc s.heap → va_D A wc → va_S A s.heap s.heap [] → lv_has ls maxL (lv_args 0 av) →
      W p l e rm s m args below meth c s.heap [] 0 0 (MQT below D cl A post s) (F0 m 0 ls [])) : Tr l D cl tys Ts NX y bytes maxL ret rm av wc post := by
  unfold Tr MetK
  refine MetFree.of_bodySF (code := bytes) (maxLocals := maxL) (ret := ret) hy ?_ ?_
  · intro args s m h hn
    obtain ⟨meth, c, h1, h2, h3, h4, h5, h6, -, -⟩ := Cond.code_spec hn (atoms_spec (ws := Cond.code y bytes maxL ret :: Ts) h _ List.mem_cons_self)
    exact ⟨meth, c, h1, h2, h3, h4, h5, h6⟩
  · intro p e s m args below meth c s₁ B hml hP _
    obtain ⟨rfl, hP, hK, hD0, hNs⟩ := hP
    have hh0 : s₁.heap = s.heap := by rw [B.state]; rfl
    have hts := atoms_spec (ws := Cond.code y bytes maxL ret :: Ts) B.pre
    have hb := body p e s m av.toArray below meth c (va_A wc s.heap.size) _ B.exec B.bytes hml (findClass_of_methodNamed B.named) (fun w hw => hts w (List.mem_cons_of_mem _ hw)) B.returns B.notSynchronized (name_of_methodNamed B.named B.method).1
      ⟨hK, hNs, hN, fun q h => Or.inr h⟩ hP (hD0.self (sz := s.heap.size)) va_S.rf (lv_entry av (n := maxL) hsz)
    rw [← lg_entry_eq] at hb
    obtain ⟨t, a1, v, w1, L, k, n, b1, b2, b3, b4, b5, b6, b7, b8⟩ := hb s₁ hh0 (Stand.of_body B)
    exact ⟨t, .returned v, a1, b1, b2, L, k, n, b3, v, w1, rfl, b4, b5, b6, b7, b8⟩
/-- the end of a method that only reads -/
def MQR (below : List Frame) (post : Value → Prop) (s : State) : State → Prop := fun t =>
  ∃ v : Value, t.status = .running ∧ Ended t below (.returned (some v)) ∧ FrameEnd s (.returned (some v)) t [] 0 0 ∧ post v ∧ t.heap = s.heap
section RE
variable {p : Program} {l : Launch} {e : Env} {R : Room} {s : State} {m : MethodId} {args : Array Value} {below : List Frame} {meth : Method} {c : Code}
variable {cc : ByteArray} {pc : Nat} {ls : Array Slot} {post : Value → Prop}
theorem r_ret {v : Value} {g : JFrame} (h : W p l e R s m args below meth c s.heap [] 0 0 (MQ below (fun _ _ o t => o = .returned (some v) ∧ t.heap = s.heap) args s 0 0 (fun _ => False)) g)
    (hq : post v) : W p l e R s m args below meth c s.heap [] 0 0 (MQR below post s) g := by
  intro T hT X
  obtain ⟨t, st, o, h1, h2, ⟨rfl, hh⟩, L, hF, hL⟩ := h T hT X
  have hn : L = [] := by
    cases L with
    | nil => rfl
    | cons q L => exact absurd (hL q List.mem_cons_self) (fun h => h)
  subst hn
  exact ⟨t, st, v, h1, h2, hF, hq, hh⟩
theorem r_iret (hx : p.tables.exec = Jvm.exec) (hb : c.code = cc) (hr : meth.sig.returnType = some .int) (hlk : meth.locks = false) {v : Int32} (hdg : decode cc pc = .ok (.ireturn, 1))
    (hq : post (.int v)) : W p l e R s m args below meth c s.heap [] 0 0 (MQR below post s) (F0 m pc ls [.int v]) :=
  r_ret (W.iret hx hb hr (fun t ht hW => ⟨rfl, ht⟩) (fun q h => by cases h) hdg (hlocks := hlk)) hq
theorem r_zret (hx : p.tables.exec = Jvm.exec) (hb : c.code = cc) (hr : meth.sig.returnType = some .boolean) (hlk : meth.locks = false) {v : Int32} (hv : narrow .boolean (.int v) = .int v) (hdg : decode cc pc = .ok (.ireturn, 1))
    (hq : post (.int v)) : W p l e R s m args below meth c s.heap [] 0 0 (MQR below post s) (F0 m pc ls [.int v]) :=
  r_ret (W.zret hx hb hr hv (fun t ht hW => ⟨rfl, ht⟩) (fun q h => by cases h) hdg (hlocks := hlk)) hq
theorem r_lret (hx : p.tables.exec = Jvm.exec) (hb : c.code = cc) (hr : meth.sig.returnType = some .long) (hlk : meth.locks = false) {v : Int64} (hdg : decode cc pc = .ok (.lreturn, 1))
    (hq : post (.long v)) : W p l e R s m args below meth c s.heap [] 0 0 (MQR below post s) (F0 m pc ls [.long v]) :=
  r_ret (W.lret hx hb hr (fun t ht hW => ⟨rfl, ht⟩) (fun q h => by cases h) hdg (hlocks := hlk)) hq
theorem r_aret (hx : p.tables.exec = Jvm.exec) (hb : c.code = cc) {rt : FieldType} (hr : meth.sig.returnType = some rt) (hrt : (∃ n, rt = .object n) ∨ ∃ t, rt = .array t) (hlk : meth.locks = false) {a : Nat} (hdg : decode cc pc = .ok (.areturn, 1))
    (hq : post (.ref a)) : W p l e R s m args below meth c s.heap [] 0 0 (MQR below post s) (F0 m pc ls [.ref a]) :=
  r_ret (W.aret hx hb hr hrt (Or.inr ⟨a, rfl⟩) (fun t ht hW => ⟨rfl, ht⟩) (fun q h => by cases h) hdg (hlocks := hlk)) hq
end RE
theorem Ro.intro {l : Launch} {D : va_G} {cl : List vw_C} {tys : List (ClassId × FieldType)} {Ts NX : List Cond} {y : MethodName} {bytes : ByteArray} {maxL : Nat} {ret : Option FieldType} {rm : Room} {av : List Value} {wc : va_W} {post : Value → Prop}
    (hy : plainFor y = true) (hN : NXok NX) (hsz : (lg_sl av).length ≤ maxL)
    (body : ∀ (p : Program) (e : Env) (s : State) (m : MethodId) (args : Array Value) (below : List Frame) (meth : Method) (c : Code) (A : Nat → Prop) (ls : Array Slot),
      p.tables.exec = Jvm.exec → c.code = bytes → c.maxLocals = maxL → s.vm.findClass y.cls = some m.cls → (∀ w ∈ Ts, w.before args s = true) → meth.sig.returnType = ret → meth.locks = false → meth.name = y.name →
      Sit D cl tys NX s A → va_P D cl wc s.heap → va_D A wc → lv_has ls maxL (lv_args 0 av) →
      W p l e rm s m args below meth c s.heap [] 0 0 (MQR below post s) (F0 m 0 ls [])) : Ro l D cl tys Ts NX y bytes maxL ret rm av wc post := by
  unfold Ro MetK
  refine MetFree.of_bodySF (code := bytes) (maxLocals := maxL) (ret := ret) hy ?_ ?_
  · intro args s m h hn
    obtain ⟨meth, c, h1, h2, h3, h4, h5, h6, -, -⟩ := Cond.code_spec hn (atoms_spec (ws := Cond.code y bytes maxL ret :: Ts) h _ List.mem_cons_self)
    exact ⟨meth, c, h1, h2, h3, h4, h5, h6⟩
  · intro p e s m args below meth c s₁ B hml hP _
    obtain ⟨rfl, hP, hK, hD0, hNs⟩ := hP
    have hh0 : s₁.heap = s.heap := by rw [B.state]; rfl
    have hts := atoms_spec (ws := Cond.code y bytes maxL ret :: Ts) B.pre
    have hb := body p e s m av.toArray below meth c (va_A wc s.heap.size) _ B.exec B.bytes hml (findClass_of_methodNamed B.named) (fun w hw => hts w (List.mem_cons_of_mem _ hw)) B.returns B.notSynchronized (name_of_methodNamed B.named B.method).1
      ⟨hK, hNs, hN, fun q h => Or.inr h⟩ hP (hD0.self (sz := s.heap.size)) (lv_entry av (n := maxL) hsz)
    rw [← lg_entry_eq] at hb
    obtain ⟨t, a1, v, b1, b2, b3, b4, b5⟩ := hb s₁ hh0 (Stand.of_body B)
    exact ⟨t, .returned (some v), a1, b1, b2, [], 0, 0, b3, v, rfl, b4, b5, rfl, rfl, rfl⟩
section TV
variable {p : Program} {l : Launch} {e : Env} {R : Room} {s : State} {m : MethodId} {args : Array Value} {below : List Frame} {meth : Method} {c : Code} {H : Heap} {locs : List Loc} {cells slots : Nat} {Q : State → Prop} {pc : Nat} {ls : Array Slot} {rest : List Value}
theorem lv_tv {x y : Int32} (h : x = y) (k : W p l e R s m args below meth c H locs cells slots Q (F0 m pc ls (.int y :: rest))) : W p l e R s m args below meth c H locs cells slots Q (F0 m pc ls (.int x :: rest)) := by
  rw [h]; exact k
theorem lv_tvl {x y : Int64} (h : x = y) (k : W p l e R s m args below meth c H locs cells slots Q (F0 m pc ls (.long y :: rest))) : W p l e R s m args below meth c H locs cells slots Q (F0 m pc ls (.long x :: rest)) := by
  rw [h]; exact k
/-- a new array of numbers, of a class of arrays that is known -/
theorem t_newa {cc : ByteArray} {D : va_G} {cl : List vw_C} {tys : List (ClassId × FieldType)} {ws : va_W} {A : Nat → Prop} (hexec : p.tables.exec = Jvm.exec) (hb : c.code = cc) {atype : ArrayType} (harr : (Cond.arrayClass (newarray.typeOf atype)).before args s = true) {ty : FieldType} (hty : newarray.typeOf atype = ty) (hK : va_K D cl tys s) (hP : va_P D cl ws H) (hD : va_D A ws) (hS : va_S A s.heap H locs) (hA : ∀ q, s.heap.size ≤ q → A q)
    (t0 : Nat) {cA : ClassId} (ht : tys[t0]? = some (cA, ty)) {n : Int32} {N' : Nat} {a0 : vp_A} (ha : ∀ cA : ClassId, vp_cell cA a0 = arrV cA N' (fun _ => defaultValue ty)) (hn : ¬ n < 0) (hN : n.toNatClampNeg = N') (hbytes : N' * componentBytes ty ≤ 536870912) (hcells : cells + 1 ≤ R.cells) (hslots : slots + N' ≤ R.slots) (hdg : decode cc pc = .ok (.newarray atype, 2))
    (kk : ∀ (q : Nat) (H1 : Heap), va_P D cl (ws ++ [(q, .inl (cA, a0))]) H1 → va_D A (ws ++ [(q, .inl (cA, a0))]) → va_S A s.heap H1 locs →
      W p l e R s m args below meth c H1 locs (cells + 1) (slots + N') Q (F0 m (pc + 2) ls (.ref q :: rest))) : W p l e R s m args below meth c H locs cells slots Q (F0 m pc ls (.int n :: rest)) := by
  refine va_newa hexec hb harr hty hK hP hD hS hA ha hn hN hbytes hcells hslots hdg (fun q cA' H1 hK' hP' hD' hS' => ?_)
  have h1 := (hK.2 t0 _ ht).2
  have h2 := (hK'.2 tys.length (cA', ty) (by rw [List.getElem?_append_right (Nat.le_refl _), Nat.sub_self]; rfl)).2
  have hc : cA' = cA := by
    subst hty
    cases atype <;> exact Option.some.inj (h2.symm.trans h1)
  subst hc
  exact kk q H1 hP' hD' hS'
end TV
end
section
def gd_tbl : List Cond := lw_tbl.filter goodWord
theorem gd_good : GoodIn gd_tbl gd_tbl := fun w h => ⟨h, good_of_word (List.mem_filter.mp h).2⟩
def nx_tbl : List Cond := [(Jvm.Cond.methodLinkNest "CharOutlines" (9 : Nat) ({ cls := "CharOutlines$Bytes", name := "<init>", desc := "()V" } : Jvm.MethodName) "CharOutlines"), (Jvm.Cond.methodLinkNest "CharOutlines" (18 : Nat) ({ cls := "CharOutlines$Machine", name := "<init>", desc := "()V" } : Jvm.MethodName) "CharOutlines"), (Jvm.Cond.methodLinkNest "CharOutlines$Machine" (11 : Nat) ({ cls := "CharOutlines$Strings", name := "<init>", desc := "()V" } : Jvm.MethodName) "CharOutlines"), (Jvm.Cond.methodLinkNest "CharOutlines$Strings" (11 : Nat) ({ cls := "CharOutlines$Shelf", name := "<init>", desc := "()V" } : Jvm.MethodName) "CharOutlines"), (Jvm.Cond.methodLinkNest "CharOutlines$Shelf" (11 : Nat) ({ cls := "CharOutlines$Bytes", name := "<init>", desc := "()V" } : Jvm.MethodName) "CharOutlines"), (Jvm.Cond.methodLinkNest "CharOutlines$Machine" (20 : Nat) ({ cls := "CharOutlines$Values", name := "<init>", desc := "()V" } : Jvm.MethodName) "CharOutlines"), (Jvm.Cond.methodLinkNest "CharOutlines$Machine" (27 : Nat) ({ cls := "CharOutlines$Reckoning", name := "<init>", desc := "()V" } : Jvm.MethodName) "CharOutlines"), (Jvm.Cond.methodLinkNest "CharOutlines$Machine" (34 : Nat) ({ cls := "CharOutlines$Outline", name := "<init>", desc := "()V" } : Jvm.MethodName) "CharOutlines")]
theorem nx_ok : NXok nx_tbl := by
  intro w hw
  simp only [nx_tbl, List.mem_cons, List.not_mem_nil, or_false] at hw
  rcases hw with rfl | rfl | rfl | rfl | rfl | rfl | rfl | rfl
  · exact Or.inl ⟨_, _, _, _, rfl⟩
  · exact Or.inl ⟨_, _, _, _, rfl⟩
  · exact Or.inl ⟨_, _, _, _, rfl⟩
  · exact Or.inl ⟨_, _, _, _, rfl⟩
  · exact Or.inl ⟨_, _, _, _, rfl⟩
  · exact Or.inl ⟨_, _, _, _, rfl⟩
  · exact Or.inl ⟨_, _, _, _, rfl⟩
  · exact Or.inl ⟨_, _, _, _, rfl⟩
set_option maxRecDepth 100000 in
theorem nx_in : ∀ w ∈ nx_tbl, w ∈ lw_tbl := by
  intro w hw
  simp only [nx_tbl, List.mem_cons, List.not_mem_nil, or_false] at hw
  rcases hw with rfl | rfl | rfl | rfl | rfl | rfl | rfl | rfl
  · exact List.mem_of_getElem? (i := 88) rfl
  · exact List.mem_of_getElem? (i := 102) rfl
  · exact List.mem_of_getElem? (i := 108) rfl
  · exact List.mem_of_getElem? (i := 114) rfl
  · exact List.mem_of_getElem? (i := 119) rfl
  · exact List.mem_of_getElem? (i := 155) rfl
  · exact List.mem_of_getElem? (i := 171) rfl
  · exact List.mem_of_getElem? (i := 181) rfl
abbrev TY (cB cI cJ : ClassId) : List (ClassId × FieldType) := [(cB, .byte), (cI, .int), (cJ, .long)]
abbrev R_By : String := "CharOutlines$Bytes"
def F_By : u_T := fun k => match k with
  | 0 => ("CharOutlines$Bytes", "room", "[B", false)
  | _ => ("CharOutlines$Bytes", "length", "I", false)
def t_By : Nat → FieldType := fun k => match k with
  | 0 => .array .byte
  | _ => .int
theorem n_By : ∀ a, a < 2 → ∀ b, b < 2 → a ≠ b → (F_By a).2.1 ≠ (F_By b).2.1 := by decide +kernel
theorem t_By_ok : ∀ k, k < 2 → parseFieldDescriptor (F_By k).2.2.1 = some (t_By k) := by decide +kernel
set_option maxRecDepth 100000 in
theorem i_By : ∀ w ∈ u_ws R_By F_By 2, w ∈ gd_tbl := by
  intro w hw
  obtain ⟨k, hk, rfl⟩ := List.mem_map.mp hw
  have hk : k < 2 := List.mem_range.mp hk
  match k, hk with
  | 0, _ => exact List.mem_filter.mpr ⟨List.mem_of_getElem? (i := 94) rfl, rfl⟩
  | 1, _ => exact List.mem_filter.mpr ⟨List.mem_of_getElem? (i := 96) rfl, rfl⟩
  | k + 2, h => exact absurd h (by omega)
set_option maxRecDepth 100000 in
theorem in_By : Cond.instantiable R_By 2 ∈ gd_tbl := List.mem_filter.mpr ⟨List.mem_of_getElem? (i := 87) rfl, rfl⟩
set_option maxRecDepth 100000 in
theorem ini_By : Cond.initialized R_By ∈ gd_tbl := List.mem_filter.mpr ⟨List.mem_of_getElem? (i := 61) rfl, rfl⟩
abbrev R_Sh : String := "CharOutlines$Shelf"
def F_Sh : u_T := fun k => match k with
  | 0 => ("CharOutlines$Shelf", "bytes", "LCharOutlines$Bytes;", true)
  | _ => ("CharOutlines$Shelf", "strings", "I", false)
def t_Sh : Nat → FieldType := fun k => match k with
  | 0 => .object "CharOutlines$Bytes"
  | _ => .int
theorem n_Sh : ∀ a, a < 2 → ∀ b, b < 2 → a ≠ b → (F_Sh a).2.1 ≠ (F_Sh b).2.1 := by decide +kernel
theorem t_Sh_ok : ∀ k, k < 2 → parseFieldDescriptor (F_Sh k).2.2.1 = some (t_Sh k) := by decide +kernel
set_option maxRecDepth 100000 in
theorem i_Sh : ∀ w ∈ u_ws R_Sh F_Sh 2, w ∈ gd_tbl := by
  intro w hw
  obtain ⟨k, hk, rfl⟩ := List.mem_map.mp hw
  have hk : k < 2 := List.mem_range.mp hk
  match k, hk with
  | 0, _ => exact List.mem_filter.mpr ⟨List.mem_of_getElem? (i := 122) rfl, rfl⟩
  | 1, _ => exact List.mem_filter.mpr ⟨List.mem_of_getElem? (i := 124) rfl, rfl⟩
  | k + 2, h => exact absurd h (by omega)
set_option maxRecDepth 100000 in
theorem in_Sh : Cond.instantiable R_Sh 2 ∈ gd_tbl := List.mem_filter.mpr ⟨List.mem_of_getElem? (i := 113) rfl, rfl⟩
set_option maxRecDepth 100000 in
theorem ini_Sh : Cond.initialized R_Sh ∈ gd_tbl := List.mem_filter.mpr ⟨List.mem_of_getElem? (i := 64) rfl, rfl⟩
abbrev R_St : String := "CharOutlines$Strings"
def F_St : u_T := fun k => match k with
  | 0 => ("CharOutlines$Strings", "programs", "LCharOutlines$Shelf;", true)
  | 1 => ("CharOutlines$Strings", "globals", "LCharOutlines$Shelf;", true)
  | 2 => ("CharOutlines$Strings", "locals", "LCharOutlines$Shelf;", true)
  | 3 => ("CharOutlines$Strings", "kinds", "[I", true)
  | 4 => ("CharOutlines$Strings", "places", "[I", true)
  | 5 => ("CharOutlines$Strings", "ends", "[I", true)
  | 6 => ("CharOutlines$Strings", "depth", "I", false)
  | _ => ("CharOutlines$Strings", "deepest", "I", false)
def t_St : Nat → FieldType := fun k => match k with
  | 0 => .object "CharOutlines$Shelf"
  | 1 => .object "CharOutlines$Shelf"
  | 2 => .object "CharOutlines$Shelf"
  | 3 => .array .int
  | 4 => .array .int
  | 5 => .array .int
  | 6 => .int
  | _ => .int
theorem n_St : ∀ a, a < 8 → ∀ b, b < 8 → a ≠ b → (F_St a).2.1 ≠ (F_St b).2.1 := by decide +kernel
theorem t_St_ok : ∀ k, k < 8 → parseFieldDescriptor (F_St k).2.2.1 = some (t_St k) := by decide +kernel
set_option maxRecDepth 100000 in
theorem i_St : ∀ w ∈ u_ws R_St F_St 8, w ∈ gd_tbl := by
  intro w hw
  obtain ⟨k, hk, rfl⟩ := List.mem_map.mp hw
  have hk : k < 8 := List.mem_range.mp hk
  match k, hk with
  | 0, _ => exact List.mem_filter.mpr ⟨List.mem_of_getElem? (i := 135) rfl, rfl⟩
  | 1, _ => exact List.mem_filter.mpr ⟨List.mem_of_getElem? (i := 137) rfl, rfl⟩
  | 2, _ => exact List.mem_filter.mpr ⟨List.mem_of_getElem? (i := 139) rfl, rfl⟩
  | 3, _ => exact List.mem_filter.mpr ⟨List.mem_of_getElem? (i := 141) rfl, rfl⟩
  | 4, _ => exact List.mem_filter.mpr ⟨List.mem_of_getElem? (i := 143) rfl, rfl⟩
  | 5, _ => exact List.mem_filter.mpr ⟨List.mem_of_getElem? (i := 145) rfl, rfl⟩
  | 6, _ => exact List.mem_filter.mpr ⟨List.mem_of_getElem? (i := 147) rfl, rfl⟩
  | 7, _ => exact List.mem_filter.mpr ⟨List.mem_of_getElem? (i := 149) rfl, rfl⟩
  | k + 8, h => exact absurd h (by omega)
set_option maxRecDepth 100000 in
theorem in_St : Cond.instantiable R_St 8 ∈ gd_tbl := List.mem_filter.mpr ⟨List.mem_of_getElem? (i := 107) rfl, rfl⟩
set_option maxRecDepth 100000 in
theorem ini_St : Cond.initialized R_St ∈ gd_tbl := List.mem_filter.mpr ⟨List.mem_of_getElem? (i := 63) rfl, rfl⟩
abbrev R_Va : String := "CharOutlines$Values"
def F_Va : u_T := fun k => match k with
  | 0 => ("CharOutlines$Values", "values", "[I", true)
  | 1 => ("CharOutlines$Values", "turned", "[I", true)
  | _ => ("CharOutlines$Values", "size", "I", false)
def t_Va : Nat → FieldType := fun k => match k with
  | 0 => .array .int
  | 1 => .array .int
  | _ => .int
theorem n_Va : ∀ a, a < 3 → ∀ b, b < 3 → a ≠ b → (F_Va a).2.1 ≠ (F_Va b).2.1 := by decide +kernel
theorem t_Va_ok : ∀ k, k < 3 → parseFieldDescriptor (F_Va k).2.2.1 = some (t_Va k) := by decide +kernel
set_option maxRecDepth 100000 in
theorem i_Va : ∀ w ∈ u_ws R_Va F_Va 3, w ∈ gd_tbl := by
  intro w hw
  obtain ⟨k, hk, rfl⟩ := List.mem_map.mp hw
  have hk : k < 3 := List.mem_range.mp hk
  match k, hk with
  | 0, _ => exact List.mem_filter.mpr ⟨List.mem_of_getElem? (i := 162) rfl, rfl⟩
  | 1, _ => exact List.mem_filter.mpr ⟨List.mem_of_getElem? (i := 164) rfl, rfl⟩
  | 2, _ => exact List.mem_filter.mpr ⟨List.mem_of_getElem? (i := 166) rfl, rfl⟩
  | k + 3, h => exact absurd h (by omega)
set_option maxRecDepth 100000 in
theorem in_Va : Cond.instantiable R_Va 3 ∈ gd_tbl := List.mem_filter.mpr ⟨List.mem_of_getElem? (i := 154) rfl, rfl⟩
set_option maxRecDepth 100000 in
theorem ini_Va : Cond.initialized R_Va ∈ gd_tbl := List.mem_filter.mpr ⟨List.mem_of_getElem? (i := 65) rfl, rfl⟩
abbrev R_Ou : String := "CharOutlines$Outline"
def F_Ou : u_T := fun k => match k with
  | 0 => ("CharOutlines$Outline", "room", "[I", false)
  | 1 => ("CharOutlines$Outline", "marks", "I", false)
  | 2 => ("CharOutlines$Outline", "x", "I", false)
  | _ => ("CharOutlines$Outline", "y", "I", false)
def t_Ou : Nat → FieldType := fun k => match k with
  | 0 => .array .int
  | 1 => .int
  | 2 => .int
  | _ => .int
theorem n_Ou : ∀ a, a < 4 → ∀ b, b < 4 → a ≠ b → (F_Ou a).2.1 ≠ (F_Ou b).2.1 := by decide +kernel
theorem t_Ou_ok : ∀ k, k < 4 → parseFieldDescriptor (F_Ou k).2.2.1 = some (t_Ou k) := by decide +kernel
set_option maxRecDepth 100000 in
theorem i_Ou : ∀ w ∈ u_ws R_Ou F_Ou 4, w ∈ gd_tbl := by
  intro w hw
  obtain ⟨k, hk, rfl⟩ := List.mem_map.mp hw
  have hk : k < 4 := List.mem_range.mp hk
  match k, hk with
  | 0, _ => exact List.mem_filter.mpr ⟨List.mem_of_getElem? (i := 189) rfl, rfl⟩
  | 1, _ => exact List.mem_filter.mpr ⟨List.mem_of_getElem? (i := 191) rfl, rfl⟩
  | 2, _ => exact List.mem_filter.mpr ⟨List.mem_of_getElem? (i := 193) rfl, rfl⟩
  | 3, _ => exact List.mem_filter.mpr ⟨List.mem_of_getElem? (i := 195) rfl, rfl⟩
  | k + 4, h => exact absurd h (by omega)
set_option maxRecDepth 100000 in
theorem in_Ou : Cond.instantiable R_Ou 4 ∈ gd_tbl := List.mem_filter.mpr ⟨List.mem_of_getElem? (i := 180) rfl, rfl⟩
set_option maxRecDepth 100000 in
theorem ini_Ou : Cond.initialized R_Ou ∈ gd_tbl := List.mem_filter.mpr ⟨List.mem_of_getElem? (i := 67) rfl, rfl⟩
abbrev R_Re : String := "CharOutlines$Reckoning"
def F_Re : u_T := fun k => match k with
  | _ => ("CharOutlines$Reckoning", "places", "[I", true)
def t_Re : Nat → FieldType := fun k => match k with
  | _ => .array .int
theorem n_Re : ∀ a, a < 1 → ∀ b, b < 1 → a ≠ b → (F_Re a).2.1 ≠ (F_Re b).2.1 := by decide +kernel
theorem t_Re_ok : ∀ k, k < 1 → parseFieldDescriptor (F_Re k).2.2.1 = some (t_Re k) := by decide +kernel
set_option maxRecDepth 100000 in
theorem i_Re : ∀ w ∈ u_ws R_Re F_Re 1, w ∈ gd_tbl := by
  intro w hw
  obtain ⟨k, hk, rfl⟩ := List.mem_map.mp hw
  have hk : k < 1 := List.mem_range.mp hk
  match k, hk with
  | 0, _ => exact List.mem_filter.mpr ⟨List.mem_of_getElem? (i := 176) rfl, rfl⟩
  | k + 1, h => exact absurd h (by omega)
set_option maxRecDepth 100000 in
theorem in_Re : Cond.instantiable R_Re 1 ∈ gd_tbl := List.mem_filter.mpr ⟨List.mem_of_getElem? (i := 170) rfl, rfl⟩
set_option maxRecDepth 100000 in
theorem ini_Re : Cond.initialized R_Re ∈ gd_tbl := List.mem_filter.mpr ⟨List.mem_of_getElem? (i := 66) rfl, rfl⟩
abbrev R_Ma : String := "CharOutlines$Machine"
def F_Ma : u_T := fun k => match k with
  | 0 => ("CharOutlines$Machine", "strings", "LCharOutlines$Strings;", true)
  | 1 => ("CharOutlines$Machine", "values", "LCharOutlines$Values;", true)
  | 2 => ("CharOutlines$Machine", "reckoning", "LCharOutlines$Reckoning;", true)
  | 3 => ("CharOutlines$Machine", "outline", "LCharOutlines$Outline;", true)
  | 4 => ("CharOutlines$Machine", "hasRun", "Z", false)
  | 5 => ("CharOutlines$Machine", "steps", "I", false)
  | 6 => ("CharOutlines$Machine", "hints", "I", false)
  | 7 => ("CharOutlines$Machine", "widthPassed", "Z", false)
  | 8 => ("CharOutlines$Machine", "widthTold", "Z", false)
  | 9 => ("CharOutlines$Machine", "width", "I", false)
  | _ => ("CharOutlines$Machine", "moved", "Z", false)
def t_Ma : Nat → FieldType := fun k => match k with
  | 0 => .object "CharOutlines$Strings"
  | 1 => .object "CharOutlines$Values"
  | 2 => .object "CharOutlines$Reckoning"
  | 3 => .object "CharOutlines$Outline"
  | 4 => .boolean
  | 5 => .int
  | 6 => .int
  | 7 => .boolean
  | 8 => .boolean
  | 9 => .int
  | _ => .boolean
theorem n_Ma : ∀ a, a < 11 → ∀ b, b < 11 → a ≠ b → (F_Ma a).2.1 ≠ (F_Ma b).2.1 := by decide +kernel
theorem t_Ma_ok : ∀ k, k < 11 → parseFieldDescriptor (F_Ma k).2.2.1 = some (t_Ma k) := by decide +kernel
set_option maxRecDepth 100000 in
theorem i_Ma : ∀ w ∈ u_ws R_Ma F_Ma 11, w ∈ gd_tbl := by
  intro w hw
  obtain ⟨k, hk, rfl⟩ := List.mem_map.mp hw
  have hk : k < 11 := List.mem_range.mp hk
  match k, hk with
  | 0, _ => exact List.mem_filter.mpr ⟨List.mem_of_getElem? (i := 209) rfl, rfl⟩
  | 1, _ => exact List.mem_filter.mpr ⟨List.mem_of_getElem? (i := 211) rfl, rfl⟩
  | 2, _ => exact List.mem_filter.mpr ⟨List.mem_of_getElem? (i := 213) rfl, rfl⟩
  | 3, _ => exact List.mem_filter.mpr ⟨List.mem_of_getElem? (i := 215) rfl, rfl⟩
  | 4, _ => exact List.mem_filter.mpr ⟨List.mem_of_getElem? (i := 217) rfl, rfl⟩
  | 5, _ => exact List.mem_filter.mpr ⟨List.mem_of_getElem? (i := 219) rfl, rfl⟩
  | 6, _ => exact List.mem_filter.mpr ⟨List.mem_of_getElem? (i := 221) rfl, rfl⟩
  | 7, _ => exact List.mem_filter.mpr ⟨List.mem_of_getElem? (i := 223) rfl, rfl⟩
  | 8, _ => exact List.mem_filter.mpr ⟨List.mem_of_getElem? (i := 225) rfl, rfl⟩
  | 9, _ => exact List.mem_filter.mpr ⟨List.mem_of_getElem? (i := 227) rfl, rfl⟩
  | 10, _ => exact List.mem_filter.mpr ⟨List.mem_of_getElem? (i := 229) rfl, rfl⟩
  | k + 11, h => exact absurd h (by omega)
set_option maxRecDepth 100000 in
theorem in_Ma : Cond.instantiable R_Ma 11 ∈ gd_tbl := List.mem_filter.mpr ⟨List.mem_of_getElem? (i := 101) rfl, rfl⟩
set_option maxRecDepth 100000 in
theorem ini_Ma : Cond.initialized R_Ma ∈ gd_tbl := List.mem_filter.mpr ⟨List.mem_of_getElem? (i := 62) rfl, rfl⟩
abbrev R_CO : String := "CharOutlines"
def F_CO : u_T := fun k => match k with
  | 0 => ("CharOutlines", "row", "LCharOutlines$Bytes;", true)
  | _ => ("CharOutlines", "machine", "LCharOutlines$Machine;", true)
def t_CO : Nat → FieldType := fun k => match k with
  | 0 => .object "CharOutlines$Bytes"
  | _ => .object "CharOutlines$Machine"
theorem n_CO : ∀ a, a < 2 → ∀ b, b < 2 → a ≠ b → (F_CO a).2.1 ≠ (F_CO b).2.1 := by decide +kernel
theorem t_CO_ok : ∀ k, k < 2 → parseFieldDescriptor (F_CO k).2.2.1 = some (t_CO k) := by decide +kernel
set_option maxRecDepth 100000 in
theorem i_CO : ∀ w ∈ u_ws R_CO F_CO 2, w ∈ gd_tbl := by
  intro w hw
  obtain ⟨k, hk, rfl⟩ := List.mem_map.mp hw
  have hk : k < 2 := List.mem_range.mp hk
  match k, hk with
  | 0, _ => exact List.mem_filter.mpr ⟨List.mem_of_getElem? (i := 234) rfl, rfl⟩
  | 1, _ => exact List.mem_filter.mpr ⟨List.mem_of_getElem? (i := 236) rfl, rfl⟩
  | k + 2, h => exact absurd h (by omega)
set_option maxRecDepth 100000 in
theorem in_CO : Cond.instantiable R_CO 2 ∈ gd_tbl := List.mem_filter.mpr ⟨List.mem_of_getElem? (i := 79) rfl, rfl⟩
set_option maxRecDepth 100000 in
theorem ini_CO : Cond.initialized R_CO ∈ gd_tbl := List.mem_filter.mpr ⟨List.mem_of_getElem? (i := 60) rfl, rfl⟩
abbrev R_Mo : String := "CharOutlinesModel"
def F_Mo : u_T := fun k => match k with
  | 0 => ("CharOutlinesModel", "fault", "I", false)
  | 1 => ("CharOutlinesModel", "size", "I", false)
  | 2 => ("CharOutlinesModel", "row", "[I", true)
  | 3 => ("CharOutlinesModel", "shelves", "[I", true)
  | 4 => ("CharOutlinesModel", "many", "[I", true)
  | 5 => ("CharOutlinesModel", "widths", "[I", true)
  | 6 => ("CharOutlinesModel", "marks", "I", false)
  | 7 => ("CharOutlinesModel", "mark", "[I", true)
  | 8 => ("CharOutlinesModel", "shown", "I", false)
  | 9 => ("CharOutlinesModel", "shownMark", "[I", true)
  | 10 => ("CharOutlinesModel", "wasRun", "Z", false)
  | 11 => ("CharOutlinesModel", "wrong", "I", false)
  | 12 => ("CharOutlinesModel", "ended", "Z", false)
  | 13 => ("CharOutlinesModel", "steps", "I", false)
  | 14 => ("CharOutlinesModel", "hints", "I", false)
  | 15 => ("CharOutlinesModel", "hasWidth", "Z", false)
  | 16 => ("CharOutlinesModel", "width", "I", false)
  | 17 => ("CharOutlinesModel", "first", "Z", false)
  | 18 => ("CharOutlinesModel", "moved", "Z", false)
  | 19 => ("CharOutlinesModel", "deepest", "I", false)
  | 20 => ("CharOutlinesModel", "x", "I", false)
  | 21 => ("CharOutlinesModel", "y", "I", false)
  | 22 => ("CharOutlinesModel", "top", "I", false)
  | 23 => ("CharOutlinesModel", "stack", "[I", true)
  | 24 => ("CharOutlinesModel", "places", "[I", true)
  | 25 => ("CharOutlinesModel", "depth", "I", false)
  | 26 => ("CharOutlinesModel", "kinds", "[I", true)
  | 27 => ("CharOutlinesModel", "ats", "[I", true)
  | _ => ("CharOutlinesModel", "ends", "[I", true)
def t_Mo : Nat → FieldType := fun k => match k with
  | 0 => .int
  | 1 => .int
  | 2 => .array .int
  | 3 => .array .int
  | 4 => .array .int
  | 5 => .array .int
  | 6 => .int
  | 7 => .array .int
  | 8 => .int
  | 9 => .array .int
  | 10 => .boolean
  | 11 => .int
  | 12 => .boolean
  | 13 => .int
  | 14 => .int
  | 15 => .boolean
  | 16 => .int
  | 17 => .boolean
  | 18 => .boolean
  | 19 => .int
  | 20 => .int
  | 21 => .int
  | 22 => .int
  | 23 => .array .int
  | 24 => .array .int
  | 25 => .int
  | 26 => .array .int
  | 27 => .array .int
  | _ => .array .int
theorem n_Mo : ∀ a, a < 29 → ∀ b, b < 29 → a ≠ b → (F_Mo a).2.1 ≠ (F_Mo b).2.1 := by decide +kernel
theorem t_Mo_ok : ∀ k, k < 29 → parseFieldDescriptor (F_Mo k).2.2.1 = some (t_Mo k) := by decide +kernel
set_option maxRecDepth 100000 in
theorem i_Mo : ∀ w ∈ u_ws R_Mo F_Mo 29, w ∈ gd_tbl := by
  intro w hw
  obtain ⟨k, hk, rfl⟩ := List.mem_map.mp hw
  have hk : k < 29 := List.mem_range.mp hk
  match k, hk with
  | 0, _ => exact List.mem_filter.mpr ⟨List.mem_of_getElem? (i := 780) rfl, rfl⟩
  | 1, _ => exact List.mem_filter.mpr ⟨List.mem_of_getElem? (i := 782) rfl, rfl⟩
  | 2, _ => exact List.mem_filter.mpr ⟨List.mem_of_getElem? (i := 784) rfl, rfl⟩
  | 3, _ => exact List.mem_filter.mpr ⟨List.mem_of_getElem? (i := 786) rfl, rfl⟩
  | 4, _ => exact List.mem_filter.mpr ⟨List.mem_of_getElem? (i := 788) rfl, rfl⟩
  | 5, _ => exact List.mem_filter.mpr ⟨List.mem_of_getElem? (i := 790) rfl, rfl⟩
  | 6, _ => exact List.mem_filter.mpr ⟨List.mem_of_getElem? (i := 792) rfl, rfl⟩
  | 7, _ => exact List.mem_filter.mpr ⟨List.mem_of_getElem? (i := 794) rfl, rfl⟩
  | 8, _ => exact List.mem_filter.mpr ⟨List.mem_of_getElem? (i := 796) rfl, rfl⟩
  | 9, _ => exact List.mem_filter.mpr ⟨List.mem_of_getElem? (i := 798) rfl, rfl⟩
  | 10, _ => exact List.mem_filter.mpr ⟨List.mem_of_getElem? (i := 800) rfl, rfl⟩
  | 11, _ => exact List.mem_filter.mpr ⟨List.mem_of_getElem? (i := 802) rfl, rfl⟩
  | 12, _ => exact List.mem_filter.mpr ⟨List.mem_of_getElem? (i := 804) rfl, rfl⟩
  | 13, _ => exact List.mem_filter.mpr ⟨List.mem_of_getElem? (i := 806) rfl, rfl⟩
  | 14, _ => exact List.mem_filter.mpr ⟨List.mem_of_getElem? (i := 808) rfl, rfl⟩
  | 15, _ => exact List.mem_filter.mpr ⟨List.mem_of_getElem? (i := 810) rfl, rfl⟩
  | 16, _ => exact List.mem_filter.mpr ⟨List.mem_of_getElem? (i := 812) rfl, rfl⟩
  | 17, _ => exact List.mem_filter.mpr ⟨List.mem_of_getElem? (i := 814) rfl, rfl⟩
  | 18, _ => exact List.mem_filter.mpr ⟨List.mem_of_getElem? (i := 816) rfl, rfl⟩
  | 19, _ => exact List.mem_filter.mpr ⟨List.mem_of_getElem? (i := 818) rfl, rfl⟩
  | 20, _ => exact List.mem_filter.mpr ⟨List.mem_of_getElem? (i := 820) rfl, rfl⟩
  | 21, _ => exact List.mem_filter.mpr ⟨List.mem_of_getElem? (i := 822) rfl, rfl⟩
  | 22, _ => exact List.mem_filter.mpr ⟨List.mem_of_getElem? (i := 824) rfl, rfl⟩
  | 23, _ => exact List.mem_filter.mpr ⟨List.mem_of_getElem? (i := 826) rfl, rfl⟩
  | 24, _ => exact List.mem_filter.mpr ⟨List.mem_of_getElem? (i := 828) rfl, rfl⟩
  | 25, _ => exact List.mem_filter.mpr ⟨List.mem_of_getElem? (i := 830) rfl, rfl⟩
  | 26, _ => exact List.mem_filter.mpr ⟨List.mem_of_getElem? (i := 832) rfl, rfl⟩
  | 27, _ => exact List.mem_filter.mpr ⟨List.mem_of_getElem? (i := 834) rfl, rfl⟩
  | 28, _ => exact List.mem_filter.mpr ⟨List.mem_of_getElem? (i := 836) rfl, rfl⟩
  | k + 29, h => exact absurd h (by omega)
set_option maxRecDepth 100000 in
theorem in_Mo : Cond.instantiable R_Mo 29 ∈ gd_tbl := List.mem_filter.mpr ⟨List.mem_of_getElem? (i := 745) rfl, rfl⟩
set_option maxRecDepth 100000 in
theorem ini_Mo : Cond.initialized R_Mo ∈ gd_tbl := List.mem_filter.mpr ⟨List.mem_of_getElem? (i := 68) rfl, rfl⟩
abbrev classes : List vw_C := [(R_By, F_By, 2), (R_Sh, F_Sh, 2), (R_St, F_St, 8), (R_Va, F_Va, 3), (R_Ou, F_Ou, 4), (R_Re, F_Re, 1), (R_Ma, F_Ma, 11), (R_CO, F_CO, 2), (R_Mo, F_Mo, 29)]
set_option maxRecDepth 100000 in
theorem ar_B : Cond.arrayClass .byte ∈ gd_tbl := List.mem_filter.mpr ⟨List.mem_of_getElem? (i := 99) rfl, rfl⟩
set_option maxRecDepth 100000 in
theorem ar_I : Cond.arrayClass .int ∈ gd_tbl := List.mem_filter.mpr ⟨List.mem_of_getElem? (i := 152) rfl, rfl⟩
set_option maxRecDepth 100000 in
theorem ar_J : Cond.arrayClass .long ∈ gd_tbl := List.mem_filter.mpr ⟨List.mem_of_getElem? (i := 1059) rfl, rfl⟩
abbrev R_La : String := "CharOutlinesLaw"
set_option maxRecDepth 100000 in
theorem im_objectInit : Cond.instanceMethod objectInit ∈ gd_tbl := List.mem_filter.mpr ⟨List.mem_of_getElem? (i := 84) rfl, rfl⟩
set_option maxRecDepth 100000 in
theorem co_objectInit : Cond.code objectInit ⟨#[0xb1]⟩ 1 none ∈ gd_tbl := List.mem_filter.mpr ⟨List.mem_of_getElem? (i := 85) rfl, rfl⟩
end
section
def atB (n : Nat) (f : Nat → Int32) (i : Int32) : Int32 := if i < 0 then 0 else if nI n ≤ i then 0 else f i.toNatClampNeg &&& 255
theorem in_c {i : Int32} {n cap : Nat} (h1 : ¬ i < 0) (h2 : ¬ nI n ≤ i) (h3 : n ≤ cap) (h4 : n < 2 ^ 31) : vp_in i cap := by
  obtain ⟨j, hj, rfl⟩ := nI_of h1
  have : j < n := by
    rcases Nat.lt_or_ge j n with q | q
    · exact q
    · exact absurd (nI_le q hj) h2
  exact fun h => by
    rcases h with h | h
    · exact h1 h
    · rw [nI_clamp hj] at h; omega
theorem in_d {i : Int32} {n cap : Nat} (h1 : ¬ i < 0) (h2 : i < nI n) (h3 : n ≤ cap) (h4 : n < 2 ^ 31) : vp_in i cap := in_c h1 (Int32.not_le.mpr h2) h3 h4
abbrev b_By_length : ByteArray := prog_2_method_2_code
abbrev y_By_length : MethodName := ⟨"CharOutlines$Bytes", "length", "()I"⟩
set_option maxRecDepth 100000 in
theorem cal_By_length : CalV gd_tbl "CharOutlines$Bytes" y_By_length b_By_length 1 (some .int) 0 := ⟨⟨List.mem_filter.mpr ⟨List.mem_of_getElem? (i := 246) rfl, rfl⟩, List.mem_filter.mpr ⟨List.mem_of_getElem? (i := 61) rfl, rfl⟩, ⟨by decide, by decide⟩, by decide +kernel⟩, List.mem_filter.mpr ⟨List.mem_of_getElem? (i := 244) rfl, rfl⟩, List.mem_filter.mpr ⟨List.mem_of_getElem? (i := 245) rfl, rfl⟩⟩
theorem d_By_length_0 : decode b_By_length 0 = .ok (.aload_n 0, 1) := by decide +kernel
theorem d_By_length_1 : decode b_By_length 1 = .ok (.getfield 15, 3) := by decide +kernel
theorem d_By_length_4 : decode b_By_length 4 = .ok (.ireturn, 1) := by decide +kernel
abbrev b_By_at : ByteArray := prog_2_method_3_code
abbrev y_By_at : MethodName := ⟨"CharOutlines$Bytes", "at", "(I)I"⟩
set_option maxRecDepth 100000 in
theorem cal_By_at : CalV gd_tbl "CharOutlines$Bytes" y_By_at b_By_at 2 (some .int) 1 := ⟨⟨List.mem_filter.mpr ⟨List.mem_of_getElem? (i := 389) rfl, rfl⟩, List.mem_filter.mpr ⟨List.mem_of_getElem? (i := 61) rfl, rfl⟩, ⟨by decide, by decide⟩, by decide +kernel⟩, List.mem_filter.mpr ⟨List.mem_of_getElem? (i := 387) rfl, rfl⟩, List.mem_filter.mpr ⟨List.mem_of_getElem? (i := 388) rfl, rfl⟩⟩
theorem d_By_at_0 : decode b_By_at 0 = .ok (.iload_n 1, 1) := by decide +kernel
theorem d_By_at_1 : decode b_By_at 1 = .ok (.ifCond .lt 24, 3) := by decide +kernel
theorem d_By_at_4 : decode b_By_at 4 = .ok (.iload_n 1, 1) := by decide +kernel
theorem d_By_at_5 : decode b_By_at 5 = .ok (.aload_n 0, 1) := by decide +kernel
theorem d_By_at_6 : decode b_By_at 6 = .ok (.getfield 15, 3) := by decide +kernel
theorem d_By_at_9 : decode b_By_at 9 = .ok (.if_icmp .ge 16, 3) := by decide +kernel
theorem d_By_at_12 : decode b_By_at 12 = .ok (.aload_n 0, 1) := by decide +kernel
theorem d_By_at_13 : decode b_By_at 13 = .ok (.getfield 11, 3) := by decide +kernel
theorem d_By_at_16 : decode b_By_at 16 = .ok (.iload_n 1, 1) := by decide +kernel
theorem d_By_at_17 : decode b_By_at 17 = .ok (.baload, 1) := by decide +kernel
theorem d_By_at_18 : decode b_By_at 18 = .ok (.sipush 255, 3) := by decide +kernel
theorem d_By_at_21 : decode b_By_at 21 = .ok (.iand, 1) := by decide +kernel
theorem d_By_at_22 : decode b_By_at 22 = .ok (.goto 4, 3) := by decide +kernel
theorem d_By_at_25 : decode b_By_at 25 = .ok (.iconst 0, 1) := by decide +kernel
theorem d_By_at_26 : decode b_By_at 26 = .ok (.ireturn, 1) := by decide +kernel
set_option maxRecDepth 100000 in
theorem fl_By_11 : (Jvm.Cond.fieldLink "CharOutlines$Bytes" (11 : Nat) "CharOutlines$Bytes" "room" "[B") ∈ gd_tbl := List.mem_filter.mpr ⟨List.mem_of_getElem? (i := 92) rfl, rfl⟩
set_option maxRecDepth 100000 in
theorem fl_By_15 : (Jvm.Cond.fieldLink "CharOutlines$Bytes" (15 : Nat) "CharOutlines$Bytes" "length" "I") ∈ gd_tbl := List.mem_filter.mpr ⟨List.mem_of_getElem? (i := 93) rfl, rfl⟩
set_option maxHeartbeats 1000000 in
set_option maxRecDepth 100000 in
theorem c_By_length (l : Launch) (D : va_G) (cB cI cJ : ClassId) (h a n cap : Nat) (f : Nat → Int32) : Ro l D classes (TY cB cI cJ) gd_tbl nx_tbl y_By_length b_By_length 1 (some .int) ({ frames := 0, cells := 0, slots := 0, locals := 0 }) [.ref h] [(h, .inr (0, [.ref a, .int (nI n)])), (a, .inl (cB, cap, .inl f))] (fun v => v = .int (nI n)) := by
  refine Ro.intro (by decide +kernel) nx_ok (Nat.le_of_ble_eq_true rfl) ?_
  intro p e s m args below meth c A ls hx hb hml hown hts hr hlk hnm hZ hP hD hl
  have hl : lv_has ls 1 [(0, .ref h)] := hl
  refine lv_aload_n hx hb d_By_length_0 rfl (lv_at hl 0 rfl) ?_
  refine va_get (D := D) (ci := 0) (v := .int (nI n)) (C := R_By) (T := F_By) (N := 2) hx hb hts i_By hown hZ.1 hP 0 rfl rfl 1 (by decide) (hts _ fl_By_15) (fun _ h9 => h9) rfl d_By_length_1 ?_
  exact r_iret hx hb hr hlk d_By_length_4 rfl
set_option maxHeartbeats 1000000 in
set_option maxRecDepth 100000 in
theorem c_By_at (l : Launch) (D : va_G) (cB cI cJ : ClassId) (h a n cap : Nat) (f : Nat → Int32) (i : Int32) (hn : n ≤ cap ∧ cap ≤ 16384) : Ro l D classes (TY cB cI cJ) gd_tbl nx_tbl y_By_at b_By_at 2 (some .int) ({ frames := 0, cells := 0, slots := 0, locals := 0 }) [.ref h, .int i] [(h, .inr (0, [.ref a, .int (nI n)])), (a, .inl (cB, cap, .inl f))] (fun v => v = .int (atB n f i)) := by
  refine Ro.intro (by decide +kernel) nx_ok (Nat.le_of_ble_eq_true rfl) ?_
  intro p e s m args below meth c A ls hx hb hml hown hts hr hlk hnm hZ hP hD hl
  have hl : lv_has ls 2 [(0, .ref h), (1, .int i)] := hl
  refine lv_iload_n hx hb d_By_at_0 rfl (lv_at hl 1 rfl) ?_
  refine lv_if_lt (tgt := 25) hx hb d_By_at_1 (by decide) (fun c_1 => ?_) (fun c_1 => ?_)
  · refine lv_iconst (v := 0) hx hb d_By_at_25 (by decide) ?_
    exact r_iret hx hb hr hlk d_By_at_26 (by simp [atB, c_1])
  · refine lv_iload_n hx hb d_By_at_4 rfl (lv_at hl 1 rfl) ?_
    refine lv_aload_n hx hb d_By_at_5 rfl (lv_at hl 0 rfl) ?_
    refine va_get (D := D) (ci := 0) (v := .int (nI n)) (C := R_By) (T := F_By) (N := 2) hx hb hts i_By hown hZ.1 hP 0 rfl rfl 1 (by decide) (hts _ fl_By_15) (fun _ h9 => h9) rfl d_By_at_6 ?_
    refine lv_icmp_ge (tgt := 25) hx hb d_By_at_9 (by decide) (fun c_9 => ?_) (fun c_9 => ?_)
    · refine lv_iconst (v := 0) hx hb d_By_at_25 (by decide) ?_
      exact r_iret hx hb hr hlk d_By_at_26 (by simp [atB, c_1, c_9])
    · refine lv_aload_n hx hb d_By_at_12 rfl (lv_at hl 0 rfl) ?_
      refine va_get (D := D) (ci := 0) (v := .ref a) (C := R_By) (T := F_By) (N := 2) hx hb hts i_By hown hZ.1 hP 0 rfl rfl 0 (by decide) (hts _ fl_By_11) (fun _ h9 => h9) rfl d_By_at_13 ?_
      refine lv_iload_n hx hb d_By_at_16 rfl (lv_at hl 1 rfl) ?_
      refine va_bald hx hb hZ.1 hP 1 0 rfl rfl (in_c c_1 c_9 (by omega) (by omega)) d_By_at_17 ?_
      refine lv_sipush (v := 255) hx hb d_By_at_18 (by decide) ?_
      refine lv_iand hx hb d_By_at_21 ?_
      refine lv_goto (tgt := 26) hx hb d_By_at_22 (by decide) ?_
      exact r_iret hx hb hr hlk d_By_at_26 (by simp [atB, c_1, c_9])
end
section
abbrev b_By_init : ByteArray := prog_2_method_1_code
abbrev y_By_init : MethodName := ⟨"CharOutlines$Bytes", "<init>", "()V"⟩
set_option maxRecDepth 100000 in
theorem cal_By_init : CalI gd_tbl y_By_init b_By_init 1 0 := ⟨⟨List.mem_filter.mpr ⟨List.mem_of_getElem? (i := 90) rfl, rfl⟩, List.mem_filter.mpr ⟨List.mem_of_getElem? (i := 61) rfl, rfl⟩, ⟨by decide, by decide⟩, by decide +kernel⟩, rfl, List.mem_filter.mpr ⟨List.mem_of_getElem? (i := 89) rfl, rfl⟩⟩
theorem d_By_init_0 : decode b_By_init 0 = .ok (.aload_n 0, 1) := by decide +kernel
theorem d_By_init_1 : decode b_By_init 1 = .ok (.invokespecial 3, 3) := by decide +kernel
theorem d_By_init_4 : decode b_By_init 4 = .ok (.aload_n 0, 1) := by decide +kernel
theorem d_By_init_5 : decode b_By_init 5 = .ok (.bipush 64, 2) := by decide +kernel
theorem d_By_init_7 : decode b_By_init 7 = .ok (.newarray .byte, 2) := by decide +kernel
theorem d_By_init_9 : decode b_By_init 9 = .ok (.putfield 11, 3) := by decide +kernel
theorem d_By_init_12 : decode b_By_init 12 = .ok (.return_, 1) := by decide +kernel
abbrev b_Sh_init : ByteArray := prog_8_method_1_code
abbrev y_Sh_init : MethodName := ⟨"CharOutlines$Shelf", "<init>", "()V"⟩
set_option maxRecDepth 100000 in
theorem cal_Sh_init : CalI gd_tbl y_Sh_init b_Sh_init 1 0 := ⟨⟨List.mem_filter.mpr ⟨List.mem_of_getElem? (i := 116) rfl, rfl⟩, List.mem_filter.mpr ⟨List.mem_of_getElem? (i := 64) rfl, rfl⟩, ⟨by decide, by decide⟩, by decide +kernel⟩, rfl, List.mem_filter.mpr ⟨List.mem_of_getElem? (i := 115) rfl, rfl⟩⟩
theorem d_Sh_init_0 : decode b_Sh_init 0 = .ok (.aload_n 0, 1) := by decide +kernel
theorem d_Sh_init_1 : decode b_Sh_init 1 = .ok (.invokespecial 3, 3) := by decide +kernel
theorem d_Sh_init_4 : decode b_Sh_init 4 = .ok (.aload_n 0, 1) := by decide +kernel
theorem d_Sh_init_5 : decode b_Sh_init 5 = .ok (.new 9, 3) := by decide +kernel
theorem d_Sh_init_8 : decode b_Sh_init 8 = .ok (.dup, 1) := by decide +kernel
theorem d_Sh_init_9 : decode b_Sh_init 9 = .ok (.invokespecial 11, 3) := by decide +kernel
theorem d_Sh_init_12 : decode b_Sh_init 12 = .ok (.putfield 12, 3) := by decide +kernel
theorem d_Sh_init_15 : decode b_Sh_init 15 = .ok (.return_, 1) := by decide +kernel
abbrev b_St_init : ByteArray := prog_9_method_1_code
abbrev y_St_init : MethodName := ⟨"CharOutlines$Strings", "<init>", "()V"⟩
set_option maxRecDepth 100000 in
theorem cal_St_init : CalI gd_tbl y_St_init b_St_init 1 0 := ⟨⟨List.mem_filter.mpr ⟨List.mem_of_getElem? (i := 110) rfl, rfl⟩, List.mem_filter.mpr ⟨List.mem_of_getElem? (i := 63) rfl, rfl⟩, ⟨by decide, by decide⟩, by decide +kernel⟩, rfl, List.mem_filter.mpr ⟨List.mem_of_getElem? (i := 109) rfl, rfl⟩⟩
theorem d_St_init_0 : decode b_St_init 0 = .ok (.aload_n 0, 1) := by decide +kernel
theorem d_St_init_1 : decode b_St_init 1 = .ok (.invokespecial 3, 3) := by decide +kernel
theorem d_St_init_4 : decode b_St_init 4 = .ok (.aload_n 0, 1) := by decide +kernel
theorem d_St_init_5 : decode b_St_init 5 = .ok (.new 9, 3) := by decide +kernel
theorem d_St_init_8 : decode b_St_init 8 = .ok (.dup, 1) := by decide +kernel
theorem d_St_init_9 : decode b_St_init 9 = .ok (.invokespecial 11, 3) := by decide +kernel
theorem d_St_init_12 : decode b_St_init 12 = .ok (.putfield 12, 3) := by decide +kernel
theorem d_St_init_15 : decode b_St_init 15 = .ok (.aload_n 0, 1) := by decide +kernel
theorem d_St_init_16 : decode b_St_init 16 = .ok (.new 9, 3) := by decide +kernel
theorem d_St_init_19 : decode b_St_init 19 = .ok (.dup, 1) := by decide +kernel
theorem d_St_init_20 : decode b_St_init 20 = .ok (.invokespecial 11, 3) := by decide +kernel
theorem d_St_init_23 : decode b_St_init 23 = .ok (.putfield 18, 3) := by decide +kernel
theorem d_St_init_26 : decode b_St_init 26 = .ok (.aload_n 0, 1) := by decide +kernel
theorem d_St_init_27 : decode b_St_init 27 = .ok (.new 9, 3) := by decide +kernel
theorem d_St_init_30 : decode b_St_init 30 = .ok (.dup, 1) := by decide +kernel
theorem d_St_init_31 : decode b_St_init 31 = .ok (.invokespecial 11, 3) := by decide +kernel
theorem d_St_init_34 : decode b_St_init 34 = .ok (.putfield 21, 3) := by decide +kernel
theorem d_St_init_37 : decode b_St_init 37 = .ok (.aload_n 0, 1) := by decide +kernel
theorem d_St_init_38 : decode b_St_init 38 = .ok (.bipush 10, 2) := by decide +kernel
theorem d_St_init_40 : decode b_St_init 40 = .ok (.newarray .int, 2) := by decide +kernel
theorem d_St_init_42 : decode b_St_init 42 = .ok (.putfield 24, 3) := by decide +kernel
theorem d_St_init_45 : decode b_St_init 45 = .ok (.aload_n 0, 1) := by decide +kernel
theorem d_St_init_46 : decode b_St_init 46 = .ok (.bipush 10, 2) := by decide +kernel
theorem d_St_init_48 : decode b_St_init 48 = .ok (.newarray .int, 2) := by decide +kernel
theorem d_St_init_50 : decode b_St_init 50 = .ok (.putfield 28, 3) := by decide +kernel
theorem d_St_init_53 : decode b_St_init 53 = .ok (.aload_n 0, 1) := by decide +kernel
theorem d_St_init_54 : decode b_St_init 54 = .ok (.bipush 10, 2) := by decide +kernel
theorem d_St_init_56 : decode b_St_init 56 = .ok (.newarray .int, 2) := by decide +kernel
theorem d_St_init_58 : decode b_St_init 58 = .ok (.putfield 31, 3) := by decide +kernel
theorem d_St_init_61 : decode b_St_init 61 = .ok (.return_, 1) := by decide +kernel
abbrev b_Va_init : ByteArray := prog_10_method_1_code
abbrev y_Va_init : MethodName := ⟨"CharOutlines$Values", "<init>", "()V"⟩
set_option maxRecDepth 100000 in
theorem cal_Va_init : CalI gd_tbl y_Va_init b_Va_init 1 0 := ⟨⟨List.mem_filter.mpr ⟨List.mem_of_getElem? (i := 157) rfl, rfl⟩, List.mem_filter.mpr ⟨List.mem_of_getElem? (i := 65) rfl, rfl⟩, ⟨by decide, by decide⟩, by decide +kernel⟩, rfl, List.mem_filter.mpr ⟨List.mem_of_getElem? (i := 156) rfl, rfl⟩⟩
theorem d_Va_init_0 : decode b_Va_init 0 = .ok (.aload_n 0, 1) := by decide +kernel
theorem d_Va_init_1 : decode b_Va_init 1 = .ok (.invokespecial 3, 3) := by decide +kernel
theorem d_Va_init_4 : decode b_Va_init 4 = .ok (.aload_n 0, 1) := by decide +kernel
theorem d_Va_init_5 : decode b_Va_init 5 = .ok (.bipush 48, 2) := by decide +kernel
theorem d_Va_init_7 : decode b_Va_init 7 = .ok (.newarray .int, 2) := by decide +kernel
theorem d_Va_init_9 : decode b_Va_init 9 = .ok (.putfield 9, 3) := by decide +kernel
theorem d_Va_init_12 : decode b_Va_init 12 = .ok (.aload_n 0, 1) := by decide +kernel
theorem d_Va_init_13 : decode b_Va_init 13 = .ok (.bipush 48, 2) := by decide +kernel
theorem d_Va_init_15 : decode b_Va_init 15 = .ok (.newarray .int, 2) := by decide +kernel
theorem d_Va_init_17 : decode b_Va_init 17 = .ok (.putfield 15, 3) := by decide +kernel
theorem d_Va_init_20 : decode b_Va_init 20 = .ok (.return_, 1) := by decide +kernel
abbrev b_Ou_init : ByteArray := prog_6_method_1_code
abbrev y_Ou_init : MethodName := ⟨"CharOutlines$Outline", "<init>", "()V"⟩
set_option maxRecDepth 100000 in
theorem cal_Ou_init : CalI gd_tbl y_Ou_init b_Ou_init 1 0 := ⟨⟨List.mem_filter.mpr ⟨List.mem_of_getElem? (i := 183) rfl, rfl⟩, List.mem_filter.mpr ⟨List.mem_of_getElem? (i := 67) rfl, rfl⟩, ⟨by decide, by decide⟩, by decide +kernel⟩, rfl, List.mem_filter.mpr ⟨List.mem_of_getElem? (i := 182) rfl, rfl⟩⟩
theorem d_Ou_init_0 : decode b_Ou_init 0 = .ok (.aload_n 0, 1) := by decide +kernel
theorem d_Ou_init_1 : decode b_Ou_init 1 = .ok (.invokespecial 3, 3) := by decide +kernel
theorem d_Ou_init_4 : decode b_Ou_init 4 = .ok (.aload_n 0, 1) := by decide +kernel
theorem d_Ou_init_5 : decode b_Ou_init 5 = .ok (.sipush 336, 3) := by decide +kernel
theorem d_Ou_init_8 : decode b_Ou_init 8 = .ok (.newarray .int, 2) := by decide +kernel
theorem d_Ou_init_10 : decode b_Ou_init 10 = .ok (.putfield 11, 3) := by decide +kernel
theorem d_Ou_init_13 : decode b_Ou_init 13 = .ok (.return_, 1) := by decide +kernel
abbrev b_Re_init : ByteArray := prog_7_method_1_code
abbrev y_Re_init : MethodName := ⟨"CharOutlines$Reckoning", "<init>", "()V"⟩
set_option maxRecDepth 100000 in
theorem cal_Re_init : CalI gd_tbl y_Re_init b_Re_init 1 0 := ⟨⟨List.mem_filter.mpr ⟨List.mem_of_getElem? (i := 173) rfl, rfl⟩, List.mem_filter.mpr ⟨List.mem_of_getElem? (i := 66) rfl, rfl⟩, ⟨by decide, by decide⟩, by decide +kernel⟩, rfl, List.mem_filter.mpr ⟨List.mem_of_getElem? (i := 172) rfl, rfl⟩⟩
theorem d_Re_init_0 : decode b_Re_init 0 = .ok (.aload_n 0, 1) := by decide +kernel
theorem d_Re_init_1 : decode b_Re_init 1 = .ok (.invokespecial 3, 3) := by decide +kernel
theorem d_Re_init_4 : decode b_Re_init 4 = .ok (.aload_n 0, 1) := by decide +kernel
theorem d_Re_init_5 : decode b_Re_init 5 = .ok (.bipush 32, 2) := by decide +kernel
theorem d_Re_init_7 : decode b_Re_init 7 = .ok (.newarray .int, 2) := by decide +kernel
theorem d_Re_init_9 : decode b_Re_init 9 = .ok (.putfield 9, 3) := by decide +kernel
theorem d_Re_init_12 : decode b_Re_init 12 = .ok (.return_, 1) := by decide +kernel
abbrev b_Ma_init : ByteArray := prog_4_method_1_code
abbrev y_Ma_init : MethodName := ⟨"CharOutlines$Machine", "<init>", "()V"⟩
set_option maxRecDepth 100000 in
theorem cal_Ma_init : CalI gd_tbl y_Ma_init b_Ma_init 1 0 := ⟨⟨List.mem_filter.mpr ⟨List.mem_of_getElem? (i := 104) rfl, rfl⟩, List.mem_filter.mpr ⟨List.mem_of_getElem? (i := 62) rfl, rfl⟩, ⟨by decide, by decide⟩, by decide +kernel⟩, rfl, List.mem_filter.mpr ⟨List.mem_of_getElem? (i := 103) rfl, rfl⟩⟩
theorem d_Ma_init_0 : decode b_Ma_init 0 = .ok (.aload_n 0, 1) := by decide +kernel
theorem d_Ma_init_1 : decode b_Ma_init 1 = .ok (.invokespecial 3, 3) := by decide +kernel
theorem d_Ma_init_4 : decode b_Ma_init 4 = .ok (.aload_n 0, 1) := by decide +kernel
theorem d_Ma_init_5 : decode b_Ma_init 5 = .ok (.new 9, 3) := by decide +kernel
theorem d_Ma_init_8 : decode b_Ma_init 8 = .ok (.dup, 1) := by decide +kernel
theorem d_Ma_init_9 : decode b_Ma_init 9 = .ok (.invokespecial 11, 3) := by decide +kernel
theorem d_Ma_init_12 : decode b_Ma_init 12 = .ok (.putfield 12, 3) := by decide +kernel
theorem d_Ma_init_15 : decode b_Ma_init 15 = .ok (.aload_n 0, 1) := by decide +kernel
theorem d_Ma_init_16 : decode b_Ma_init 16 = .ok (.new 18, 3) := by decide +kernel
theorem d_Ma_init_19 : decode b_Ma_init 19 = .ok (.dup, 1) := by decide +kernel
theorem d_Ma_init_20 : decode b_Ma_init 20 = .ok (.invokespecial 20, 3) := by decide +kernel
theorem d_Ma_init_23 : decode b_Ma_init 23 = .ok (.putfield 21, 3) := by decide +kernel
theorem d_Ma_init_26 : decode b_Ma_init 26 = .ok (.aload_n 0, 1) := by decide +kernel
theorem d_Ma_init_27 : decode b_Ma_init 27 = .ok (.new 25, 3) := by decide +kernel
theorem d_Ma_init_30 : decode b_Ma_init 30 = .ok (.dup, 1) := by decide +kernel
theorem d_Ma_init_31 : decode b_Ma_init 31 = .ok (.invokespecial 27, 3) := by decide +kernel
theorem d_Ma_init_34 : decode b_Ma_init 34 = .ok (.putfield 28, 3) := by decide +kernel
theorem d_Ma_init_37 : decode b_Ma_init 37 = .ok (.aload_n 0, 1) := by decide +kernel
theorem d_Ma_init_38 : decode b_Ma_init 38 = .ok (.new 32, 3) := by decide +kernel
theorem d_Ma_init_41 : decode b_Ma_init 41 = .ok (.dup, 1) := by decide +kernel
theorem d_Ma_init_42 : decode b_Ma_init 42 = .ok (.invokespecial 34, 3) := by decide +kernel
theorem d_Ma_init_45 : decode b_Ma_init 45 = .ok (.putfield 35, 3) := by decide +kernel
theorem d_Ma_init_48 : decode b_Ma_init 48 = .ok (.return_, 1) := by decide +kernel
abbrev b_CO_init : ByteArray := prog_1_method_1_code
abbrev y_CO_init : MethodName := ⟨"CharOutlines", "<init>", "()V"⟩
set_option maxRecDepth 100000 in
theorem cal_CO_init : CalI gd_tbl y_CO_init b_CO_init 1 0 := ⟨⟨List.mem_filter.mpr ⟨List.mem_of_getElem? (i := 82) rfl, rfl⟩, List.mem_filter.mpr ⟨List.mem_of_getElem? (i := 60) rfl, rfl⟩, ⟨by decide, by decide⟩, by decide +kernel⟩, rfl, List.mem_filter.mpr ⟨List.mem_of_getElem? (i := 81) rfl, rfl⟩⟩
theorem d_CO_init_0 : decode b_CO_init 0 = .ok (.aload_n 0, 1) := by decide +kernel
theorem d_CO_init_1 : decode b_CO_init 1 = .ok (.invokespecial 1, 3) := by decide +kernel
theorem d_CO_init_4 : decode b_CO_init 4 = .ok (.aload_n 0, 1) := by decide +kernel
theorem d_CO_init_5 : decode b_CO_init 5 = .ok (.new 7, 3) := by decide +kernel
theorem d_CO_init_8 : decode b_CO_init 8 = .ok (.dup, 1) := by decide +kernel
theorem d_CO_init_9 : decode b_CO_init 9 = .ok (.invokespecial 9, 3) := by decide +kernel
theorem d_CO_init_12 : decode b_CO_init 12 = .ok (.putfield 10, 3) := by decide +kernel
theorem d_CO_init_15 : decode b_CO_init 15 = .ok (.aload_n 0, 1) := by decide +kernel
theorem d_CO_init_16 : decode b_CO_init 16 = .ok (.new 16, 3) := by decide +kernel
theorem d_CO_init_19 : decode b_CO_init 19 = .ok (.dup, 1) := by decide +kernel
theorem d_CO_init_20 : decode b_CO_init 20 = .ok (.invokespecial 18, 3) := by decide +kernel
theorem d_CO_init_23 : decode b_CO_init 23 = .ok (.putfield 19, 3) := by decide +kernel
theorem d_CO_init_26 : decode b_CO_init 26 = .ok (.return_, 1) := by decide +kernel
abbrev b_Mo_init : ByteArray := prog_12_method_1_code
abbrev y_Mo_init : MethodName := ⟨"CharOutlinesModel", "<init>", "()V"⟩
set_option maxRecDepth 100000 in
theorem cal_Mo_init : CalI gd_tbl y_Mo_init b_Mo_init 1 0 := ⟨⟨List.mem_filter.mpr ⟨List.mem_of_getElem? (i := 748) rfl, rfl⟩, List.mem_filter.mpr ⟨List.mem_of_getElem? (i := 68) rfl, rfl⟩, ⟨by decide, by decide⟩, by decide +kernel⟩, rfl, List.mem_filter.mpr ⟨List.mem_of_getElem? (i := 747) rfl, rfl⟩⟩
theorem d_Mo_init_0 : decode b_Mo_init 0 = .ok (.aload_n 0, 1) := by decide +kernel
theorem d_Mo_init_1 : decode b_Mo_init 1 = .ok (.invokespecial 1, 3) := by decide +kernel
theorem d_Mo_init_4 : decode b_Mo_init 4 = .ok (.aload_n 0, 1) := by decide +kernel
theorem d_Mo_init_5 : decode b_Mo_init 5 = .ok (.sipush 16384, 3) := by decide +kernel
theorem d_Mo_init_8 : decode b_Mo_init 8 = .ok (.newarray .int, 2) := by decide +kernel
theorem d_Mo_init_10 : decode b_Mo_init 10 = .ok (.putfield 7, 3) := by decide +kernel
theorem d_Mo_init_13 : decode b_Mo_init 13 = .ok (.aload_n 0, 1) := by decide +kernel
theorem d_Mo_init_14 : decode b_Mo_init 14 = .ok (.ldc 13, 2) := by decide +kernel
theorem d_Mo_init_16 : decode b_Mo_init 16 = .ok (.newarray .int, 2) := by decide +kernel
theorem d_Mo_init_18 : decode b_Mo_init 18 = .ok (.putfield 14, 3) := by decide +kernel
theorem d_Mo_init_21 : decode b_Mo_init 21 = .ok (.aload_n 0, 1) := by decide +kernel
theorem d_Mo_init_22 : decode b_Mo_init 22 = .ok (.iconst 3, 1) := by decide +kernel
theorem d_Mo_init_23 : decode b_Mo_init 23 = .ok (.newarray .int, 2) := by decide +kernel
theorem d_Mo_init_25 : decode b_Mo_init 25 = .ok (.putfield 17, 3) := by decide +kernel
theorem d_Mo_init_28 : decode b_Mo_init 28 = .ok (.aload_n 0, 1) := by decide +kernel
theorem d_Mo_init_29 : decode b_Mo_init 29 = .ok (.iconst 3, 1) := by decide +kernel
theorem d_Mo_init_30 : decode b_Mo_init 30 = .ok (.newarray .int, 2) := by decide +kernel
theorem d_Mo_init_32 : decode b_Mo_init 32 = .ok (.putfield 20, 3) := by decide +kernel
theorem d_Mo_init_35 : decode b_Mo_init 35 = .ok (.aload_n 0, 1) := by decide +kernel
theorem d_Mo_init_36 : decode b_Mo_init 36 = .ok (.sipush 28000, 3) := by decide +kernel
theorem d_Mo_init_39 : decode b_Mo_init 39 = .ok (.newarray .int, 2) := by decide +kernel
theorem d_Mo_init_41 : decode b_Mo_init 41 = .ok (.putfield 23, 3) := by decide +kernel
theorem d_Mo_init_44 : decode b_Mo_init 44 = .ok (.aload_n 0, 1) := by decide +kernel
theorem d_Mo_init_45 : decode b_Mo_init 45 = .ok (.sipush 28000, 3) := by decide +kernel
theorem d_Mo_init_48 : decode b_Mo_init 48 = .ok (.newarray .int, 2) := by decide +kernel
theorem d_Mo_init_50 : decode b_Mo_init 50 = .ok (.putfield 26, 3) := by decide +kernel
theorem d_Mo_init_53 : decode b_Mo_init 53 = .ok (.aload_n 0, 1) := by decide +kernel
theorem d_Mo_init_54 : decode b_Mo_init 54 = .ok (.bipush 48, 2) := by decide +kernel
theorem d_Mo_init_56 : decode b_Mo_init 56 = .ok (.newarray .int, 2) := by decide +kernel
theorem d_Mo_init_58 : decode b_Mo_init 58 = .ok (.putfield 29, 3) := by decide +kernel
theorem d_Mo_init_61 : decode b_Mo_init 61 = .ok (.aload_n 0, 1) := by decide +kernel
theorem d_Mo_init_62 : decode b_Mo_init 62 = .ok (.bipush 32, 2) := by decide +kernel
theorem d_Mo_init_64 : decode b_Mo_init 64 = .ok (.newarray .int, 2) := by decide +kernel
theorem d_Mo_init_66 : decode b_Mo_init 66 = .ok (.putfield 32, 3) := by decide +kernel
theorem d_Mo_init_69 : decode b_Mo_init 69 = .ok (.aload_n 0, 1) := by decide +kernel
theorem d_Mo_init_70 : decode b_Mo_init 70 = .ok (.bipush 11, 2) := by decide +kernel
theorem d_Mo_init_72 : decode b_Mo_init 72 = .ok (.newarray .int, 2) := by decide +kernel
theorem d_Mo_init_74 : decode b_Mo_init 74 = .ok (.putfield 35, 3) := by decide +kernel
theorem d_Mo_init_77 : decode b_Mo_init 77 = .ok (.aload_n 0, 1) := by decide +kernel
theorem d_Mo_init_78 : decode b_Mo_init 78 = .ok (.bipush 11, 2) := by decide +kernel
theorem d_Mo_init_80 : decode b_Mo_init 80 = .ok (.newarray .int, 2) := by decide +kernel
theorem d_Mo_init_82 : decode b_Mo_init 82 = .ok (.putfield 38, 3) := by decide +kernel
theorem d_Mo_init_85 : decode b_Mo_init 85 = .ok (.aload_n 0, 1) := by decide +kernel
theorem d_Mo_init_86 : decode b_Mo_init 86 = .ok (.bipush 11, 2) := by decide +kernel
theorem d_Mo_init_88 : decode b_Mo_init 88 = .ok (.newarray .int, 2) := by decide +kernel
theorem d_Mo_init_90 : decode b_Mo_init 90 = .ok (.putfield 41, 3) := by decide +kernel
theorem d_Mo_init_93 : decode b_Mo_init 93 = .ok (.return_, 1) := by decide +kernel
set_option maxRecDepth 100000 in
theorem cl_CO_16 : (Jvm.Cond.classLink "CharOutlines" (16 : Nat) "CharOutlines$Machine") ∈ gd_tbl := List.mem_filter.mpr ⟨List.mem_of_getElem? (i := 100) rfl, rfl⟩
set_option maxRecDepth 100000 in
theorem cl_CO_7 : (Jvm.Cond.classLink "CharOutlines" (7 : Nat) "CharOutlines$Bytes") ∈ gd_tbl := List.mem_filter.mpr ⟨List.mem_of_getElem? (i := 86) rfl, rfl⟩
set_option maxRecDepth 100000 in
theorem cl_Ma_18 : (Jvm.Cond.classLink "CharOutlines$Machine" (18 : Nat) "CharOutlines$Values") ∈ gd_tbl := List.mem_filter.mpr ⟨List.mem_of_getElem? (i := 153) rfl, rfl⟩
set_option maxRecDepth 100000 in
theorem cl_Ma_25 : (Jvm.Cond.classLink "CharOutlines$Machine" (25 : Nat) "CharOutlines$Reckoning") ∈ gd_tbl := List.mem_filter.mpr ⟨List.mem_of_getElem? (i := 169) rfl, rfl⟩
set_option maxRecDepth 100000 in
theorem cl_Ma_32 : (Jvm.Cond.classLink "CharOutlines$Machine" (32 : Nat) "CharOutlines$Outline") ∈ gd_tbl := List.mem_filter.mpr ⟨List.mem_of_getElem? (i := 179) rfl, rfl⟩
set_option maxRecDepth 100000 in
theorem cl_Ma_9 : (Jvm.Cond.classLink "CharOutlines$Machine" (9 : Nat) "CharOutlines$Strings") ∈ gd_tbl := List.mem_filter.mpr ⟨List.mem_of_getElem? (i := 106) rfl, rfl⟩
set_option maxRecDepth 100000 in
theorem cl_Sh_9 : (Jvm.Cond.classLink "CharOutlines$Shelf" (9 : Nat) "CharOutlines$Bytes") ∈ gd_tbl := List.mem_filter.mpr ⟨List.mem_of_getElem? (i := 118) rfl, rfl⟩
set_option maxRecDepth 100000 in
theorem cl_St_9 : (Jvm.Cond.classLink "CharOutlines$Strings" (9 : Nat) "CharOutlines$Shelf") ∈ gd_tbl := List.mem_filter.mpr ⟨List.mem_of_getElem? (i := 112) rfl, rfl⟩
set_option maxRecDepth 100000 in
theorem fl_CO_10 : (Jvm.Cond.fieldLink "CharOutlines" (10 : Nat) "CharOutlines" "row" "LCharOutlines$Bytes;") ∈ gd_tbl := List.mem_filter.mpr ⟨List.mem_of_getElem? (i := 232) rfl, rfl⟩
set_option maxRecDepth 100000 in
theorem fl_CO_19 : (Jvm.Cond.fieldLink "CharOutlines" (19 : Nat) "CharOutlines" "machine" "LCharOutlines$Machine;") ∈ gd_tbl := List.mem_filter.mpr ⟨List.mem_of_getElem? (i := 233) rfl, rfl⟩
set_option maxRecDepth 100000 in
theorem fl_Ma_12 : (Jvm.Cond.fieldLink "CharOutlines$Machine" (12 : Nat) "CharOutlines$Machine" "strings" "LCharOutlines$Strings;") ∈ gd_tbl := List.mem_filter.mpr ⟨List.mem_of_getElem? (i := 198) rfl, rfl⟩
set_option maxRecDepth 100000 in
theorem fl_Ma_21 : (Jvm.Cond.fieldLink "CharOutlines$Machine" (21 : Nat) "CharOutlines$Machine" "values" "LCharOutlines$Values;") ∈ gd_tbl := List.mem_filter.mpr ⟨List.mem_of_getElem? (i := 199) rfl, rfl⟩
set_option maxRecDepth 100000 in
theorem fl_Ma_28 : (Jvm.Cond.fieldLink "CharOutlines$Machine" (28 : Nat) "CharOutlines$Machine" "reckoning" "LCharOutlines$Reckoning;") ∈ gd_tbl := List.mem_filter.mpr ⟨List.mem_of_getElem? (i := 200) rfl, rfl⟩
set_option maxRecDepth 100000 in
theorem fl_Ma_35 : (Jvm.Cond.fieldLink "CharOutlines$Machine" (35 : Nat) "CharOutlines$Machine" "outline" "LCharOutlines$Outline;") ∈ gd_tbl := List.mem_filter.mpr ⟨List.mem_of_getElem? (i := 201) rfl, rfl⟩
set_option maxRecDepth 100000 in
theorem fl_Mo_14 : (Jvm.Cond.fieldLink "CharOutlinesModel" (14 : Nat) "CharOutlinesModel" "shelves" "[I") ∈ gd_tbl := List.mem_filter.mpr ⟨List.mem_of_getElem? (i := 754) rfl, rfl⟩
set_option maxRecDepth 100000 in
theorem fl_Mo_17 : (Jvm.Cond.fieldLink "CharOutlinesModel" (17 : Nat) "CharOutlinesModel" "many" "[I") ∈ gd_tbl := List.mem_filter.mpr ⟨List.mem_of_getElem? (i := 755) rfl, rfl⟩
set_option maxRecDepth 100000 in
theorem fl_Mo_20 : (Jvm.Cond.fieldLink "CharOutlinesModel" (20 : Nat) "CharOutlinesModel" "widths" "[I") ∈ gd_tbl := List.mem_filter.mpr ⟨List.mem_of_getElem? (i := 756) rfl, rfl⟩
set_option maxRecDepth 100000 in
theorem fl_Mo_23 : (Jvm.Cond.fieldLink "CharOutlinesModel" (23 : Nat) "CharOutlinesModel" "mark" "[I") ∈ gd_tbl := List.mem_filter.mpr ⟨List.mem_of_getElem? (i := 758) rfl, rfl⟩
set_option maxRecDepth 100000 in
theorem fl_Mo_26 : (Jvm.Cond.fieldLink "CharOutlinesModel" (26 : Nat) "CharOutlinesModel" "shownMark" "[I") ∈ gd_tbl := List.mem_filter.mpr ⟨List.mem_of_getElem? (i := 760) rfl, rfl⟩
set_option maxRecDepth 100000 in
theorem fl_Mo_29 : (Jvm.Cond.fieldLink "CharOutlinesModel" (29 : Nat) "CharOutlinesModel" "stack" "[I") ∈ gd_tbl := List.mem_filter.mpr ⟨List.mem_of_getElem? (i := 774) rfl, rfl⟩
set_option maxRecDepth 100000 in
theorem fl_Mo_32 : (Jvm.Cond.fieldLink "CharOutlinesModel" (32 : Nat) "CharOutlinesModel" "places" "[I") ∈ gd_tbl := List.mem_filter.mpr ⟨List.mem_of_getElem? (i := 775) rfl, rfl⟩
set_option maxRecDepth 100000 in
theorem fl_Mo_35 : (Jvm.Cond.fieldLink "CharOutlinesModel" (35 : Nat) "CharOutlinesModel" "kinds" "[I") ∈ gd_tbl := List.mem_filter.mpr ⟨List.mem_of_getElem? (i := 777) rfl, rfl⟩
set_option maxRecDepth 100000 in
theorem fl_Mo_38 : (Jvm.Cond.fieldLink "CharOutlinesModel" (38 : Nat) "CharOutlinesModel" "ats" "[I") ∈ gd_tbl := List.mem_filter.mpr ⟨List.mem_of_getElem? (i := 778) rfl, rfl⟩
set_option maxRecDepth 100000 in
theorem fl_Mo_41 : (Jvm.Cond.fieldLink "CharOutlinesModel" (41 : Nat) "CharOutlinesModel" "ends" "[I") ∈ gd_tbl := List.mem_filter.mpr ⟨List.mem_of_getElem? (i := 779) rfl, rfl⟩
set_option maxRecDepth 100000 in
theorem fl_Mo_7 : (Jvm.Cond.fieldLink "CharOutlinesModel" (7 : Nat) "CharOutlinesModel" "row" "[I") ∈ gd_tbl := List.mem_filter.mpr ⟨List.mem_of_getElem? (i := 753) rfl, rfl⟩
set_option maxRecDepth 100000 in
theorem fl_Ou_11 : (Jvm.Cond.fieldLink "CharOutlines$Outline" (11 : Nat) "CharOutlines$Outline" "room" "[I") ∈ gd_tbl := List.mem_filter.mpr ⟨List.mem_of_getElem? (i := 185) rfl, rfl⟩
set_option maxRecDepth 100000 in
theorem fl_Re_9 : (Jvm.Cond.fieldLink "CharOutlines$Reckoning" (9 : Nat) "CharOutlines$Reckoning" "places" "[I") ∈ gd_tbl := List.mem_filter.mpr ⟨List.mem_of_getElem? (i := 175) rfl, rfl⟩
set_option maxRecDepth 100000 in
theorem fl_Sh_12 : (Jvm.Cond.fieldLink "CharOutlines$Shelf" (12 : Nat) "CharOutlines$Shelf" "bytes" "LCharOutlines$Bytes;") ∈ gd_tbl := List.mem_filter.mpr ⟨List.mem_of_getElem? (i := 120) rfl, rfl⟩
set_option maxRecDepth 100000 in
theorem fl_St_12 : (Jvm.Cond.fieldLink "CharOutlines$Strings" (12 : Nat) "CharOutlines$Strings" "programs" "LCharOutlines$Shelf;") ∈ gd_tbl := List.mem_filter.mpr ⟨List.mem_of_getElem? (i := 127) rfl, rfl⟩
set_option maxRecDepth 100000 in
theorem fl_St_18 : (Jvm.Cond.fieldLink "CharOutlines$Strings" (18 : Nat) "CharOutlines$Strings" "globals" "LCharOutlines$Shelf;") ∈ gd_tbl := List.mem_filter.mpr ⟨List.mem_of_getElem? (i := 128) rfl, rfl⟩
set_option maxRecDepth 100000 in
theorem fl_St_21 : (Jvm.Cond.fieldLink "CharOutlines$Strings" (21 : Nat) "CharOutlines$Strings" "locals" "LCharOutlines$Shelf;") ∈ gd_tbl := List.mem_filter.mpr ⟨List.mem_of_getElem? (i := 129) rfl, rfl⟩
set_option maxRecDepth 100000 in
theorem fl_St_24 : (Jvm.Cond.fieldLink "CharOutlines$Strings" (24 : Nat) "CharOutlines$Strings" "kinds" "[I") ∈ gd_tbl := List.mem_filter.mpr ⟨List.mem_of_getElem? (i := 130) rfl, rfl⟩
set_option maxRecDepth 100000 in
theorem fl_St_28 : (Jvm.Cond.fieldLink "CharOutlines$Strings" (28 : Nat) "CharOutlines$Strings" "places" "[I") ∈ gd_tbl := List.mem_filter.mpr ⟨List.mem_of_getElem? (i := 131) rfl, rfl⟩
set_option maxRecDepth 100000 in
theorem fl_St_31 : (Jvm.Cond.fieldLink "CharOutlines$Strings" (31 : Nat) "CharOutlines$Strings" "ends" "[I") ∈ gd_tbl := List.mem_filter.mpr ⟨List.mem_of_getElem? (i := 132) rfl, rfl⟩
set_option maxRecDepth 100000 in
theorem fl_Va_15 : (Jvm.Cond.fieldLink "CharOutlines$Values" (15 : Nat) "CharOutlines$Values" "turned" "[I") ∈ gd_tbl := List.mem_filter.mpr ⟨List.mem_of_getElem? (i := 160) rfl, rfl⟩
set_option maxRecDepth 100000 in
theorem fl_Va_9 : (Jvm.Cond.fieldLink "CharOutlines$Values" (9 : Nat) "CharOutlines$Values" "values" "[I") ∈ gd_tbl := List.mem_filter.mpr ⟨List.mem_of_getElem? (i := 159) rfl, rfl⟩
set_option maxRecDepth 100000 in
theorem kc_Mo_13 : (Jvm.Cond.constant "CharOutlinesModel" (13 : Nat) (49152 : Int32)) ∈ gd_tbl := List.mem_filter.mpr ⟨List.mem_of_getElem? (i := 750) rfl, rfl⟩
set_option maxRecDepth 100000 in
theorem ml_By_3 : (Jvm.Cond.methodLink "CharOutlines$Bytes" (3 : Nat) ({ cls := "java/lang/Object", name := "<init>", desc := "()V" } : Jvm.MethodName)) ∈ gd_tbl := List.mem_filter.mpr ⟨List.mem_of_getElem? (i := 91) rfl, rfl⟩
set_option maxRecDepth 100000 in
theorem ml_CO_1 : (Jvm.Cond.methodLink "CharOutlines" (1 : Nat) ({ cls := "java/lang/Object", name := "<init>", desc := "()V" } : Jvm.MethodName)) ∈ gd_tbl := List.mem_filter.mpr ⟨List.mem_of_getElem? (i := 83) rfl, rfl⟩
set_option maxRecDepth 100000 in
theorem ml_Ma_3 : (Jvm.Cond.methodLink "CharOutlines$Machine" (3 : Nat) ({ cls := "java/lang/Object", name := "<init>", desc := "()V" } : Jvm.MethodName)) ∈ gd_tbl := List.mem_filter.mpr ⟨List.mem_of_getElem? (i := 105) rfl, rfl⟩
set_option maxRecDepth 100000 in
theorem ml_Mo_1 : (Jvm.Cond.methodLink "CharOutlinesModel" (1 : Nat) ({ cls := "java/lang/Object", name := "<init>", desc := "()V" } : Jvm.MethodName)) ∈ gd_tbl := List.mem_filter.mpr ⟨List.mem_of_getElem? (i := 749) rfl, rfl⟩
set_option maxRecDepth 100000 in
theorem ml_Ou_3 : (Jvm.Cond.methodLink "CharOutlines$Outline" (3 : Nat) ({ cls := "java/lang/Object", name := "<init>", desc := "()V" } : Jvm.MethodName)) ∈ gd_tbl := List.mem_filter.mpr ⟨List.mem_of_getElem? (i := 184) rfl, rfl⟩
set_option maxRecDepth 100000 in
theorem ml_Re_3 : (Jvm.Cond.methodLink "CharOutlines$Reckoning" (3 : Nat) ({ cls := "java/lang/Object", name := "<init>", desc := "()V" } : Jvm.MethodName)) ∈ gd_tbl := List.mem_filter.mpr ⟨List.mem_of_getElem? (i := 174) rfl, rfl⟩
set_option maxRecDepth 100000 in
theorem ml_Sh_3 : (Jvm.Cond.methodLink "CharOutlines$Shelf" (3 : Nat) ({ cls := "java/lang/Object", name := "<init>", desc := "()V" } : Jvm.MethodName)) ∈ gd_tbl := List.mem_filter.mpr ⟨List.mem_of_getElem? (i := 117) rfl, rfl⟩
set_option maxRecDepth 100000 in
theorem ml_St_3 : (Jvm.Cond.methodLink "CharOutlines$Strings" (3 : Nat) ({ cls := "java/lang/Object", name := "<init>", desc := "()V" } : Jvm.MethodName)) ∈ gd_tbl := List.mem_filter.mpr ⟨List.mem_of_getElem? (i := 111) rfl, rfl⟩
set_option maxRecDepth 100000 in
theorem ml_Va_3 : (Jvm.Cond.methodLink "CharOutlines$Values" (3 : Nat) ({ cls := "java/lang/Object", name := "<init>", desc := "()V" } : Jvm.MethodName)) ∈ gd_tbl := List.mem_filter.mpr ⟨List.mem_of_getElem? (i := 158) rfl, rfl⟩
set_option maxRecDepth 100000 in
theorem mn_CO_18 : (Jvm.Cond.methodLinkNest "CharOutlines" (18 : Nat) ({ cls := "CharOutlines$Machine", name := "<init>", desc := "()V" } : Jvm.MethodName) "CharOutlines") ∈ nx_tbl := List.mem_of_getElem? (i := 1) rfl
set_option maxRecDepth 100000 in
theorem mn_CO_9 : (Jvm.Cond.methodLinkNest "CharOutlines" (9 : Nat) ({ cls := "CharOutlines$Bytes", name := "<init>", desc := "()V" } : Jvm.MethodName) "CharOutlines") ∈ nx_tbl := List.mem_of_getElem? (i := 0) rfl
set_option maxRecDepth 100000 in
theorem mn_Ma_11 : (Jvm.Cond.methodLinkNest "CharOutlines$Machine" (11 : Nat) ({ cls := "CharOutlines$Strings", name := "<init>", desc := "()V" } : Jvm.MethodName) "CharOutlines") ∈ nx_tbl := List.mem_of_getElem? (i := 2) rfl
set_option maxRecDepth 100000 in
theorem mn_Ma_20 : (Jvm.Cond.methodLinkNest "CharOutlines$Machine" (20 : Nat) ({ cls := "CharOutlines$Values", name := "<init>", desc := "()V" } : Jvm.MethodName) "CharOutlines") ∈ nx_tbl := List.mem_of_getElem? (i := 5) rfl
set_option maxRecDepth 100000 in
theorem mn_Ma_27 : (Jvm.Cond.methodLinkNest "CharOutlines$Machine" (27 : Nat) ({ cls := "CharOutlines$Reckoning", name := "<init>", desc := "()V" } : Jvm.MethodName) "CharOutlines") ∈ nx_tbl := List.mem_of_getElem? (i := 6) rfl
set_option maxRecDepth 100000 in
theorem mn_Ma_34 : (Jvm.Cond.methodLinkNest "CharOutlines$Machine" (34 : Nat) ({ cls := "CharOutlines$Outline", name := "<init>", desc := "()V" } : Jvm.MethodName) "CharOutlines") ∈ nx_tbl := List.mem_of_getElem? (i := 7) rfl
set_option maxRecDepth 100000 in
theorem mn_Sh_11 : (Jvm.Cond.methodLinkNest "CharOutlines$Shelf" (11 : Nat) ({ cls := "CharOutlines$Bytes", name := "<init>", desc := "()V" } : Jvm.MethodName) "CharOutlines") ∈ nx_tbl := List.mem_of_getElem? (i := 4) rfl
set_option maxRecDepth 100000 in
theorem mn_St_11 : (Jvm.Cond.methodLinkNest "CharOutlines$Strings" (11 : Nat) ({ cls := "CharOutlines$Shelf", name := "<init>", desc := "()V" } : Jvm.MethodName) "CharOutlines") ∈ nx_tbl := List.mem_of_getElem? (i := 3) rfl
set_option maxHeartbeats 1000000 in
set_option maxRecDepth 100000 in
theorem c_By_init (l : Launch) (D : va_G) (cB cI cJ : ClassId) (h : Nat) : Tr l D classes (TY cB cI cJ) gd_tbl nx_tbl y_By_init b_By_init 1 none ({ frames := 1, cells := 1, slots := 64, locals := 12 }) [.ref h] [(h, .inr (0, [.null, .int 0]))] (pV (fun w k n => ∃ a : Nat, w = [(h, .inr (0, [.ref a, .int 0])), (a, .inl (cB, 64, .inl (fun _ => 0)))] ∧ k = 1 ∧ n = 64)) := by
  refine Tr.intro (by decide +kernel) nx_ok (Nat.le_of_ble_eq_true rfl) ?_
  intro p e s m args below meth c A ls hx hb hml hown hts hr hlk hnm hZ hP hD hS hl
  have hl : lv_has ls 1 [(0, .ref h)] := hl
  refine lv_aload_n hx hb d_By_init_0 rfl (lv_at hl 0 rfl) ?_
  refine W.objInit hx hb hown (hts _ ml_By_3) (hts _ im_objectInit) (hts _ co_objectInit) rfl (by rw [hml]; exact hl.1) rfl d_By_init_1 (Nat.le_of_ble_eq_true rfl) (Nat.le_of_ble_eq_true rfl) ?_
  refine W.eq (g2 := F0 m 4 ls []) rfl ?_
  refine lv_aload_n hx hb d_By_init_4 rfl (lv_at hl 0 rfl) ?_
  refine lv_bipush (v := 64) hx hb d_By_init_5 (by decide) ?_
  refine t_newa (atype := .byte) (a0 := (64, .inl (fun _ => 0))) (N' := 64) hx hb (hts _ ar_B) rfl hZ.1 hP hD hS hZ.2.2.2 0 rfl (fun _ => rfl) (by decide) (by decide) (by decide) (Nat.le_of_ble_eq_true rfl) (Nat.le_of_ble_eq_true rfl) d_By_init_7 (fun q7 H hP hD hS => ?_)
  have hP : va_P D classes [(h, .inr (0, [.null, .int 0])), (q7, .inl (cB, 64, .inl (fun _ => 0)))] H := hP
  have hD : va_D A [(h, .inr (0, [.null, .int 0])), (q7, .inl (cB, 64, .inl (fun _ => 0)))] := hD
  refine va_put (D := D) (ci := 0) (v := .ref q7) (ty := .array .byte) (C := R_By) (T := F_By) (N := 2) hx hb hts i_By t_By t_By_ok n_By hown hZ.1 hP hD hS 0 rfl rfl 0 (by decide) (hts _ fl_By_11) (fun _ h9 => h9) rfl (by decide +kernel) rfl rfl (Nat.le_of_ble_eq_true rfl) d_By_init_9 (fun H locs hP hD hS => ?_)
  have hP : va_P D classes [(h, .inr (0, [.ref q7, .int 0])), (q7, .inl (cB, 64, .inl (fun _ => 0)))] H := hP
  have hD : va_D A [(h, .inr (0, [.ref q7, .int 0])), (q7, .inl (cB, 64, .inl (fun _ => 0)))] := hD
  exact t_vret hx hb hr hlk d_By_init_12 (hP.subm (ws' := [(h, .inr (0, [.ref q7, .int 0])), (q7, .inl (cB, 64, .inl (fun _ => 0)))]) [0, 1] rfl) (hD.sub (ws' := [(h, .inr (0, [.ref q7, .int 0])), (q7, .inl (cB, 64, .inl (fun _ => 0)))]) [0, 1] rfl rfl) hS ⟨rfl, q7, rfl, rfl, rfl⟩
set_option maxHeartbeats 1000000 in
set_option maxRecDepth 100000 in
theorem c_Sh_init (l : Launch) (D : va_G) (cB cI cJ : ClassId) (h : Nat) : Tr l D classes (TY cB cI cJ) gd_tbl nx_tbl y_Sh_init b_Sh_init 1 none ({ frames := 2, cells := 2, slots := 66, locals := 32 }) [.ref h] [(h, .inr (1, [.null, .int 0]))] (pV (fun w k n => ∃ hb a : Nat, w = [(h, .inr (1, [.ref hb, .int 0])), (hb, .inr (0, [.ref a, .int 0])), (a, .inl (cB, 64, .inl (fun _ => 0)))] ∧ k = 2 ∧ n = 66)) := by
  refine Tr.intro (by decide +kernel) nx_ok (Nat.le_of_ble_eq_true rfl) ?_
  intro p e s m args below meth c A ls hx hb hml hown hts hr hlk hnm hZ hP hD hS hl
  have hl : lv_has ls 1 [(0, .ref h)] := hl
  refine lv_aload_n hx hb d_Sh_init_0 rfl (lv_at hl 0 rfl) ?_
  refine W.objInit hx hb hown (hts _ ml_Sh_3) (hts _ im_objectInit) (hts _ co_objectInit) rfl (by rw [hml]; exact hl.1) rfl d_Sh_init_1 (Nat.le_of_ble_eq_true rfl) (Nat.le_of_ble_eq_true rfl) ?_
  refine W.eq (g2 := F0 m 4 ls []) rfl ?_
  refine lv_aload_n hx hb d_Sh_init_4 rfl (lv_at hl 0 rfl) ?_
  refine va_new (ci := 0) (fs := [.null, .int 0]) (C := R_By) (T := F_By) (N := 2) hx hb hts i_By t_By t_By_ok hown (hts _ cl_Sh_9) (hts _ in_By) (hts _ ini_By) hZ.1 hP hD hS hZ.2.2.2 rfl (fun j hj => by rcases (show j = 0 ∨ j = 1 by omega) with rfl | rfl <;> rfl) (Nat.le_of_ble_eq_true rfl) (Nat.le_of_ble_eq_true rfl) d_Sh_init_5 (fun q5 H hP hD hS => ?_)
  have hP : va_P D classes [(h, .inr (1, [.null, .int 0])), (q5, .inr (0, [.null, .int 0]))] H := hP
  have hD : va_D A [(h, .inr (1, [.null, .int 0])), (q5, .inr (0, [.null, .int 0]))] := hD
  refine W.widen (k := 1) (n := 2) (by omega) (by omega) ?_
  refine lv_dup hx hb d_Sh_init_8 rfl ?_
  have hC : Cut [(h, .inr (1, [.null, .int 0])), (q5, .inr (0, [.null, .int 0]))] [(q5, .inr (0, [.null, .int 0]))] [(h, .inr (1, [.null, .int 0]))] [1] [0] := ⟨rfl, rfl, rfl, rfl, by decide⟩
  refine goV (trIN (As := []) (rest := [.ref q5, .ref h]) ⟨hx, hb, hml, hown, hts⟩ gd_good (c_By_init l D cB cI cJ q5) cal_By_init mn_Sh_11 ⟨Nat.le_of_ble_eq_true rfl, Nat.le_of_ble_eq_true rfl⟩ hZ hP hD hC rfl hl.1 rfl (Nat.le_of_ble_eq_true rfl) d_Sh_init_9 ⟨Nat.le_of_ble_eq_true rfl, Nat.le_of_ble_eq_true rfl⟩) hZ hP hD hS hC (fun w1 k_9 n_9 H locs hq hP hD hS => ?_)
  obtain ⟨a_9, rfl, rfl, rfl⟩ := hq
  have hP : va_P D classes [(h, .inr (1, [.null, .int 0])), (q5, .inr (0, [.ref a_9, .int 0])), (a_9, .inl (cB, 64, .inl (fun _ => 0)))] H := hP
  have hD : va_D A [(h, .inr (1, [.null, .int 0])), (q5, .inr (0, [.ref a_9, .int 0])), (a_9, .inl (cB, 64, .inl (fun _ => 0)))] := hD
  refine va_putF (D := D) (ci := 1) (v := .ref q5) (ty := .object "CharOutlines$Bytes") (C := R_Sh) (T := F_Sh) (N := 2) hx hb hts i_Sh t_Sh t_Sh_ok n_Sh hown hZ.1 hP hD hS 0 rfl rfl 0 (by decide) (hts _ fl_Sh_12) (fun _ h9 => h9) rfl hnm rfl (by decide +kernel) rfl rfl (Nat.le_of_ble_eq_true rfl) d_Sh_init_12 (fun H locs hP hD hS => ?_)
  have hP : va_P D classes [(h, .inr (1, [.ref q5, .int 0])), (q5, .inr (0, [.ref a_9, .int 0])), (a_9, .inl (cB, 64, .inl (fun _ => 0)))] H := hP
  have hD : va_D A [(h, .inr (1, [.ref q5, .int 0])), (q5, .inr (0, [.ref a_9, .int 0])), (a_9, .inl (cB, 64, .inl (fun _ => 0)))] := hD
  exact t_vret hx hb hr hlk d_Sh_init_15 (hP.subm (ws' := [(h, .inr (1, [.ref q5, .int 0])), (q5, .inr (0, [.ref a_9, .int 0])), (a_9, .inl (cB, 64, .inl (fun _ => 0)))]) [0, 1, 2] rfl) (hD.sub (ws' := [(h, .inr (1, [.ref q5, .int 0])), (q5, .inr (0, [.ref a_9, .int 0])), (a_9, .inl (cB, 64, .inl (fun _ => 0)))]) [0, 1, 2] rfl rfl) hS ⟨rfl, q5, a_9, rfl, rfl, rfl⟩
set_option maxHeartbeats 1000000 in
set_option maxRecDepth 100000 in
theorem c_St_init (l : Launch) (D : va_G) (cB cI cJ : ClassId) (h : Nat) : Tr l D classes (TY cB cI cJ) gd_tbl nx_tbl y_St_init b_St_init 1 none ({ frames := 3, cells := 12, slots := 234, locals := 52 }) [.ref h] [(h, .inr (2, [.null, .null, .null, .null, .null, .null, .int 0, .int 0]))] (pV (fun w k n => ∃ p pb pa g gb ga q qb qa ki pl en : Nat, w = [(h, .inr (2, [.ref p, .ref g, .ref q, .ref ki, .ref pl, .ref en, .int 0, .int 0])), (p, .inr (1, [.ref pb, .int 0])), (pb, .inr (0, [.ref pa, .int 0])), (pa, .inl (cB, 64, .inl (fun _ => 0))), (g, .inr (1, [.ref gb, .int 0])), (gb, .inr (0, [.ref ga, .int 0])), (ga, .inl (cB, 64, .inl (fun _ => 0))), (q, .inr (1, [.ref qb, .int 0])), (qb, .inr (0, [.ref qa, .int 0])), (qa, .inl (cB, 64, .inl (fun _ => 0))), (ki, .inl (cI, 10, .inl (fun _ => 0))), (pl, .inl (cI, 10, .inl (fun _ => 0))), (en, .inl (cI, 10, .inl (fun _ => 0)))] ∧ k = 12 ∧ n = 234)) := by
  refine Tr.intro (by decide +kernel) nx_ok (Nat.le_of_ble_eq_true rfl) ?_
  intro p e s m args below meth c A ls hx hb hml hown hts hr hlk hnm hZ hP hD hS hl
  have hl : lv_has ls 1 [(0, .ref h)] := hl
  refine lv_aload_n hx hb d_St_init_0 rfl (lv_at hl 0 rfl) ?_
  refine W.objInit hx hb hown (hts _ ml_St_3) (hts _ im_objectInit) (hts _ co_objectInit) rfl (by rw [hml]; exact hl.1) rfl d_St_init_1 (Nat.le_of_ble_eq_true rfl) (Nat.le_of_ble_eq_true rfl) ?_
  refine W.eq (g2 := F0 m 4 ls []) rfl ?_
  refine lv_aload_n hx hb d_St_init_4 rfl (lv_at hl 0 rfl) ?_
  refine va_new (ci := 1) (fs := [.null, .int 0]) (C := R_Sh) (T := F_Sh) (N := 2) hx hb hts i_Sh t_Sh t_Sh_ok hown (hts _ cl_St_9) (hts _ in_Sh) (hts _ ini_Sh) hZ.1 hP hD hS hZ.2.2.2 rfl (fun j hj => by rcases (show j = 0 ∨ j = 1 by omega) with rfl | rfl <;> rfl) (Nat.le_of_ble_eq_true rfl) (Nat.le_of_ble_eq_true rfl) d_St_init_5 (fun q5 H hP hD hS => ?_)
  have hP : va_P D classes [(h, .inr (2, [.null, .null, .null, .null, .null, .null, .int 0, .int 0])), (q5, .inr (1, [.null, .int 0]))] H := hP
  have hD : va_D A [(h, .inr (2, [.null, .null, .null, .null, .null, .null, .int 0, .int 0])), (q5, .inr (1, [.null, .int 0]))] := hD
  refine W.widen (k := 1) (n := 2) (by omega) (by omega) ?_
  refine lv_dup hx hb d_St_init_8 rfl ?_
  have hC : Cut [(h, .inr (2, [.null, .null, .null, .null, .null, .null, .int 0, .int 0])), (q5, .inr (1, [.null, .int 0]))] [(q5, .inr (1, [.null, .int 0]))] [(h, .inr (2, [.null, .null, .null, .null, .null, .null, .int 0, .int 0]))] [1] [0] := ⟨rfl, rfl, rfl, rfl, by decide⟩
  refine goV (trIN (As := []) (rest := [.ref q5, .ref h]) ⟨hx, hb, hml, hown, hts⟩ gd_good (c_Sh_init l D cB cI cJ q5) cal_Sh_init mn_St_11 ⟨Nat.le_of_ble_eq_true rfl, Nat.le_of_ble_eq_true rfl⟩ hZ hP hD hC rfl hl.1 rfl (Nat.le_of_ble_eq_true rfl) d_St_init_9 ⟨Nat.le_of_ble_eq_true rfl, Nat.le_of_ble_eq_true rfl⟩) hZ hP hD hS hC (fun w1 k_9 n_9 H locs hq hP hD hS => ?_)
  obtain ⟨hb_9, a_9, rfl, rfl, rfl⟩ := hq
  have hP : va_P D classes [(h, .inr (2, [.null, .null, .null, .null, .null, .null, .int 0, .int 0])), (q5, .inr (1, [.ref hb_9, .int 0])), (hb_9, .inr (0, [.ref a_9, .int 0])), (a_9, .inl (cB, 64, .inl (fun _ => 0)))] H := hP
  have hD : va_D A [(h, .inr (2, [.null, .null, .null, .null, .null, .null, .int 0, .int 0])), (q5, .inr (1, [.ref hb_9, .int 0])), (hb_9, .inr (0, [.ref a_9, .int 0])), (a_9, .inl (cB, 64, .inl (fun _ => 0)))] := hD
  refine va_putF (D := D) (ci := 2) (v := .ref q5) (ty := .object "CharOutlines$Shelf") (C := R_St) (T := F_St) (N := 8) hx hb hts i_St t_St t_St_ok n_St hown hZ.1 hP hD hS 0 rfl rfl 0 (by decide) (hts _ fl_St_12) (fun _ h9 => h9) rfl hnm rfl (by decide +kernel) rfl rfl (Nat.le_of_ble_eq_true rfl) d_St_init_12 (fun H locs hP hD hS => ?_)
  have hP : va_P D classes [(h, .inr (2, [.ref q5, .null, .null, .null, .null, .null, .int 0, .int 0])), (q5, .inr (1, [.ref hb_9, .int 0])), (hb_9, .inr (0, [.ref a_9, .int 0])), (a_9, .inl (cB, 64, .inl (fun _ => 0)))] H := hP
  have hD : va_D A [(h, .inr (2, [.ref q5, .null, .null, .null, .null, .null, .int 0, .int 0])), (q5, .inr (1, [.ref hb_9, .int 0])), (hb_9, .inr (0, [.ref a_9, .int 0])), (a_9, .inl (cB, 64, .inl (fun _ => 0)))] := hD
  refine lv_aload_n hx hb d_St_init_15 rfl (lv_at hl 0 rfl) ?_
  refine va_new (ci := 1) (fs := [.null, .int 0]) (C := R_Sh) (T := F_Sh) (N := 2) hx hb hts i_Sh t_Sh t_Sh_ok hown (hts _ cl_St_9) (hts _ in_Sh) (hts _ ini_Sh) hZ.1 hP hD hS hZ.2.2.2 rfl (fun j hj => by rcases (show j = 0 ∨ j = 1 by omega) with rfl | rfl <;> rfl) (Nat.le_of_ble_eq_true rfl) (Nat.le_of_ble_eq_true rfl) d_St_init_16 (fun q16 H hP hD hS => ?_)
  have hP : va_P D classes [(h, .inr (2, [.ref q5, .null, .null, .null, .null, .null, .int 0, .int 0])), (q5, .inr (1, [.ref hb_9, .int 0])), (hb_9, .inr (0, [.ref a_9, .int 0])), (a_9, .inl (cB, 64, .inl (fun _ => 0))), (q16, .inr (1, [.null, .int 0]))] H := hP
  have hD : va_D A [(h, .inr (2, [.ref q5, .null, .null, .null, .null, .null, .int 0, .int 0])), (q5, .inr (1, [.ref hb_9, .int 0])), (hb_9, .inr (0, [.ref a_9, .int 0])), (a_9, .inl (cB, 64, .inl (fun _ => 0))), (q16, .inr (1, [.null, .int 0]))] := hD
  refine W.widen (k := 4) (n := 70) (by omega) (by omega) ?_
  refine lv_dup hx hb d_St_init_19 rfl ?_
  have hC : Cut [(h, .inr (2, [.ref q5, .null, .null, .null, .null, .null, .int 0, .int 0])), (q5, .inr (1, [.ref hb_9, .int 0])), (hb_9, .inr (0, [.ref a_9, .int 0])), (a_9, .inl (cB, 64, .inl (fun _ => 0))), (q16, .inr (1, [.null, .int 0]))] [(q16, .inr (1, [.null, .int 0]))] [(h, .inr (2, [.ref q5, .null, .null, .null, .null, .null, .int 0, .int 0])), (q5, .inr (1, [.ref hb_9, .int 0])), (hb_9, .inr (0, [.ref a_9, .int 0])), (a_9, .inl (cB, 64, .inl (fun _ => 0)))] [4] [0, 1, 2, 3] := ⟨rfl, rfl, rfl, rfl, by decide⟩
  refine goV (trIN (As := []) (rest := [.ref q16, .ref h]) ⟨hx, hb, hml, hown, hts⟩ gd_good (c_Sh_init l D cB cI cJ q16) cal_Sh_init mn_St_11 ⟨Nat.le_of_ble_eq_true rfl, Nat.le_of_ble_eq_true rfl⟩ hZ hP hD hC rfl hl.1 rfl (Nat.le_of_ble_eq_true rfl) d_St_init_20 ⟨Nat.le_of_ble_eq_true rfl, Nat.le_of_ble_eq_true rfl⟩) hZ hP hD hS hC (fun w1 k_20 n_20 H locs hq hP hD hS => ?_)
  obtain ⟨hb_20, a_20, rfl, rfl, rfl⟩ := hq
  have hP : va_P D classes [(h, .inr (2, [.ref q5, .null, .null, .null, .null, .null, .int 0, .int 0])), (q5, .inr (1, [.ref hb_9, .int 0])), (hb_9, .inr (0, [.ref a_9, .int 0])), (a_9, .inl (cB, 64, .inl (fun _ => 0))), (q16, .inr (1, [.ref hb_20, .int 0])), (hb_20, .inr (0, [.ref a_20, .int 0])), (a_20, .inl (cB, 64, .inl (fun _ => 0)))] H := hP
  have hD : va_D A [(h, .inr (2, [.ref q5, .null, .null, .null, .null, .null, .int 0, .int 0])), (q5, .inr (1, [.ref hb_9, .int 0])), (hb_9, .inr (0, [.ref a_9, .int 0])), (a_9, .inl (cB, 64, .inl (fun _ => 0))), (q16, .inr (1, [.ref hb_20, .int 0])), (hb_20, .inr (0, [.ref a_20, .int 0])), (a_20, .inl (cB, 64, .inl (fun _ => 0)))] := hD
  refine va_putF (D := D) (ci := 2) (v := .ref q16) (ty := .object "CharOutlines$Shelf") (C := R_St) (T := F_St) (N := 8) hx hb hts i_St t_St t_St_ok n_St hown hZ.1 hP hD hS 0 rfl rfl 1 (by decide) (hts _ fl_St_18) (fun _ h9 => h9) rfl hnm rfl (by decide +kernel) rfl rfl (Nat.le_of_ble_eq_true rfl) d_St_init_23 (fun H locs hP hD hS => ?_)
  have hP : va_P D classes [(h, .inr (2, [.ref q5, .ref q16, .null, .null, .null, .null, .int 0, .int 0])), (q5, .inr (1, [.ref hb_9, .int 0])), (hb_9, .inr (0, [.ref a_9, .int 0])), (a_9, .inl (cB, 64, .inl (fun _ => 0))), (q16, .inr (1, [.ref hb_20, .int 0])), (hb_20, .inr (0, [.ref a_20, .int 0])), (a_20, .inl (cB, 64, .inl (fun _ => 0)))] H := hP
  have hD : va_D A [(h, .inr (2, [.ref q5, .ref q16, .null, .null, .null, .null, .int 0, .int 0])), (q5, .inr (1, [.ref hb_9, .int 0])), (hb_9, .inr (0, [.ref a_9, .int 0])), (a_9, .inl (cB, 64, .inl (fun _ => 0))), (q16, .inr (1, [.ref hb_20, .int 0])), (hb_20, .inr (0, [.ref a_20, .int 0])), (a_20, .inl (cB, 64, .inl (fun _ => 0)))] := hD
  refine lv_aload_n hx hb d_St_init_26 rfl (lv_at hl 0 rfl) ?_
  refine va_new (ci := 1) (fs := [.null, .int 0]) (C := R_Sh) (T := F_Sh) (N := 2) hx hb hts i_Sh t_Sh t_Sh_ok hown (hts _ cl_St_9) (hts _ in_Sh) (hts _ ini_Sh) hZ.1 hP hD hS hZ.2.2.2 rfl (fun j hj => by rcases (show j = 0 ∨ j = 1 by omega) with rfl | rfl <;> rfl) (Nat.le_of_ble_eq_true rfl) (Nat.le_of_ble_eq_true rfl) d_St_init_27 (fun q27 H hP hD hS => ?_)
  have hP : va_P D classes [(h, .inr (2, [.ref q5, .ref q16, .null, .null, .null, .null, .int 0, .int 0])), (q5, .inr (1, [.ref hb_9, .int 0])), (hb_9, .inr (0, [.ref a_9, .int 0])), (a_9, .inl (cB, 64, .inl (fun _ => 0))), (q16, .inr (1, [.ref hb_20, .int 0])), (hb_20, .inr (0, [.ref a_20, .int 0])), (a_20, .inl (cB, 64, .inl (fun _ => 0))), (q27, .inr (1, [.null, .int 0]))] H := hP
  have hD : va_D A [(h, .inr (2, [.ref q5, .ref q16, .null, .null, .null, .null, .int 0, .int 0])), (q5, .inr (1, [.ref hb_9, .int 0])), (hb_9, .inr (0, [.ref a_9, .int 0])), (a_9, .inl (cB, 64, .inl (fun _ => 0))), (q16, .inr (1, [.ref hb_20, .int 0])), (hb_20, .inr (0, [.ref a_20, .int 0])), (a_20, .inl (cB, 64, .inl (fun _ => 0))), (q27, .inr (1, [.null, .int 0]))] := hD
  refine W.widen (k := 7) (n := 138) (by omega) (by omega) ?_
  refine lv_dup hx hb d_St_init_30 rfl ?_
  have hC : Cut [(h, .inr (2, [.ref q5, .ref q16, .null, .null, .null, .null, .int 0, .int 0])), (q5, .inr (1, [.ref hb_9, .int 0])), (hb_9, .inr (0, [.ref a_9, .int 0])), (a_9, .inl (cB, 64, .inl (fun _ => 0))), (q16, .inr (1, [.ref hb_20, .int 0])), (hb_20, .inr (0, [.ref a_20, .int 0])), (a_20, .inl (cB, 64, .inl (fun _ => 0))), (q27, .inr (1, [.null, .int 0]))] [(q27, .inr (1, [.null, .int 0]))] [(h, .inr (2, [.ref q5, .ref q16, .null, .null, .null, .null, .int 0, .int 0])), (q5, .inr (1, [.ref hb_9, .int 0])), (hb_9, .inr (0, [.ref a_9, .int 0])), (a_9, .inl (cB, 64, .inl (fun _ => 0))), (q16, .inr (1, [.ref hb_20, .int 0])), (hb_20, .inr (0, [.ref a_20, .int 0])), (a_20, .inl (cB, 64, .inl (fun _ => 0)))] [7] [0, 1, 2, 3, 4, 5, 6] := ⟨rfl, rfl, rfl, rfl, by decide⟩
  refine goV (trIN (As := []) (rest := [.ref q27, .ref h]) ⟨hx, hb, hml, hown, hts⟩ gd_good (c_Sh_init l D cB cI cJ q27) cal_Sh_init mn_St_11 ⟨Nat.le_of_ble_eq_true rfl, Nat.le_of_ble_eq_true rfl⟩ hZ hP hD hC rfl hl.1 rfl (Nat.le_of_ble_eq_true rfl) d_St_init_31 ⟨Nat.le_of_ble_eq_true rfl, Nat.le_of_ble_eq_true rfl⟩) hZ hP hD hS hC (fun w1 k_31 n_31 H locs hq hP hD hS => ?_)
  obtain ⟨hb_31, a_31, rfl, rfl, rfl⟩ := hq
  have hP : va_P D classes [(h, .inr (2, [.ref q5, .ref q16, .null, .null, .null, .null, .int 0, .int 0])), (q5, .inr (1, [.ref hb_9, .int 0])), (hb_9, .inr (0, [.ref a_9, .int 0])), (a_9, .inl (cB, 64, .inl (fun _ => 0))), (q16, .inr (1, [.ref hb_20, .int 0])), (hb_20, .inr (0, [.ref a_20, .int 0])), (a_20, .inl (cB, 64, .inl (fun _ => 0))), (q27, .inr (1, [.ref hb_31, .int 0])), (hb_31, .inr (0, [.ref a_31, .int 0])), (a_31, .inl (cB, 64, .inl (fun _ => 0)))] H := hP
  have hD : va_D A [(h, .inr (2, [.ref q5, .ref q16, .null, .null, .null, .null, .int 0, .int 0])), (q5, .inr (1, [.ref hb_9, .int 0])), (hb_9, .inr (0, [.ref a_9, .int 0])), (a_9, .inl (cB, 64, .inl (fun _ => 0))), (q16, .inr (1, [.ref hb_20, .int 0])), (hb_20, .inr (0, [.ref a_20, .int 0])), (a_20, .inl (cB, 64, .inl (fun _ => 0))), (q27, .inr (1, [.ref hb_31, .int 0])), (hb_31, .inr (0, [.ref a_31, .int 0])), (a_31, .inl (cB, 64, .inl (fun _ => 0)))] := hD
  refine va_putF (D := D) (ci := 2) (v := .ref q27) (ty := .object "CharOutlines$Shelf") (C := R_St) (T := F_St) (N := 8) hx hb hts i_St t_St t_St_ok n_St hown hZ.1 hP hD hS 0 rfl rfl 2 (by decide) (hts _ fl_St_21) (fun _ h9 => h9) rfl hnm rfl (by decide +kernel) rfl rfl (Nat.le_of_ble_eq_true rfl) d_St_init_34 (fun H locs hP hD hS => ?_)
  have hP : va_P D classes [(h, .inr (2, [.ref q5, .ref q16, .ref q27, .null, .null, .null, .int 0, .int 0])), (q5, .inr (1, [.ref hb_9, .int 0])), (hb_9, .inr (0, [.ref a_9, .int 0])), (a_9, .inl (cB, 64, .inl (fun _ => 0))), (q16, .inr (1, [.ref hb_20, .int 0])), (hb_20, .inr (0, [.ref a_20, .int 0])), (a_20, .inl (cB, 64, .inl (fun _ => 0))), (q27, .inr (1, [.ref hb_31, .int 0])), (hb_31, .inr (0, [.ref a_31, .int 0])), (a_31, .inl (cB, 64, .inl (fun _ => 0)))] H := hP
  have hD : va_D A [(h, .inr (2, [.ref q5, .ref q16, .ref q27, .null, .null, .null, .int 0, .int 0])), (q5, .inr (1, [.ref hb_9, .int 0])), (hb_9, .inr (0, [.ref a_9, .int 0])), (a_9, .inl (cB, 64, .inl (fun _ => 0))), (q16, .inr (1, [.ref hb_20, .int 0])), (hb_20, .inr (0, [.ref a_20, .int 0])), (a_20, .inl (cB, 64, .inl (fun _ => 0))), (q27, .inr (1, [.ref hb_31, .int 0])), (hb_31, .inr (0, [.ref a_31, .int 0])), (a_31, .inl (cB, 64, .inl (fun _ => 0)))] := hD
  refine lv_aload_n hx hb d_St_init_37 rfl (lv_at hl 0 rfl) ?_
  refine lv_bipush (v := 10) hx hb d_St_init_38 (by decide) ?_
  refine t_newa (atype := .int) (a0 := (10, .inl (fun _ => 0))) (N' := 10) hx hb (hts _ ar_I) rfl hZ.1 hP hD hS hZ.2.2.2 1 rfl (fun _ => rfl) (by decide) (by decide) (by decide) (Nat.le_of_ble_eq_true rfl) (Nat.le_of_ble_eq_true rfl) d_St_init_40 (fun q40 H hP hD hS => ?_)
  have hP : va_P D classes [(h, .inr (2, [.ref q5, .ref q16, .ref q27, .null, .null, .null, .int 0, .int 0])), (q5, .inr (1, [.ref hb_9, .int 0])), (hb_9, .inr (0, [.ref a_9, .int 0])), (a_9, .inl (cB, 64, .inl (fun _ => 0))), (q16, .inr (1, [.ref hb_20, .int 0])), (hb_20, .inr (0, [.ref a_20, .int 0])), (a_20, .inl (cB, 64, .inl (fun _ => 0))), (q27, .inr (1, [.ref hb_31, .int 0])), (hb_31, .inr (0, [.ref a_31, .int 0])), (a_31, .inl (cB, 64, .inl (fun _ => 0))), (q40, .inl (cI, 10, .inl (fun _ => 0)))] H := hP
  have hD : va_D A [(h, .inr (2, [.ref q5, .ref q16, .ref q27, .null, .null, .null, .int 0, .int 0])), (q5, .inr (1, [.ref hb_9, .int 0])), (hb_9, .inr (0, [.ref a_9, .int 0])), (a_9, .inl (cB, 64, .inl (fun _ => 0))), (q16, .inr (1, [.ref hb_20, .int 0])), (hb_20, .inr (0, [.ref a_20, .int 0])), (a_20, .inl (cB, 64, .inl (fun _ => 0))), (q27, .inr (1, [.ref hb_31, .int 0])), (hb_31, .inr (0, [.ref a_31, .int 0])), (a_31, .inl (cB, 64, .inl (fun _ => 0))), (q40, .inl (cI, 10, .inl (fun _ => 0)))] := hD
  refine va_putF (D := D) (ci := 2) (v := .ref q40) (ty := .array .int) (C := R_St) (T := F_St) (N := 8) hx hb hts i_St t_St t_St_ok n_St hown hZ.1 hP hD hS 0 rfl rfl 3 (by decide) (hts _ fl_St_24) (fun _ h9 => h9) rfl hnm rfl (by decide +kernel) rfl rfl (Nat.le_of_ble_eq_true rfl) d_St_init_42 (fun H locs hP hD hS => ?_)
  have hP : va_P D classes [(h, .inr (2, [.ref q5, .ref q16, .ref q27, .ref q40, .null, .null, .int 0, .int 0])), (q5, .inr (1, [.ref hb_9, .int 0])), (hb_9, .inr (0, [.ref a_9, .int 0])), (a_9, .inl (cB, 64, .inl (fun _ => 0))), (q16, .inr (1, [.ref hb_20, .int 0])), (hb_20, .inr (0, [.ref a_20, .int 0])), (a_20, .inl (cB, 64, .inl (fun _ => 0))), (q27, .inr (1, [.ref hb_31, .int 0])), (hb_31, .inr (0, [.ref a_31, .int 0])), (a_31, .inl (cB, 64, .inl (fun _ => 0))), (q40, .inl (cI, 10, .inl (fun _ => 0)))] H := hP
  have hD : va_D A [(h, .inr (2, [.ref q5, .ref q16, .ref q27, .ref q40, .null, .null, .int 0, .int 0])), (q5, .inr (1, [.ref hb_9, .int 0])), (hb_9, .inr (0, [.ref a_9, .int 0])), (a_9, .inl (cB, 64, .inl (fun _ => 0))), (q16, .inr (1, [.ref hb_20, .int 0])), (hb_20, .inr (0, [.ref a_20, .int 0])), (a_20, .inl (cB, 64, .inl (fun _ => 0))), (q27, .inr (1, [.ref hb_31, .int 0])), (hb_31, .inr (0, [.ref a_31, .int 0])), (a_31, .inl (cB, 64, .inl (fun _ => 0))), (q40, .inl (cI, 10, .inl (fun _ => 0)))] := hD
  refine lv_aload_n hx hb d_St_init_45 rfl (lv_at hl 0 rfl) ?_
  refine lv_bipush (v := 10) hx hb d_St_init_46 (by decide) ?_
  refine t_newa (atype := .int) (a0 := (10, .inl (fun _ => 0))) (N' := 10) hx hb (hts _ ar_I) rfl hZ.1 hP hD hS hZ.2.2.2 1 rfl (fun _ => rfl) (by decide) (by decide) (by decide) (Nat.le_of_ble_eq_true rfl) (Nat.le_of_ble_eq_true rfl) d_St_init_48 (fun q48 H hP hD hS => ?_)
  have hP : va_P D classes [(h, .inr (2, [.ref q5, .ref q16, .ref q27, .ref q40, .null, .null, .int 0, .int 0])), (q5, .inr (1, [.ref hb_9, .int 0])), (hb_9, .inr (0, [.ref a_9, .int 0])), (a_9, .inl (cB, 64, .inl (fun _ => 0))), (q16, .inr (1, [.ref hb_20, .int 0])), (hb_20, .inr (0, [.ref a_20, .int 0])), (a_20, .inl (cB, 64, .inl (fun _ => 0))), (q27, .inr (1, [.ref hb_31, .int 0])), (hb_31, .inr (0, [.ref a_31, .int 0])), (a_31, .inl (cB, 64, .inl (fun _ => 0))), (q40, .inl (cI, 10, .inl (fun _ => 0))), (q48, .inl (cI, 10, .inl (fun _ => 0)))] H := hP
  have hD : va_D A [(h, .inr (2, [.ref q5, .ref q16, .ref q27, .ref q40, .null, .null, .int 0, .int 0])), (q5, .inr (1, [.ref hb_9, .int 0])), (hb_9, .inr (0, [.ref a_9, .int 0])), (a_9, .inl (cB, 64, .inl (fun _ => 0))), (q16, .inr (1, [.ref hb_20, .int 0])), (hb_20, .inr (0, [.ref a_20, .int 0])), (a_20, .inl (cB, 64, .inl (fun _ => 0))), (q27, .inr (1, [.ref hb_31, .int 0])), (hb_31, .inr (0, [.ref a_31, .int 0])), (a_31, .inl (cB, 64, .inl (fun _ => 0))), (q40, .inl (cI, 10, .inl (fun _ => 0))), (q48, .inl (cI, 10, .inl (fun _ => 0)))] := hD
  refine va_putF (D := D) (ci := 2) (v := .ref q48) (ty := .array .int) (C := R_St) (T := F_St) (N := 8) hx hb hts i_St t_St t_St_ok n_St hown hZ.1 hP hD hS 0 rfl rfl 4 (by decide) (hts _ fl_St_28) (fun _ h9 => h9) rfl hnm rfl (by decide +kernel) rfl rfl (Nat.le_of_ble_eq_true rfl) d_St_init_50 (fun H locs hP hD hS => ?_)
  have hP : va_P D classes [(h, .inr (2, [.ref q5, .ref q16, .ref q27, .ref q40, .ref q48, .null, .int 0, .int 0])), (q5, .inr (1, [.ref hb_9, .int 0])), (hb_9, .inr (0, [.ref a_9, .int 0])), (a_9, .inl (cB, 64, .inl (fun _ => 0))), (q16, .inr (1, [.ref hb_20, .int 0])), (hb_20, .inr (0, [.ref a_20, .int 0])), (a_20, .inl (cB, 64, .inl (fun _ => 0))), (q27, .inr (1, [.ref hb_31, .int 0])), (hb_31, .inr (0, [.ref a_31, .int 0])), (a_31, .inl (cB, 64, .inl (fun _ => 0))), (q40, .inl (cI, 10, .inl (fun _ => 0))), (q48, .inl (cI, 10, .inl (fun _ => 0)))] H := hP
  have hD : va_D A [(h, .inr (2, [.ref q5, .ref q16, .ref q27, .ref q40, .ref q48, .null, .int 0, .int 0])), (q5, .inr (1, [.ref hb_9, .int 0])), (hb_9, .inr (0, [.ref a_9, .int 0])), (a_9, .inl (cB, 64, .inl (fun _ => 0))), (q16, .inr (1, [.ref hb_20, .int 0])), (hb_20, .inr (0, [.ref a_20, .int 0])), (a_20, .inl (cB, 64, .inl (fun _ => 0))), (q27, .inr (1, [.ref hb_31, .int 0])), (hb_31, .inr (0, [.ref a_31, .int 0])), (a_31, .inl (cB, 64, .inl (fun _ => 0))), (q40, .inl (cI, 10, .inl (fun _ => 0))), (q48, .inl (cI, 10, .inl (fun _ => 0)))] := hD
  refine lv_aload_n hx hb d_St_init_53 rfl (lv_at hl 0 rfl) ?_
  refine lv_bipush (v := 10) hx hb d_St_init_54 (by decide) ?_
  refine t_newa (atype := .int) (a0 := (10, .inl (fun _ => 0))) (N' := 10) hx hb (hts _ ar_I) rfl hZ.1 hP hD hS hZ.2.2.2 1 rfl (fun _ => rfl) (by decide) (by decide) (by decide) (Nat.le_of_ble_eq_true rfl) (Nat.le_of_ble_eq_true rfl) d_St_init_56 (fun q56 H hP hD hS => ?_)
  have hP : va_P D classes [(h, .inr (2, [.ref q5, .ref q16, .ref q27, .ref q40, .ref q48, .null, .int 0, .int 0])), (q5, .inr (1, [.ref hb_9, .int 0])), (hb_9, .inr (0, [.ref a_9, .int 0])), (a_9, .inl (cB, 64, .inl (fun _ => 0))), (q16, .inr (1, [.ref hb_20, .int 0])), (hb_20, .inr (0, [.ref a_20, .int 0])), (a_20, .inl (cB, 64, .inl (fun _ => 0))), (q27, .inr (1, [.ref hb_31, .int 0])), (hb_31, .inr (0, [.ref a_31, .int 0])), (a_31, .inl (cB, 64, .inl (fun _ => 0))), (q40, .inl (cI, 10, .inl (fun _ => 0))), (q48, .inl (cI, 10, .inl (fun _ => 0))), (q56, .inl (cI, 10, .inl (fun _ => 0)))] H := hP
  have hD : va_D A [(h, .inr (2, [.ref q5, .ref q16, .ref q27, .ref q40, .ref q48, .null, .int 0, .int 0])), (q5, .inr (1, [.ref hb_9, .int 0])), (hb_9, .inr (0, [.ref a_9, .int 0])), (a_9, .inl (cB, 64, .inl (fun _ => 0))), (q16, .inr (1, [.ref hb_20, .int 0])), (hb_20, .inr (0, [.ref a_20, .int 0])), (a_20, .inl (cB, 64, .inl (fun _ => 0))), (q27, .inr (1, [.ref hb_31, .int 0])), (hb_31, .inr (0, [.ref a_31, .int 0])), (a_31, .inl (cB, 64, .inl (fun _ => 0))), (q40, .inl (cI, 10, .inl (fun _ => 0))), (q48, .inl (cI, 10, .inl (fun _ => 0))), (q56, .inl (cI, 10, .inl (fun _ => 0)))] := hD
  refine va_putF (D := D) (ci := 2) (v := .ref q56) (ty := .array .int) (C := R_St) (T := F_St) (N := 8) hx hb hts i_St t_St t_St_ok n_St hown hZ.1 hP hD hS 0 rfl rfl 5 (by decide) (hts _ fl_St_31) (fun _ h9 => h9) rfl hnm rfl (by decide +kernel) rfl rfl (Nat.le_of_ble_eq_true rfl) d_St_init_58 (fun H locs hP hD hS => ?_)
  have hP : va_P D classes [(h, .inr (2, [.ref q5, .ref q16, .ref q27, .ref q40, .ref q48, .ref q56, .int 0, .int 0])), (q5, .inr (1, [.ref hb_9, .int 0])), (hb_9, .inr (0, [.ref a_9, .int 0])), (a_9, .inl (cB, 64, .inl (fun _ => 0))), (q16, .inr (1, [.ref hb_20, .int 0])), (hb_20, .inr (0, [.ref a_20, .int 0])), (a_20, .inl (cB, 64, .inl (fun _ => 0))), (q27, .inr (1, [.ref hb_31, .int 0])), (hb_31, .inr (0, [.ref a_31, .int 0])), (a_31, .inl (cB, 64, .inl (fun _ => 0))), (q40, .inl (cI, 10, .inl (fun _ => 0))), (q48, .inl (cI, 10, .inl (fun _ => 0))), (q56, .inl (cI, 10, .inl (fun _ => 0)))] H := hP
  have hD : va_D A [(h, .inr (2, [.ref q5, .ref q16, .ref q27, .ref q40, .ref q48, .ref q56, .int 0, .int 0])), (q5, .inr (1, [.ref hb_9, .int 0])), (hb_9, .inr (0, [.ref a_9, .int 0])), (a_9, .inl (cB, 64, .inl (fun _ => 0))), (q16, .inr (1, [.ref hb_20, .int 0])), (hb_20, .inr (0, [.ref a_20, .int 0])), (a_20, .inl (cB, 64, .inl (fun _ => 0))), (q27, .inr (1, [.ref hb_31, .int 0])), (hb_31, .inr (0, [.ref a_31, .int 0])), (a_31, .inl (cB, 64, .inl (fun _ => 0))), (q40, .inl (cI, 10, .inl (fun _ => 0))), (q48, .inl (cI, 10, .inl (fun _ => 0))), (q56, .inl (cI, 10, .inl (fun _ => 0)))] := hD
  exact t_vret hx hb hr hlk d_St_init_61 (hP.subm (ws' := [(h, .inr (2, [.ref q5, .ref q16, .ref q27, .ref q40, .ref q48, .ref q56, .int 0, .int 0])), (q5, .inr (1, [.ref hb_9, .int 0])), (hb_9, .inr (0, [.ref a_9, .int 0])), (a_9, .inl (cB, 64, .inl (fun _ => 0))), (q16, .inr (1, [.ref hb_20, .int 0])), (hb_20, .inr (0, [.ref a_20, .int 0])), (a_20, .inl (cB, 64, .inl (fun _ => 0))), (q27, .inr (1, [.ref hb_31, .int 0])), (hb_31, .inr (0, [.ref a_31, .int 0])), (a_31, .inl (cB, 64, .inl (fun _ => 0))), (q40, .inl (cI, 10, .inl (fun _ => 0))), (q48, .inl (cI, 10, .inl (fun _ => 0))), (q56, .inl (cI, 10, .inl (fun _ => 0)))]) [0, 1, 2, 3, 4, 5, 6, 7, 8, 9, 10, 11, 12] rfl) (hD.sub (ws' := [(h, .inr (2, [.ref q5, .ref q16, .ref q27, .ref q40, .ref q48, .ref q56, .int 0, .int 0])), (q5, .inr (1, [.ref hb_9, .int 0])), (hb_9, .inr (0, [.ref a_9, .int 0])), (a_9, .inl (cB, 64, .inl (fun _ => 0))), (q16, .inr (1, [.ref hb_20, .int 0])), (hb_20, .inr (0, [.ref a_20, .int 0])), (a_20, .inl (cB, 64, .inl (fun _ => 0))), (q27, .inr (1, [.ref hb_31, .int 0])), (hb_31, .inr (0, [.ref a_31, .int 0])), (a_31, .inl (cB, 64, .inl (fun _ => 0))), (q40, .inl (cI, 10, .inl (fun _ => 0))), (q48, .inl (cI, 10, .inl (fun _ => 0))), (q56, .inl (cI, 10, .inl (fun _ => 0)))]) [0, 1, 2, 3, 4, 5, 6, 7, 8, 9, 10, 11, 12] rfl rfl) hS ⟨rfl, q5, hb_9, a_9, q16, hb_20, a_20, q27, hb_31, a_31, q40, q48, q56, rfl, rfl, rfl⟩
set_option maxHeartbeats 1000000 in
set_option maxRecDepth 100000 in
theorem c_Va_init (l : Launch) (D : va_G) (cB cI cJ : ClassId) (h : Nat) : Tr l D classes (TY cB cI cJ) gd_tbl nx_tbl y_Va_init b_Va_init 1 none ({ frames := 1, cells := 2, slots := 96, locals := 12 }) [.ref h] [(h, .inr (3, [.null, .null, .int 0]))] (pV (fun w k n => ∃ va vb : Nat, w = [(h, .inr (3, [.ref va, .ref vb, .int 0])), (va, .inl (cI, 48, .inl (fun _ => 0))), (vb, .inl (cI, 48, .inl (fun _ => 0)))] ∧ k = 2 ∧ n = 96)) := by
  refine Tr.intro (by decide +kernel) nx_ok (Nat.le_of_ble_eq_true rfl) ?_
  intro p e s m args below meth c A ls hx hb hml hown hts hr hlk hnm hZ hP hD hS hl
  have hl : lv_has ls 1 [(0, .ref h)] := hl
  refine lv_aload_n hx hb d_Va_init_0 rfl (lv_at hl 0 rfl) ?_
  refine W.objInit hx hb hown (hts _ ml_Va_3) (hts _ im_objectInit) (hts _ co_objectInit) rfl (by rw [hml]; exact hl.1) rfl d_Va_init_1 (Nat.le_of_ble_eq_true rfl) (Nat.le_of_ble_eq_true rfl) ?_
  refine W.eq (g2 := F0 m 4 ls []) rfl ?_
  refine lv_aload_n hx hb d_Va_init_4 rfl (lv_at hl 0 rfl) ?_
  refine lv_bipush (v := 48) hx hb d_Va_init_5 (by decide) ?_
  refine t_newa (atype := .int) (a0 := (48, .inl (fun _ => 0))) (N' := 48) hx hb (hts _ ar_I) rfl hZ.1 hP hD hS hZ.2.2.2 1 rfl (fun _ => rfl) (by decide) (by decide) (by decide) (Nat.le_of_ble_eq_true rfl) (Nat.le_of_ble_eq_true rfl) d_Va_init_7 (fun q7 H hP hD hS => ?_)
  have hP : va_P D classes [(h, .inr (3, [.null, .null, .int 0])), (q7, .inl (cI, 48, .inl (fun _ => 0)))] H := hP
  have hD : va_D A [(h, .inr (3, [.null, .null, .int 0])), (q7, .inl (cI, 48, .inl (fun _ => 0)))] := hD
  refine va_putF (D := D) (ci := 3) (v := .ref q7) (ty := .array .int) (C := R_Va) (T := F_Va) (N := 3) hx hb hts i_Va t_Va t_Va_ok n_Va hown hZ.1 hP hD hS 0 rfl rfl 0 (by decide) (hts _ fl_Va_9) (fun _ h9 => h9) rfl hnm rfl (by decide +kernel) rfl rfl (Nat.le_of_ble_eq_true rfl) d_Va_init_9 (fun H locs hP hD hS => ?_)
  have hP : va_P D classes [(h, .inr (3, [.ref q7, .null, .int 0])), (q7, .inl (cI, 48, .inl (fun _ => 0)))] H := hP
  have hD : va_D A [(h, .inr (3, [.ref q7, .null, .int 0])), (q7, .inl (cI, 48, .inl (fun _ => 0)))] := hD
  refine lv_aload_n hx hb d_Va_init_12 rfl (lv_at hl 0 rfl) ?_
  refine lv_bipush (v := 48) hx hb d_Va_init_13 (by decide) ?_
  refine t_newa (atype := .int) (a0 := (48, .inl (fun _ => 0))) (N' := 48) hx hb (hts _ ar_I) rfl hZ.1 hP hD hS hZ.2.2.2 1 rfl (fun _ => rfl) (by decide) (by decide) (by decide) (Nat.le_of_ble_eq_true rfl) (Nat.le_of_ble_eq_true rfl) d_Va_init_15 (fun q15 H hP hD hS => ?_)
  have hP : va_P D classes [(h, .inr (3, [.ref q7, .null, .int 0])), (q7, .inl (cI, 48, .inl (fun _ => 0))), (q15, .inl (cI, 48, .inl (fun _ => 0)))] H := hP
  have hD : va_D A [(h, .inr (3, [.ref q7, .null, .int 0])), (q7, .inl (cI, 48, .inl (fun _ => 0))), (q15, .inl (cI, 48, .inl (fun _ => 0)))] := hD
  refine va_putF (D := D) (ci := 3) (v := .ref q15) (ty := .array .int) (C := R_Va) (T := F_Va) (N := 3) hx hb hts i_Va t_Va t_Va_ok n_Va hown hZ.1 hP hD hS 0 rfl rfl 1 (by decide) (hts _ fl_Va_15) (fun _ h9 => h9) rfl hnm rfl (by decide +kernel) rfl rfl (Nat.le_of_ble_eq_true rfl) d_Va_init_17 (fun H locs hP hD hS => ?_)
  have hP : va_P D classes [(h, .inr (3, [.ref q7, .ref q15, .int 0])), (q7, .inl (cI, 48, .inl (fun _ => 0))), (q15, .inl (cI, 48, .inl (fun _ => 0)))] H := hP
  have hD : va_D A [(h, .inr (3, [.ref q7, .ref q15, .int 0])), (q7, .inl (cI, 48, .inl (fun _ => 0))), (q15, .inl (cI, 48, .inl (fun _ => 0)))] := hD
  exact t_vret hx hb hr hlk d_Va_init_20 (hP.subm (ws' := [(h, .inr (3, [.ref q7, .ref q15, .int 0])), (q7, .inl (cI, 48, .inl (fun _ => 0))), (q15, .inl (cI, 48, .inl (fun _ => 0)))]) [0, 1, 2] rfl) (hD.sub (ws' := [(h, .inr (3, [.ref q7, .ref q15, .int 0])), (q7, .inl (cI, 48, .inl (fun _ => 0))), (q15, .inl (cI, 48, .inl (fun _ => 0)))]) [0, 1, 2] rfl rfl) hS ⟨rfl, q7, q15, rfl, rfl, rfl⟩
set_option maxHeartbeats 1000000 in
set_option maxRecDepth 100000 in
theorem c_Ou_init (l : Launch) (D : va_G) (cB cI cJ : ClassId) (h : Nat) : Tr l D classes (TY cB cI cJ) gd_tbl nx_tbl y_Ou_init b_Ou_init 1 none ({ frames := 1, cells := 1, slots := 336, locals := 12 }) [.ref h] [(h, .inr (4, [.null, .int 0, .int 0, .int 0]))] (pV (fun w k n => ∃ ro : Nat, w = [(h, .inr (4, [.ref ro, .int 0, .int 0, .int 0])), (ro, .inl (cI, 336, .inl (fun _ => 0)))] ∧ k = 1 ∧ n = 336)) := by
  refine Tr.intro (by decide +kernel) nx_ok (Nat.le_of_ble_eq_true rfl) ?_
  intro p e s m args below meth c A ls hx hb hml hown hts hr hlk hnm hZ hP hD hS hl
  have hl : lv_has ls 1 [(0, .ref h)] := hl
  refine lv_aload_n hx hb d_Ou_init_0 rfl (lv_at hl 0 rfl) ?_
  refine W.objInit hx hb hown (hts _ ml_Ou_3) (hts _ im_objectInit) (hts _ co_objectInit) rfl (by rw [hml]; exact hl.1) rfl d_Ou_init_1 (Nat.le_of_ble_eq_true rfl) (Nat.le_of_ble_eq_true rfl) ?_
  refine W.eq (g2 := F0 m 4 ls []) rfl ?_
  refine lv_aload_n hx hb d_Ou_init_4 rfl (lv_at hl 0 rfl) ?_
  refine lv_sipush (v := 336) hx hb d_Ou_init_5 (by decide) ?_
  refine t_newa (atype := .int) (a0 := (336, .inl (fun _ => 0))) (N' := 336) hx hb (hts _ ar_I) rfl hZ.1 hP hD hS hZ.2.2.2 1 rfl (fun _ => rfl) (by decide) (by decide) (by decide) (Nat.le_of_ble_eq_true rfl) (Nat.le_of_ble_eq_true rfl) d_Ou_init_8 (fun q8 H hP hD hS => ?_)
  have hP : va_P D classes [(h, .inr (4, [.null, .int 0, .int 0, .int 0])), (q8, .inl (cI, 336, .inl (fun _ => 0)))] H := hP
  have hD : va_D A [(h, .inr (4, [.null, .int 0, .int 0, .int 0])), (q8, .inl (cI, 336, .inl (fun _ => 0)))] := hD
  refine va_put (D := D) (ci := 4) (v := .ref q8) (ty := .array .int) (C := R_Ou) (T := F_Ou) (N := 4) hx hb hts i_Ou t_Ou t_Ou_ok n_Ou hown hZ.1 hP hD hS 0 rfl rfl 0 (by decide) (hts _ fl_Ou_11) (fun _ h9 => h9) rfl (by decide +kernel) rfl rfl (Nat.le_of_ble_eq_true rfl) d_Ou_init_10 (fun H locs hP hD hS => ?_)
  have hP : va_P D classes [(h, .inr (4, [.ref q8, .int 0, .int 0, .int 0])), (q8, .inl (cI, 336, .inl (fun _ => 0)))] H := hP
  have hD : va_D A [(h, .inr (4, [.ref q8, .int 0, .int 0, .int 0])), (q8, .inl (cI, 336, .inl (fun _ => 0)))] := hD
  exact t_vret hx hb hr hlk d_Ou_init_13 (hP.subm (ws' := [(h, .inr (4, [.ref q8, .int 0, .int 0, .int 0])), (q8, .inl (cI, 336, .inl (fun _ => 0)))]) [0, 1] rfl) (hD.sub (ws' := [(h, .inr (4, [.ref q8, .int 0, .int 0, .int 0])), (q8, .inl (cI, 336, .inl (fun _ => 0)))]) [0, 1] rfl rfl) hS ⟨rfl, q8, rfl, rfl, rfl⟩
set_option maxHeartbeats 1000000 in
set_option maxRecDepth 100000 in
theorem c_Re_init (l : Launch) (D : va_G) (cB cI cJ : ClassId) (h : Nat) : Tr l D classes (TY cB cI cJ) gd_tbl nx_tbl y_Re_init b_Re_init 1 none ({ frames := 1, cells := 1, slots := 32, locals := 12 }) [.ref h] [(h, .inr (5, [.null]))] (pV (fun w k n => ∃ rp : Nat, w = [(h, .inr (5, [.ref rp])), (rp, .inl (cI, 32, .inl (fun _ => 0)))] ∧ k = 1 ∧ n = 32)) := by
  refine Tr.intro (by decide +kernel) nx_ok (Nat.le_of_ble_eq_true rfl) ?_
  intro p e s m args below meth c A ls hx hb hml hown hts hr hlk hnm hZ hP hD hS hl
  have hl : lv_has ls 1 [(0, .ref h)] := hl
  refine lv_aload_n hx hb d_Re_init_0 rfl (lv_at hl 0 rfl) ?_
  refine W.objInit hx hb hown (hts _ ml_Re_3) (hts _ im_objectInit) (hts _ co_objectInit) rfl (by rw [hml]; exact hl.1) rfl d_Re_init_1 (Nat.le_of_ble_eq_true rfl) (Nat.le_of_ble_eq_true rfl) ?_
  refine W.eq (g2 := F0 m 4 ls []) rfl ?_
  refine lv_aload_n hx hb d_Re_init_4 rfl (lv_at hl 0 rfl) ?_
  refine lv_bipush (v := 32) hx hb d_Re_init_5 (by decide) ?_
  refine t_newa (atype := .int) (a0 := (32, .inl (fun _ => 0))) (N' := 32) hx hb (hts _ ar_I) rfl hZ.1 hP hD hS hZ.2.2.2 1 rfl (fun _ => rfl) (by decide) (by decide) (by decide) (Nat.le_of_ble_eq_true rfl) (Nat.le_of_ble_eq_true rfl) d_Re_init_7 (fun q7 H hP hD hS => ?_)
  have hP : va_P D classes [(h, .inr (5, [.null])), (q7, .inl (cI, 32, .inl (fun _ => 0)))] H := hP
  have hD : va_D A [(h, .inr (5, [.null])), (q7, .inl (cI, 32, .inl (fun _ => 0)))] := hD
  refine va_putF (D := D) (ci := 5) (v := .ref q7) (ty := .array .int) (C := R_Re) (T := F_Re) (N := 1) hx hb hts i_Re t_Re t_Re_ok n_Re hown hZ.1 hP hD hS 0 rfl rfl 0 (by decide) (hts _ fl_Re_9) (fun _ h9 => h9) rfl hnm rfl (by decide +kernel) rfl rfl (Nat.le_of_ble_eq_true rfl) d_Re_init_9 (fun H locs hP hD hS => ?_)
  have hP : va_P D classes [(h, .inr (5, [.ref q7])), (q7, .inl (cI, 32, .inl (fun _ => 0)))] H := hP
  have hD : va_D A [(h, .inr (5, [.ref q7])), (q7, .inl (cI, 32, .inl (fun _ => 0)))] := hD
  exact t_vret hx hb hr hlk d_Re_init_12 (hP.subm (ws' := [(h, .inr (5, [.ref q7])), (q7, .inl (cI, 32, .inl (fun _ => 0)))]) [0, 1] rfl) (hD.sub (ws' := [(h, .inr (5, [.ref q7])), (q7, .inl (cI, 32, .inl (fun _ => 0)))]) [0, 1] rfl rfl) hS ⟨rfl, q7, rfl, rfl, rfl⟩
set_option maxHeartbeats 1000000 in
set_option maxRecDepth 100000 in
theorem c_Ma_init (l : Launch) (D : va_G) (cB cI cJ : ClassId) (h : Nat) : Tr l D classes (TY cB cI cJ) gd_tbl nx_tbl y_Ma_init b_Ma_init 1 none ({ frames := 4, cells := 20, slots := 714, locals := 72 }) [.ref h] [(h, .inr (6, [.null, .null, .null, .null, .int 0, .int 0, .int 0, .int 0, .int 0, .int 0, .int 0]))] (pV (fun w k n => ∃ ms p pb pa g gb ga q qb qa ki pl en mv va vb mr rp mo ro : Nat, w = [(h, .inr (6, [.ref ms, .ref mv, .ref mr, .ref mo, .int 0, .int 0, .int 0, .int 0, .int 0, .int 0, .int 0])), (ms, .inr (2, [.ref p, .ref g, .ref q, .ref ki, .ref pl, .ref en, .int 0, .int 0])), (p, .inr (1, [.ref pb, .int 0])), (pb, .inr (0, [.ref pa, .int 0])), (pa, .inl (cB, 64, .inl (fun _ => 0))), (g, .inr (1, [.ref gb, .int 0])), (gb, .inr (0, [.ref ga, .int 0])), (ga, .inl (cB, 64, .inl (fun _ => 0))), (q, .inr (1, [.ref qb, .int 0])), (qb, .inr (0, [.ref qa, .int 0])), (qa, .inl (cB, 64, .inl (fun _ => 0))), (ki, .inl (cI, 10, .inl (fun _ => 0))), (pl, .inl (cI, 10, .inl (fun _ => 0))), (en, .inl (cI, 10, .inl (fun _ => 0))), (mv, .inr (3, [.ref va, .ref vb, .int 0])), (va, .inl (cI, 48, .inl (fun _ => 0))), (vb, .inl (cI, 48, .inl (fun _ => 0))), (mr, .inr (5, [.ref rp])), (rp, .inl (cI, 32, .inl (fun _ => 0))), (mo, .inr (4, [.ref ro, .int 0, .int 0, .int 0])), (ro, .inl (cI, 336, .inl (fun _ => 0)))] ∧ k = 20 ∧ n = 714)) := by
  refine Tr.intro (by decide +kernel) nx_ok (Nat.le_of_ble_eq_true rfl) ?_
  intro p e s m args below meth c A ls hx hb hml hown hts hr hlk hnm hZ hP hD hS hl
  have hl : lv_has ls 1 [(0, .ref h)] := hl
  refine lv_aload_n hx hb d_Ma_init_0 rfl (lv_at hl 0 rfl) ?_
  refine W.objInit hx hb hown (hts _ ml_Ma_3) (hts _ im_objectInit) (hts _ co_objectInit) rfl (by rw [hml]; exact hl.1) rfl d_Ma_init_1 (Nat.le_of_ble_eq_true rfl) (Nat.le_of_ble_eq_true rfl) ?_
  refine W.eq (g2 := F0 m 4 ls []) rfl ?_
  refine lv_aload_n hx hb d_Ma_init_4 rfl (lv_at hl 0 rfl) ?_
  refine va_new (ci := 2) (fs := [.null, .null, .null, .null, .null, .null, .int 0, .int 0]) (C := R_St) (T := F_St) (N := 8) hx hb hts i_St t_St t_St_ok hown (hts _ cl_Ma_9) (hts _ in_St) (hts _ ini_St) hZ.1 hP hD hS hZ.2.2.2 rfl (fun j hj => by rcases (show j = 0 ∨ j = 1 ∨ j = 2 ∨ j = 3 ∨ j = 4 ∨ j = 5 ∨ j = 6 ∨ j = 7 by omega) with rfl | rfl | rfl | rfl | rfl | rfl | rfl | rfl <;> rfl) (Nat.le_of_ble_eq_true rfl) (Nat.le_of_ble_eq_true rfl) d_Ma_init_5 (fun q5 H hP hD hS => ?_)
  have hP : va_P D classes [(h, .inr (6, [.null, .null, .null, .null, .int 0, .int 0, .int 0, .int 0, .int 0, .int 0, .int 0])), (q5, .inr (2, [.null, .null, .null, .null, .null, .null, .int 0, .int 0]))] H := hP
  have hD : va_D A [(h, .inr (6, [.null, .null, .null, .null, .int 0, .int 0, .int 0, .int 0, .int 0, .int 0, .int 0])), (q5, .inr (2, [.null, .null, .null, .null, .null, .null, .int 0, .int 0]))] := hD
  refine W.widen (k := 1) (n := 8) (by omega) (by omega) ?_
  refine lv_dup hx hb d_Ma_init_8 rfl ?_
  have hC : Cut [(h, .inr (6, [.null, .null, .null, .null, .int 0, .int 0, .int 0, .int 0, .int 0, .int 0, .int 0])), (q5, .inr (2, [.null, .null, .null, .null, .null, .null, .int 0, .int 0]))] [(q5, .inr (2, [.null, .null, .null, .null, .null, .null, .int 0, .int 0]))] [(h, .inr (6, [.null, .null, .null, .null, .int 0, .int 0, .int 0, .int 0, .int 0, .int 0, .int 0]))] [1] [0] := ⟨rfl, rfl, rfl, rfl, by decide⟩
  refine goV (trIN (As := []) (rest := [.ref q5, .ref h]) ⟨hx, hb, hml, hown, hts⟩ gd_good (c_St_init l D cB cI cJ q5) cal_St_init mn_Ma_11 ⟨Nat.le_of_ble_eq_true rfl, Nat.le_of_ble_eq_true rfl⟩ hZ hP hD hC rfl hl.1 rfl (Nat.le_of_ble_eq_true rfl) d_Ma_init_9 ⟨Nat.le_of_ble_eq_true rfl, Nat.le_of_ble_eq_true rfl⟩) hZ hP hD hS hC (fun w1 k_9 n_9 H locs hq hP hD hS => ?_)
  obtain ⟨p_9, pb_9, pa_9, g_9, gb_9, ga_9, q_9, qb_9, qa_9, ki_9, pl_9, en_9, rfl, rfl, rfl⟩ := hq
  have hP : va_P D classes [(h, .inr (6, [.null, .null, .null, .null, .int 0, .int 0, .int 0, .int 0, .int 0, .int 0, .int 0])), (q5, .inr (2, [.ref p_9, .ref g_9, .ref q_9, .ref ki_9, .ref pl_9, .ref en_9, .int 0, .int 0])), (p_9, .inr (1, [.ref pb_9, .int 0])), (pb_9, .inr (0, [.ref pa_9, .int 0])), (pa_9, .inl (cB, 64, .inl (fun _ => 0))), (g_9, .inr (1, [.ref gb_9, .int 0])), (gb_9, .inr (0, [.ref ga_9, .int 0])), (ga_9, .inl (cB, 64, .inl (fun _ => 0))), (q_9, .inr (1, [.ref qb_9, .int 0])), (qb_9, .inr (0, [.ref qa_9, .int 0])), (qa_9, .inl (cB, 64, .inl (fun _ => 0))), (ki_9, .inl (cI, 10, .inl (fun _ => 0))), (pl_9, .inl (cI, 10, .inl (fun _ => 0))), (en_9, .inl (cI, 10, .inl (fun _ => 0)))] H := hP
  have hD : va_D A [(h, .inr (6, [.null, .null, .null, .null, .int 0, .int 0, .int 0, .int 0, .int 0, .int 0, .int 0])), (q5, .inr (2, [.ref p_9, .ref g_9, .ref q_9, .ref ki_9, .ref pl_9, .ref en_9, .int 0, .int 0])), (p_9, .inr (1, [.ref pb_9, .int 0])), (pb_9, .inr (0, [.ref pa_9, .int 0])), (pa_9, .inl (cB, 64, .inl (fun _ => 0))), (g_9, .inr (1, [.ref gb_9, .int 0])), (gb_9, .inr (0, [.ref ga_9, .int 0])), (ga_9, .inl (cB, 64, .inl (fun _ => 0))), (q_9, .inr (1, [.ref qb_9, .int 0])), (qb_9, .inr (0, [.ref qa_9, .int 0])), (qa_9, .inl (cB, 64, .inl (fun _ => 0))), (ki_9, .inl (cI, 10, .inl (fun _ => 0))), (pl_9, .inl (cI, 10, .inl (fun _ => 0))), (en_9, .inl (cI, 10, .inl (fun _ => 0)))] := hD
  refine va_putF (D := D) (ci := 6) (v := .ref q5) (ty := .object "CharOutlines$Strings") (C := R_Ma) (T := F_Ma) (N := 11) hx hb hts i_Ma t_Ma t_Ma_ok n_Ma hown hZ.1 hP hD hS 0 rfl rfl 0 (by decide) (hts _ fl_Ma_12) (fun _ h9 => h9) rfl hnm rfl (by decide +kernel) rfl rfl (Nat.le_of_ble_eq_true rfl) d_Ma_init_12 (fun H locs hP hD hS => ?_)
  have hP : va_P D classes [(h, .inr (6, [.ref q5, .null, .null, .null, .int 0, .int 0, .int 0, .int 0, .int 0, .int 0, .int 0])), (q5, .inr (2, [.ref p_9, .ref g_9, .ref q_9, .ref ki_9, .ref pl_9, .ref en_9, .int 0, .int 0])), (p_9, .inr (1, [.ref pb_9, .int 0])), (pb_9, .inr (0, [.ref pa_9, .int 0])), (pa_9, .inl (cB, 64, .inl (fun _ => 0))), (g_9, .inr (1, [.ref gb_9, .int 0])), (gb_9, .inr (0, [.ref ga_9, .int 0])), (ga_9, .inl (cB, 64, .inl (fun _ => 0))), (q_9, .inr (1, [.ref qb_9, .int 0])), (qb_9, .inr (0, [.ref qa_9, .int 0])), (qa_9, .inl (cB, 64, .inl (fun _ => 0))), (ki_9, .inl (cI, 10, .inl (fun _ => 0))), (pl_9, .inl (cI, 10, .inl (fun _ => 0))), (en_9, .inl (cI, 10, .inl (fun _ => 0)))] H := hP
  have hD : va_D A [(h, .inr (6, [.ref q5, .null, .null, .null, .int 0, .int 0, .int 0, .int 0, .int 0, .int 0, .int 0])), (q5, .inr (2, [.ref p_9, .ref g_9, .ref q_9, .ref ki_9, .ref pl_9, .ref en_9, .int 0, .int 0])), (p_9, .inr (1, [.ref pb_9, .int 0])), (pb_9, .inr (0, [.ref pa_9, .int 0])), (pa_9, .inl (cB, 64, .inl (fun _ => 0))), (g_9, .inr (1, [.ref gb_9, .int 0])), (gb_9, .inr (0, [.ref ga_9, .int 0])), (ga_9, .inl (cB, 64, .inl (fun _ => 0))), (q_9, .inr (1, [.ref qb_9, .int 0])), (qb_9, .inr (0, [.ref qa_9, .int 0])), (qa_9, .inl (cB, 64, .inl (fun _ => 0))), (ki_9, .inl (cI, 10, .inl (fun _ => 0))), (pl_9, .inl (cI, 10, .inl (fun _ => 0))), (en_9, .inl (cI, 10, .inl (fun _ => 0)))] := hD
  refine lv_aload_n hx hb d_Ma_init_15 rfl (lv_at hl 0 rfl) ?_
  refine va_new (ci := 3) (fs := [.null, .null, .int 0]) (C := R_Va) (T := F_Va) (N := 3) hx hb hts i_Va t_Va t_Va_ok hown (hts _ cl_Ma_18) (hts _ in_Va) (hts _ ini_Va) hZ.1 hP hD hS hZ.2.2.2 rfl (fun j hj => by rcases (show j = 0 ∨ j = 1 ∨ j = 2 by omega) with rfl | rfl | rfl <;> rfl) (Nat.le_of_ble_eq_true rfl) (Nat.le_of_ble_eq_true rfl) d_Ma_init_16 (fun q16 H hP hD hS => ?_)
  have hP : va_P D classes [(h, .inr (6, [.ref q5, .null, .null, .null, .int 0, .int 0, .int 0, .int 0, .int 0, .int 0, .int 0])), (q5, .inr (2, [.ref p_9, .ref g_9, .ref q_9, .ref ki_9, .ref pl_9, .ref en_9, .int 0, .int 0])), (p_9, .inr (1, [.ref pb_9, .int 0])), (pb_9, .inr (0, [.ref pa_9, .int 0])), (pa_9, .inl (cB, 64, .inl (fun _ => 0))), (g_9, .inr (1, [.ref gb_9, .int 0])), (gb_9, .inr (0, [.ref ga_9, .int 0])), (ga_9, .inl (cB, 64, .inl (fun _ => 0))), (q_9, .inr (1, [.ref qb_9, .int 0])), (qb_9, .inr (0, [.ref qa_9, .int 0])), (qa_9, .inl (cB, 64, .inl (fun _ => 0))), (ki_9, .inl (cI, 10, .inl (fun _ => 0))), (pl_9, .inl (cI, 10, .inl (fun _ => 0))), (en_9, .inl (cI, 10, .inl (fun _ => 0))), (q16, .inr (3, [.null, .null, .int 0]))] H := hP
  have hD : va_D A [(h, .inr (6, [.ref q5, .null, .null, .null, .int 0, .int 0, .int 0, .int 0, .int 0, .int 0, .int 0])), (q5, .inr (2, [.ref p_9, .ref g_9, .ref q_9, .ref ki_9, .ref pl_9, .ref en_9, .int 0, .int 0])), (p_9, .inr (1, [.ref pb_9, .int 0])), (pb_9, .inr (0, [.ref pa_9, .int 0])), (pa_9, .inl (cB, 64, .inl (fun _ => 0))), (g_9, .inr (1, [.ref gb_9, .int 0])), (gb_9, .inr (0, [.ref ga_9, .int 0])), (ga_9, .inl (cB, 64, .inl (fun _ => 0))), (q_9, .inr (1, [.ref qb_9, .int 0])), (qb_9, .inr (0, [.ref qa_9, .int 0])), (qa_9, .inl (cB, 64, .inl (fun _ => 0))), (ki_9, .inl (cI, 10, .inl (fun _ => 0))), (pl_9, .inl (cI, 10, .inl (fun _ => 0))), (en_9, .inl (cI, 10, .inl (fun _ => 0))), (q16, .inr (3, [.null, .null, .int 0]))] := hD
  refine W.widen (k := 14) (n := 245) (by omega) (by omega) ?_
  refine lv_dup hx hb d_Ma_init_19 rfl ?_
  have hC : Cut [(h, .inr (6, [.ref q5, .null, .null, .null, .int 0, .int 0, .int 0, .int 0, .int 0, .int 0, .int 0])), (q5, .inr (2, [.ref p_9, .ref g_9, .ref q_9, .ref ki_9, .ref pl_9, .ref en_9, .int 0, .int 0])), (p_9, .inr (1, [.ref pb_9, .int 0])), (pb_9, .inr (0, [.ref pa_9, .int 0])), (pa_9, .inl (cB, 64, .inl (fun _ => 0))), (g_9, .inr (1, [.ref gb_9, .int 0])), (gb_9, .inr (0, [.ref ga_9, .int 0])), (ga_9, .inl (cB, 64, .inl (fun _ => 0))), (q_9, .inr (1, [.ref qb_9, .int 0])), (qb_9, .inr (0, [.ref qa_9, .int 0])), (qa_9, .inl (cB, 64, .inl (fun _ => 0))), (ki_9, .inl (cI, 10, .inl (fun _ => 0))), (pl_9, .inl (cI, 10, .inl (fun _ => 0))), (en_9, .inl (cI, 10, .inl (fun _ => 0))), (q16, .inr (3, [.null, .null, .int 0]))] [(q16, .inr (3, [.null, .null, .int 0]))] [(h, .inr (6, [.ref q5, .null, .null, .null, .int 0, .int 0, .int 0, .int 0, .int 0, .int 0, .int 0])), (q5, .inr (2, [.ref p_9, .ref g_9, .ref q_9, .ref ki_9, .ref pl_9, .ref en_9, .int 0, .int 0])), (p_9, .inr (1, [.ref pb_9, .int 0])), (pb_9, .inr (0, [.ref pa_9, .int 0])), (pa_9, .inl (cB, 64, .inl (fun _ => 0))), (g_9, .inr (1, [.ref gb_9, .int 0])), (gb_9, .inr (0, [.ref ga_9, .int 0])), (ga_9, .inl (cB, 64, .inl (fun _ => 0))), (q_9, .inr (1, [.ref qb_9, .int 0])), (qb_9, .inr (0, [.ref qa_9, .int 0])), (qa_9, .inl (cB, 64, .inl (fun _ => 0))), (ki_9, .inl (cI, 10, .inl (fun _ => 0))), (pl_9, .inl (cI, 10, .inl (fun _ => 0))), (en_9, .inl (cI, 10, .inl (fun _ => 0)))] [14] [0, 1, 2, 3, 4, 5, 6, 7, 8, 9, 10, 11, 12, 13] := ⟨rfl, rfl, rfl, rfl, by decide⟩
  refine goV (trIN (As := []) (rest := [.ref q16, .ref h]) ⟨hx, hb, hml, hown, hts⟩ gd_good (c_Va_init l D cB cI cJ q16) cal_Va_init mn_Ma_20 ⟨Nat.le_of_ble_eq_true rfl, Nat.le_of_ble_eq_true rfl⟩ hZ hP hD hC rfl hl.1 rfl (Nat.le_of_ble_eq_true rfl) d_Ma_init_20 ⟨Nat.le_of_ble_eq_true rfl, Nat.le_of_ble_eq_true rfl⟩) hZ hP hD hS hC (fun w1 k_20 n_20 H locs hq hP hD hS => ?_)
  obtain ⟨va_20, vb_20, rfl, rfl, rfl⟩ := hq
  have hP : va_P D classes [(h, .inr (6, [.ref q5, .null, .null, .null, .int 0, .int 0, .int 0, .int 0, .int 0, .int 0, .int 0])), (q5, .inr (2, [.ref p_9, .ref g_9, .ref q_9, .ref ki_9, .ref pl_9, .ref en_9, .int 0, .int 0])), (p_9, .inr (1, [.ref pb_9, .int 0])), (pb_9, .inr (0, [.ref pa_9, .int 0])), (pa_9, .inl (cB, 64, .inl (fun _ => 0))), (g_9, .inr (1, [.ref gb_9, .int 0])), (gb_9, .inr (0, [.ref ga_9, .int 0])), (ga_9, .inl (cB, 64, .inl (fun _ => 0))), (q_9, .inr (1, [.ref qb_9, .int 0])), (qb_9, .inr (0, [.ref qa_9, .int 0])), (qa_9, .inl (cB, 64, .inl (fun _ => 0))), (ki_9, .inl (cI, 10, .inl (fun _ => 0))), (pl_9, .inl (cI, 10, .inl (fun _ => 0))), (en_9, .inl (cI, 10, .inl (fun _ => 0))), (q16, .inr (3, [.ref va_20, .ref vb_20, .int 0])), (va_20, .inl (cI, 48, .inl (fun _ => 0))), (vb_20, .inl (cI, 48, .inl (fun _ => 0)))] H := hP
  have hD : va_D A [(h, .inr (6, [.ref q5, .null, .null, .null, .int 0, .int 0, .int 0, .int 0, .int 0, .int 0, .int 0])), (q5, .inr (2, [.ref p_9, .ref g_9, .ref q_9, .ref ki_9, .ref pl_9, .ref en_9, .int 0, .int 0])), (p_9, .inr (1, [.ref pb_9, .int 0])), (pb_9, .inr (0, [.ref pa_9, .int 0])), (pa_9, .inl (cB, 64, .inl (fun _ => 0))), (g_9, .inr (1, [.ref gb_9, .int 0])), (gb_9, .inr (0, [.ref ga_9, .int 0])), (ga_9, .inl (cB, 64, .inl (fun _ => 0))), (q_9, .inr (1, [.ref qb_9, .int 0])), (qb_9, .inr (0, [.ref qa_9, .int 0])), (qa_9, .inl (cB, 64, .inl (fun _ => 0))), (ki_9, .inl (cI, 10, .inl (fun _ => 0))), (pl_9, .inl (cI, 10, .inl (fun _ => 0))), (en_9, .inl (cI, 10, .inl (fun _ => 0))), (q16, .inr (3, [.ref va_20, .ref vb_20, .int 0])), (va_20, .inl (cI, 48, .inl (fun _ => 0))), (vb_20, .inl (cI, 48, .inl (fun _ => 0)))] := hD
  refine va_putF (D := D) (ci := 6) (v := .ref q16) (ty := .object "CharOutlines$Values") (C := R_Ma) (T := F_Ma) (N := 11) hx hb hts i_Ma t_Ma t_Ma_ok n_Ma hown hZ.1 hP hD hS 0 rfl rfl 1 (by decide) (hts _ fl_Ma_21) (fun _ h9 => h9) rfl hnm rfl (by decide +kernel) rfl rfl (Nat.le_of_ble_eq_true rfl) d_Ma_init_23 (fun H locs hP hD hS => ?_)
  have hP : va_P D classes [(h, .inr (6, [.ref q5, .ref q16, .null, .null, .int 0, .int 0, .int 0, .int 0, .int 0, .int 0, .int 0])), (q5, .inr (2, [.ref p_9, .ref g_9, .ref q_9, .ref ki_9, .ref pl_9, .ref en_9, .int 0, .int 0])), (p_9, .inr (1, [.ref pb_9, .int 0])), (pb_9, .inr (0, [.ref pa_9, .int 0])), (pa_9, .inl (cB, 64, .inl (fun _ => 0))), (g_9, .inr (1, [.ref gb_9, .int 0])), (gb_9, .inr (0, [.ref ga_9, .int 0])), (ga_9, .inl (cB, 64, .inl (fun _ => 0))), (q_9, .inr (1, [.ref qb_9, .int 0])), (qb_9, .inr (0, [.ref qa_9, .int 0])), (qa_9, .inl (cB, 64, .inl (fun _ => 0))), (ki_9, .inl (cI, 10, .inl (fun _ => 0))), (pl_9, .inl (cI, 10, .inl (fun _ => 0))), (en_9, .inl (cI, 10, .inl (fun _ => 0))), (q16, .inr (3, [.ref va_20, .ref vb_20, .int 0])), (va_20, .inl (cI, 48, .inl (fun _ => 0))), (vb_20, .inl (cI, 48, .inl (fun _ => 0)))] H := hP
  have hD : va_D A [(h, .inr (6, [.ref q5, .ref q16, .null, .null, .int 0, .int 0, .int 0, .int 0, .int 0, .int 0, .int 0])), (q5, .inr (2, [.ref p_9, .ref g_9, .ref q_9, .ref ki_9, .ref pl_9, .ref en_9, .int 0, .int 0])), (p_9, .inr (1, [.ref pb_9, .int 0])), (pb_9, .inr (0, [.ref pa_9, .int 0])), (pa_9, .inl (cB, 64, .inl (fun _ => 0))), (g_9, .inr (1, [.ref gb_9, .int 0])), (gb_9, .inr (0, [.ref ga_9, .int 0])), (ga_9, .inl (cB, 64, .inl (fun _ => 0))), (q_9, .inr (1, [.ref qb_9, .int 0])), (qb_9, .inr (0, [.ref qa_9, .int 0])), (qa_9, .inl (cB, 64, .inl (fun _ => 0))), (ki_9, .inl (cI, 10, .inl (fun _ => 0))), (pl_9, .inl (cI, 10, .inl (fun _ => 0))), (en_9, .inl (cI, 10, .inl (fun _ => 0))), (q16, .inr (3, [.ref va_20, .ref vb_20, .int 0])), (va_20, .inl (cI, 48, .inl (fun _ => 0))), (vb_20, .inl (cI, 48, .inl (fun _ => 0)))] := hD
  refine lv_aload_n hx hb d_Ma_init_26 rfl (lv_at hl 0 rfl) ?_
  refine va_new (ci := 5) (fs := [.null]) (C := R_Re) (T := F_Re) (N := 1) hx hb hts i_Re t_Re t_Re_ok hown (hts _ cl_Ma_25) (hts _ in_Re) (hts _ ini_Re) hZ.1 hP hD hS hZ.2.2.2 rfl (fun j hj => by rcases (show j = 0 by omega) with rfl <;> rfl) (Nat.le_of_ble_eq_true rfl) (Nat.le_of_ble_eq_true rfl) d_Ma_init_27 (fun q27 H hP hD hS => ?_)
  have hP : va_P D classes [(h, .inr (6, [.ref q5, .ref q16, .null, .null, .int 0, .int 0, .int 0, .int 0, .int 0, .int 0, .int 0])), (q5, .inr (2, [.ref p_9, .ref g_9, .ref q_9, .ref ki_9, .ref pl_9, .ref en_9, .int 0, .int 0])), (p_9, .inr (1, [.ref pb_9, .int 0])), (pb_9, .inr (0, [.ref pa_9, .int 0])), (pa_9, .inl (cB, 64, .inl (fun _ => 0))), (g_9, .inr (1, [.ref gb_9, .int 0])), (gb_9, .inr (0, [.ref ga_9, .int 0])), (ga_9, .inl (cB, 64, .inl (fun _ => 0))), (q_9, .inr (1, [.ref qb_9, .int 0])), (qb_9, .inr (0, [.ref qa_9, .int 0])), (qa_9, .inl (cB, 64, .inl (fun _ => 0))), (ki_9, .inl (cI, 10, .inl (fun _ => 0))), (pl_9, .inl (cI, 10, .inl (fun _ => 0))), (en_9, .inl (cI, 10, .inl (fun _ => 0))), (q16, .inr (3, [.ref va_20, .ref vb_20, .int 0])), (va_20, .inl (cI, 48, .inl (fun _ => 0))), (vb_20, .inl (cI, 48, .inl (fun _ => 0))), (q27, .inr (5, [.null]))] H := hP
  have hD : va_D A [(h, .inr (6, [.ref q5, .ref q16, .null, .null, .int 0, .int 0, .int 0, .int 0, .int 0, .int 0, .int 0])), (q5, .inr (2, [.ref p_9, .ref g_9, .ref q_9, .ref ki_9, .ref pl_9, .ref en_9, .int 0, .int 0])), (p_9, .inr (1, [.ref pb_9, .int 0])), (pb_9, .inr (0, [.ref pa_9, .int 0])), (pa_9, .inl (cB, 64, .inl (fun _ => 0))), (g_9, .inr (1, [.ref gb_9, .int 0])), (gb_9, .inr (0, [.ref ga_9, .int 0])), (ga_9, .inl (cB, 64, .inl (fun _ => 0))), (q_9, .inr (1, [.ref qb_9, .int 0])), (qb_9, .inr (0, [.ref qa_9, .int 0])), (qa_9, .inl (cB, 64, .inl (fun _ => 0))), (ki_9, .inl (cI, 10, .inl (fun _ => 0))), (pl_9, .inl (cI, 10, .inl (fun _ => 0))), (en_9, .inl (cI, 10, .inl (fun _ => 0))), (q16, .inr (3, [.ref va_20, .ref vb_20, .int 0])), (va_20, .inl (cI, 48, .inl (fun _ => 0))), (vb_20, .inl (cI, 48, .inl (fun _ => 0))), (q27, .inr (5, [.null]))] := hD
  refine W.widen (k := 17) (n := 342) (by omega) (by omega) ?_
  refine lv_dup hx hb d_Ma_init_30 rfl ?_
  have hC : Cut [(h, .inr (6, [.ref q5, .ref q16, .null, .null, .int 0, .int 0, .int 0, .int 0, .int 0, .int 0, .int 0])), (q5, .inr (2, [.ref p_9, .ref g_9, .ref q_9, .ref ki_9, .ref pl_9, .ref en_9, .int 0, .int 0])), (p_9, .inr (1, [.ref pb_9, .int 0])), (pb_9, .inr (0, [.ref pa_9, .int 0])), (pa_9, .inl (cB, 64, .inl (fun _ => 0))), (g_9, .inr (1, [.ref gb_9, .int 0])), (gb_9, .inr (0, [.ref ga_9, .int 0])), (ga_9, .inl (cB, 64, .inl (fun _ => 0))), (q_9, .inr (1, [.ref qb_9, .int 0])), (qb_9, .inr (0, [.ref qa_9, .int 0])), (qa_9, .inl (cB, 64, .inl (fun _ => 0))), (ki_9, .inl (cI, 10, .inl (fun _ => 0))), (pl_9, .inl (cI, 10, .inl (fun _ => 0))), (en_9, .inl (cI, 10, .inl (fun _ => 0))), (q16, .inr (3, [.ref va_20, .ref vb_20, .int 0])), (va_20, .inl (cI, 48, .inl (fun _ => 0))), (vb_20, .inl (cI, 48, .inl (fun _ => 0))), (q27, .inr (5, [.null]))] [(q27, .inr (5, [.null]))] [(h, .inr (6, [.ref q5, .ref q16, .null, .null, .int 0, .int 0, .int 0, .int 0, .int 0, .int 0, .int 0])), (q5, .inr (2, [.ref p_9, .ref g_9, .ref q_9, .ref ki_9, .ref pl_9, .ref en_9, .int 0, .int 0])), (p_9, .inr (1, [.ref pb_9, .int 0])), (pb_9, .inr (0, [.ref pa_9, .int 0])), (pa_9, .inl (cB, 64, .inl (fun _ => 0))), (g_9, .inr (1, [.ref gb_9, .int 0])), (gb_9, .inr (0, [.ref ga_9, .int 0])), (ga_9, .inl (cB, 64, .inl (fun _ => 0))), (q_9, .inr (1, [.ref qb_9, .int 0])), (qb_9, .inr (0, [.ref qa_9, .int 0])), (qa_9, .inl (cB, 64, .inl (fun _ => 0))), (ki_9, .inl (cI, 10, .inl (fun _ => 0))), (pl_9, .inl (cI, 10, .inl (fun _ => 0))), (en_9, .inl (cI, 10, .inl (fun _ => 0))), (q16, .inr (3, [.ref va_20, .ref vb_20, .int 0])), (va_20, .inl (cI, 48, .inl (fun _ => 0))), (vb_20, .inl (cI, 48, .inl (fun _ => 0)))] [17] [0, 1, 2, 3, 4, 5, 6, 7, 8, 9, 10, 11, 12, 13, 14, 15, 16] := ⟨rfl, rfl, rfl, rfl, by decide⟩
  refine goV (trIN (As := []) (rest := [.ref q27, .ref h]) ⟨hx, hb, hml, hown, hts⟩ gd_good (c_Re_init l D cB cI cJ q27) cal_Re_init mn_Ma_27 ⟨Nat.le_of_ble_eq_true rfl, Nat.le_of_ble_eq_true rfl⟩ hZ hP hD hC rfl hl.1 rfl (Nat.le_of_ble_eq_true rfl) d_Ma_init_31 ⟨Nat.le_of_ble_eq_true rfl, Nat.le_of_ble_eq_true rfl⟩) hZ hP hD hS hC (fun w1 k_31 n_31 H locs hq hP hD hS => ?_)
  obtain ⟨rp_31, rfl, rfl, rfl⟩ := hq
  have hP : va_P D classes [(h, .inr (6, [.ref q5, .ref q16, .null, .null, .int 0, .int 0, .int 0, .int 0, .int 0, .int 0, .int 0])), (q5, .inr (2, [.ref p_9, .ref g_9, .ref q_9, .ref ki_9, .ref pl_9, .ref en_9, .int 0, .int 0])), (p_9, .inr (1, [.ref pb_9, .int 0])), (pb_9, .inr (0, [.ref pa_9, .int 0])), (pa_9, .inl (cB, 64, .inl (fun _ => 0))), (g_9, .inr (1, [.ref gb_9, .int 0])), (gb_9, .inr (0, [.ref ga_9, .int 0])), (ga_9, .inl (cB, 64, .inl (fun _ => 0))), (q_9, .inr (1, [.ref qb_9, .int 0])), (qb_9, .inr (0, [.ref qa_9, .int 0])), (qa_9, .inl (cB, 64, .inl (fun _ => 0))), (ki_9, .inl (cI, 10, .inl (fun _ => 0))), (pl_9, .inl (cI, 10, .inl (fun _ => 0))), (en_9, .inl (cI, 10, .inl (fun _ => 0))), (q16, .inr (3, [.ref va_20, .ref vb_20, .int 0])), (va_20, .inl (cI, 48, .inl (fun _ => 0))), (vb_20, .inl (cI, 48, .inl (fun _ => 0))), (q27, .inr (5, [.ref rp_31])), (rp_31, .inl (cI, 32, .inl (fun _ => 0)))] H := hP
  have hD : va_D A [(h, .inr (6, [.ref q5, .ref q16, .null, .null, .int 0, .int 0, .int 0, .int 0, .int 0, .int 0, .int 0])), (q5, .inr (2, [.ref p_9, .ref g_9, .ref q_9, .ref ki_9, .ref pl_9, .ref en_9, .int 0, .int 0])), (p_9, .inr (1, [.ref pb_9, .int 0])), (pb_9, .inr (0, [.ref pa_9, .int 0])), (pa_9, .inl (cB, 64, .inl (fun _ => 0))), (g_9, .inr (1, [.ref gb_9, .int 0])), (gb_9, .inr (0, [.ref ga_9, .int 0])), (ga_9, .inl (cB, 64, .inl (fun _ => 0))), (q_9, .inr (1, [.ref qb_9, .int 0])), (qb_9, .inr (0, [.ref qa_9, .int 0])), (qa_9, .inl (cB, 64, .inl (fun _ => 0))), (ki_9, .inl (cI, 10, .inl (fun _ => 0))), (pl_9, .inl (cI, 10, .inl (fun _ => 0))), (en_9, .inl (cI, 10, .inl (fun _ => 0))), (q16, .inr (3, [.ref va_20, .ref vb_20, .int 0])), (va_20, .inl (cI, 48, .inl (fun _ => 0))), (vb_20, .inl (cI, 48, .inl (fun _ => 0))), (q27, .inr (5, [.ref rp_31])), (rp_31, .inl (cI, 32, .inl (fun _ => 0)))] := hD
  refine va_putF (D := D) (ci := 6) (v := .ref q27) (ty := .object "CharOutlines$Reckoning") (C := R_Ma) (T := F_Ma) (N := 11) hx hb hts i_Ma t_Ma t_Ma_ok n_Ma hown hZ.1 hP hD hS 0 rfl rfl 2 (by decide) (hts _ fl_Ma_28) (fun _ h9 => h9) rfl hnm rfl (by decide +kernel) rfl rfl (Nat.le_of_ble_eq_true rfl) d_Ma_init_34 (fun H locs hP hD hS => ?_)
  have hP : va_P D classes [(h, .inr (6, [.ref q5, .ref q16, .ref q27, .null, .int 0, .int 0, .int 0, .int 0, .int 0, .int 0, .int 0])), (q5, .inr (2, [.ref p_9, .ref g_9, .ref q_9, .ref ki_9, .ref pl_9, .ref en_9, .int 0, .int 0])), (p_9, .inr (1, [.ref pb_9, .int 0])), (pb_9, .inr (0, [.ref pa_9, .int 0])), (pa_9, .inl (cB, 64, .inl (fun _ => 0))), (g_9, .inr (1, [.ref gb_9, .int 0])), (gb_9, .inr (0, [.ref ga_9, .int 0])), (ga_9, .inl (cB, 64, .inl (fun _ => 0))), (q_9, .inr (1, [.ref qb_9, .int 0])), (qb_9, .inr (0, [.ref qa_9, .int 0])), (qa_9, .inl (cB, 64, .inl (fun _ => 0))), (ki_9, .inl (cI, 10, .inl (fun _ => 0))), (pl_9, .inl (cI, 10, .inl (fun _ => 0))), (en_9, .inl (cI, 10, .inl (fun _ => 0))), (q16, .inr (3, [.ref va_20, .ref vb_20, .int 0])), (va_20, .inl (cI, 48, .inl (fun _ => 0))), (vb_20, .inl (cI, 48, .inl (fun _ => 0))), (q27, .inr (5, [.ref rp_31])), (rp_31, .inl (cI, 32, .inl (fun _ => 0)))] H := hP
  have hD : va_D A [(h, .inr (6, [.ref q5, .ref q16, .ref q27, .null, .int 0, .int 0, .int 0, .int 0, .int 0, .int 0, .int 0])), (q5, .inr (2, [.ref p_9, .ref g_9, .ref q_9, .ref ki_9, .ref pl_9, .ref en_9, .int 0, .int 0])), (p_9, .inr (1, [.ref pb_9, .int 0])), (pb_9, .inr (0, [.ref pa_9, .int 0])), (pa_9, .inl (cB, 64, .inl (fun _ => 0))), (g_9, .inr (1, [.ref gb_9, .int 0])), (gb_9, .inr (0, [.ref ga_9, .int 0])), (ga_9, .inl (cB, 64, .inl (fun _ => 0))), (q_9, .inr (1, [.ref qb_9, .int 0])), (qb_9, .inr (0, [.ref qa_9, .int 0])), (qa_9, .inl (cB, 64, .inl (fun _ => 0))), (ki_9, .inl (cI, 10, .inl (fun _ => 0))), (pl_9, .inl (cI, 10, .inl (fun _ => 0))), (en_9, .inl (cI, 10, .inl (fun _ => 0))), (q16, .inr (3, [.ref va_20, .ref vb_20, .int 0])), (va_20, .inl (cI, 48, .inl (fun _ => 0))), (vb_20, .inl (cI, 48, .inl (fun _ => 0))), (q27, .inr (5, [.ref rp_31])), (rp_31, .inl (cI, 32, .inl (fun _ => 0)))] := hD
  refine lv_aload_n hx hb d_Ma_init_37 rfl (lv_at hl 0 rfl) ?_
  refine va_new (ci := 4) (fs := [.null, .int 0, .int 0, .int 0]) (C := R_Ou) (T := F_Ou) (N := 4) hx hb hts i_Ou t_Ou t_Ou_ok hown (hts _ cl_Ma_32) (hts _ in_Ou) (hts _ ini_Ou) hZ.1 hP hD hS hZ.2.2.2 rfl (fun j hj => by rcases (show j = 0 ∨ j = 1 ∨ j = 2 ∨ j = 3 by omega) with rfl | rfl | rfl | rfl <;> rfl) (Nat.le_of_ble_eq_true rfl) (Nat.le_of_ble_eq_true rfl) d_Ma_init_38 (fun q38 H hP hD hS => ?_)
  have hP : va_P D classes [(h, .inr (6, [.ref q5, .ref q16, .ref q27, .null, .int 0, .int 0, .int 0, .int 0, .int 0, .int 0, .int 0])), (q5, .inr (2, [.ref p_9, .ref g_9, .ref q_9, .ref ki_9, .ref pl_9, .ref en_9, .int 0, .int 0])), (p_9, .inr (1, [.ref pb_9, .int 0])), (pb_9, .inr (0, [.ref pa_9, .int 0])), (pa_9, .inl (cB, 64, .inl (fun _ => 0))), (g_9, .inr (1, [.ref gb_9, .int 0])), (gb_9, .inr (0, [.ref ga_9, .int 0])), (ga_9, .inl (cB, 64, .inl (fun _ => 0))), (q_9, .inr (1, [.ref qb_9, .int 0])), (qb_9, .inr (0, [.ref qa_9, .int 0])), (qa_9, .inl (cB, 64, .inl (fun _ => 0))), (ki_9, .inl (cI, 10, .inl (fun _ => 0))), (pl_9, .inl (cI, 10, .inl (fun _ => 0))), (en_9, .inl (cI, 10, .inl (fun _ => 0))), (q16, .inr (3, [.ref va_20, .ref vb_20, .int 0])), (va_20, .inl (cI, 48, .inl (fun _ => 0))), (vb_20, .inl (cI, 48, .inl (fun _ => 0))), (q27, .inr (5, [.ref rp_31])), (rp_31, .inl (cI, 32, .inl (fun _ => 0))), (q38, .inr (4, [.null, .int 0, .int 0, .int 0]))] H := hP
  have hD : va_D A [(h, .inr (6, [.ref q5, .ref q16, .ref q27, .null, .int 0, .int 0, .int 0, .int 0, .int 0, .int 0, .int 0])), (q5, .inr (2, [.ref p_9, .ref g_9, .ref q_9, .ref ki_9, .ref pl_9, .ref en_9, .int 0, .int 0])), (p_9, .inr (1, [.ref pb_9, .int 0])), (pb_9, .inr (0, [.ref pa_9, .int 0])), (pa_9, .inl (cB, 64, .inl (fun _ => 0))), (g_9, .inr (1, [.ref gb_9, .int 0])), (gb_9, .inr (0, [.ref ga_9, .int 0])), (ga_9, .inl (cB, 64, .inl (fun _ => 0))), (q_9, .inr (1, [.ref qb_9, .int 0])), (qb_9, .inr (0, [.ref qa_9, .int 0])), (qa_9, .inl (cB, 64, .inl (fun _ => 0))), (ki_9, .inl (cI, 10, .inl (fun _ => 0))), (pl_9, .inl (cI, 10, .inl (fun _ => 0))), (en_9, .inl (cI, 10, .inl (fun _ => 0))), (q16, .inr (3, [.ref va_20, .ref vb_20, .int 0])), (va_20, .inl (cI, 48, .inl (fun _ => 0))), (vb_20, .inl (cI, 48, .inl (fun _ => 0))), (q27, .inr (5, [.ref rp_31])), (rp_31, .inl (cI, 32, .inl (fun _ => 0))), (q38, .inr (4, [.null, .int 0, .int 0, .int 0]))] := hD
  refine W.widen (k := 19) (n := 378) (by omega) (by omega) ?_
  refine lv_dup hx hb d_Ma_init_41 rfl ?_
  have hC : Cut [(h, .inr (6, [.ref q5, .ref q16, .ref q27, .null, .int 0, .int 0, .int 0, .int 0, .int 0, .int 0, .int 0])), (q5, .inr (2, [.ref p_9, .ref g_9, .ref q_9, .ref ki_9, .ref pl_9, .ref en_9, .int 0, .int 0])), (p_9, .inr (1, [.ref pb_9, .int 0])), (pb_9, .inr (0, [.ref pa_9, .int 0])), (pa_9, .inl (cB, 64, .inl (fun _ => 0))), (g_9, .inr (1, [.ref gb_9, .int 0])), (gb_9, .inr (0, [.ref ga_9, .int 0])), (ga_9, .inl (cB, 64, .inl (fun _ => 0))), (q_9, .inr (1, [.ref qb_9, .int 0])), (qb_9, .inr (0, [.ref qa_9, .int 0])), (qa_9, .inl (cB, 64, .inl (fun _ => 0))), (ki_9, .inl (cI, 10, .inl (fun _ => 0))), (pl_9, .inl (cI, 10, .inl (fun _ => 0))), (en_9, .inl (cI, 10, .inl (fun _ => 0))), (q16, .inr (3, [.ref va_20, .ref vb_20, .int 0])), (va_20, .inl (cI, 48, .inl (fun _ => 0))), (vb_20, .inl (cI, 48, .inl (fun _ => 0))), (q27, .inr (5, [.ref rp_31])), (rp_31, .inl (cI, 32, .inl (fun _ => 0))), (q38, .inr (4, [.null, .int 0, .int 0, .int 0]))] [(q38, .inr (4, [.null, .int 0, .int 0, .int 0]))] [(h, .inr (6, [.ref q5, .ref q16, .ref q27, .null, .int 0, .int 0, .int 0, .int 0, .int 0, .int 0, .int 0])), (q5, .inr (2, [.ref p_9, .ref g_9, .ref q_9, .ref ki_9, .ref pl_9, .ref en_9, .int 0, .int 0])), (p_9, .inr (1, [.ref pb_9, .int 0])), (pb_9, .inr (0, [.ref pa_9, .int 0])), (pa_9, .inl (cB, 64, .inl (fun _ => 0))), (g_9, .inr (1, [.ref gb_9, .int 0])), (gb_9, .inr (0, [.ref ga_9, .int 0])), (ga_9, .inl (cB, 64, .inl (fun _ => 0))), (q_9, .inr (1, [.ref qb_9, .int 0])), (qb_9, .inr (0, [.ref qa_9, .int 0])), (qa_9, .inl (cB, 64, .inl (fun _ => 0))), (ki_9, .inl (cI, 10, .inl (fun _ => 0))), (pl_9, .inl (cI, 10, .inl (fun _ => 0))), (en_9, .inl (cI, 10, .inl (fun _ => 0))), (q16, .inr (3, [.ref va_20, .ref vb_20, .int 0])), (va_20, .inl (cI, 48, .inl (fun _ => 0))), (vb_20, .inl (cI, 48, .inl (fun _ => 0))), (q27, .inr (5, [.ref rp_31])), (rp_31, .inl (cI, 32, .inl (fun _ => 0)))] [19] [0, 1, 2, 3, 4, 5, 6, 7, 8, 9, 10, 11, 12, 13, 14, 15, 16, 17, 18] := ⟨rfl, rfl, rfl, rfl, by decide⟩
  refine goV (trIN (As := []) (rest := [.ref q38, .ref h]) ⟨hx, hb, hml, hown, hts⟩ gd_good (c_Ou_init l D cB cI cJ q38) cal_Ou_init mn_Ma_34 ⟨Nat.le_of_ble_eq_true rfl, Nat.le_of_ble_eq_true rfl⟩ hZ hP hD hC rfl hl.1 rfl (Nat.le_of_ble_eq_true rfl) d_Ma_init_42 ⟨Nat.le_of_ble_eq_true rfl, Nat.le_of_ble_eq_true rfl⟩) hZ hP hD hS hC (fun w1 k_42 n_42 H locs hq hP hD hS => ?_)
  obtain ⟨ro_42, rfl, rfl, rfl⟩ := hq
  have hP : va_P D classes [(h, .inr (6, [.ref q5, .ref q16, .ref q27, .null, .int 0, .int 0, .int 0, .int 0, .int 0, .int 0, .int 0])), (q5, .inr (2, [.ref p_9, .ref g_9, .ref q_9, .ref ki_9, .ref pl_9, .ref en_9, .int 0, .int 0])), (p_9, .inr (1, [.ref pb_9, .int 0])), (pb_9, .inr (0, [.ref pa_9, .int 0])), (pa_9, .inl (cB, 64, .inl (fun _ => 0))), (g_9, .inr (1, [.ref gb_9, .int 0])), (gb_9, .inr (0, [.ref ga_9, .int 0])), (ga_9, .inl (cB, 64, .inl (fun _ => 0))), (q_9, .inr (1, [.ref qb_9, .int 0])), (qb_9, .inr (0, [.ref qa_9, .int 0])), (qa_9, .inl (cB, 64, .inl (fun _ => 0))), (ki_9, .inl (cI, 10, .inl (fun _ => 0))), (pl_9, .inl (cI, 10, .inl (fun _ => 0))), (en_9, .inl (cI, 10, .inl (fun _ => 0))), (q16, .inr (3, [.ref va_20, .ref vb_20, .int 0])), (va_20, .inl (cI, 48, .inl (fun _ => 0))), (vb_20, .inl (cI, 48, .inl (fun _ => 0))), (q27, .inr (5, [.ref rp_31])), (rp_31, .inl (cI, 32, .inl (fun _ => 0))), (q38, .inr (4, [.ref ro_42, .int 0, .int 0, .int 0])), (ro_42, .inl (cI, 336, .inl (fun _ => 0)))] H := hP
  have hD : va_D A [(h, .inr (6, [.ref q5, .ref q16, .ref q27, .null, .int 0, .int 0, .int 0, .int 0, .int 0, .int 0, .int 0])), (q5, .inr (2, [.ref p_9, .ref g_9, .ref q_9, .ref ki_9, .ref pl_9, .ref en_9, .int 0, .int 0])), (p_9, .inr (1, [.ref pb_9, .int 0])), (pb_9, .inr (0, [.ref pa_9, .int 0])), (pa_9, .inl (cB, 64, .inl (fun _ => 0))), (g_9, .inr (1, [.ref gb_9, .int 0])), (gb_9, .inr (0, [.ref ga_9, .int 0])), (ga_9, .inl (cB, 64, .inl (fun _ => 0))), (q_9, .inr (1, [.ref qb_9, .int 0])), (qb_9, .inr (0, [.ref qa_9, .int 0])), (qa_9, .inl (cB, 64, .inl (fun _ => 0))), (ki_9, .inl (cI, 10, .inl (fun _ => 0))), (pl_9, .inl (cI, 10, .inl (fun _ => 0))), (en_9, .inl (cI, 10, .inl (fun _ => 0))), (q16, .inr (3, [.ref va_20, .ref vb_20, .int 0])), (va_20, .inl (cI, 48, .inl (fun _ => 0))), (vb_20, .inl (cI, 48, .inl (fun _ => 0))), (q27, .inr (5, [.ref rp_31])), (rp_31, .inl (cI, 32, .inl (fun _ => 0))), (q38, .inr (4, [.ref ro_42, .int 0, .int 0, .int 0])), (ro_42, .inl (cI, 336, .inl (fun _ => 0)))] := hD
  refine va_putF (D := D) (ci := 6) (v := .ref q38) (ty := .object "CharOutlines$Outline") (C := R_Ma) (T := F_Ma) (N := 11) hx hb hts i_Ma t_Ma t_Ma_ok n_Ma hown hZ.1 hP hD hS 0 rfl rfl 3 (by decide) (hts _ fl_Ma_35) (fun _ h9 => h9) rfl hnm rfl (by decide +kernel) rfl rfl (Nat.le_of_ble_eq_true rfl) d_Ma_init_45 (fun H locs hP hD hS => ?_)
  have hP : va_P D classes [(h, .inr (6, [.ref q5, .ref q16, .ref q27, .ref q38, .int 0, .int 0, .int 0, .int 0, .int 0, .int 0, .int 0])), (q5, .inr (2, [.ref p_9, .ref g_9, .ref q_9, .ref ki_9, .ref pl_9, .ref en_9, .int 0, .int 0])), (p_9, .inr (1, [.ref pb_9, .int 0])), (pb_9, .inr (0, [.ref pa_9, .int 0])), (pa_9, .inl (cB, 64, .inl (fun _ => 0))), (g_9, .inr (1, [.ref gb_9, .int 0])), (gb_9, .inr (0, [.ref ga_9, .int 0])), (ga_9, .inl (cB, 64, .inl (fun _ => 0))), (q_9, .inr (1, [.ref qb_9, .int 0])), (qb_9, .inr (0, [.ref qa_9, .int 0])), (qa_9, .inl (cB, 64, .inl (fun _ => 0))), (ki_9, .inl (cI, 10, .inl (fun _ => 0))), (pl_9, .inl (cI, 10, .inl (fun _ => 0))), (en_9, .inl (cI, 10, .inl (fun _ => 0))), (q16, .inr (3, [.ref va_20, .ref vb_20, .int 0])), (va_20, .inl (cI, 48, .inl (fun _ => 0))), (vb_20, .inl (cI, 48, .inl (fun _ => 0))), (q27, .inr (5, [.ref rp_31])), (rp_31, .inl (cI, 32, .inl (fun _ => 0))), (q38, .inr (4, [.ref ro_42, .int 0, .int 0, .int 0])), (ro_42, .inl (cI, 336, .inl (fun _ => 0)))] H := hP
  have hD : va_D A [(h, .inr (6, [.ref q5, .ref q16, .ref q27, .ref q38, .int 0, .int 0, .int 0, .int 0, .int 0, .int 0, .int 0])), (q5, .inr (2, [.ref p_9, .ref g_9, .ref q_9, .ref ki_9, .ref pl_9, .ref en_9, .int 0, .int 0])), (p_9, .inr (1, [.ref pb_9, .int 0])), (pb_9, .inr (0, [.ref pa_9, .int 0])), (pa_9, .inl (cB, 64, .inl (fun _ => 0))), (g_9, .inr (1, [.ref gb_9, .int 0])), (gb_9, .inr (0, [.ref ga_9, .int 0])), (ga_9, .inl (cB, 64, .inl (fun _ => 0))), (q_9, .inr (1, [.ref qb_9, .int 0])), (qb_9, .inr (0, [.ref qa_9, .int 0])), (qa_9, .inl (cB, 64, .inl (fun _ => 0))), (ki_9, .inl (cI, 10, .inl (fun _ => 0))), (pl_9, .inl (cI, 10, .inl (fun _ => 0))), (en_9, .inl (cI, 10, .inl (fun _ => 0))), (q16, .inr (3, [.ref va_20, .ref vb_20, .int 0])), (va_20, .inl (cI, 48, .inl (fun _ => 0))), (vb_20, .inl (cI, 48, .inl (fun _ => 0))), (q27, .inr (5, [.ref rp_31])), (rp_31, .inl (cI, 32, .inl (fun _ => 0))), (q38, .inr (4, [.ref ro_42, .int 0, .int 0, .int 0])), (ro_42, .inl (cI, 336, .inl (fun _ => 0)))] := hD
  exact t_vret hx hb hr hlk d_Ma_init_48 (hP.subm (ws' := [(h, .inr (6, [.ref q5, .ref q16, .ref q27, .ref q38, .int 0, .int 0, .int 0, .int 0, .int 0, .int 0, .int 0])), (q5, .inr (2, [.ref p_9, .ref g_9, .ref q_9, .ref ki_9, .ref pl_9, .ref en_9, .int 0, .int 0])), (p_9, .inr (1, [.ref pb_9, .int 0])), (pb_9, .inr (0, [.ref pa_9, .int 0])), (pa_9, .inl (cB, 64, .inl (fun _ => 0))), (g_9, .inr (1, [.ref gb_9, .int 0])), (gb_9, .inr (0, [.ref ga_9, .int 0])), (ga_9, .inl (cB, 64, .inl (fun _ => 0))), (q_9, .inr (1, [.ref qb_9, .int 0])), (qb_9, .inr (0, [.ref qa_9, .int 0])), (qa_9, .inl (cB, 64, .inl (fun _ => 0))), (ki_9, .inl (cI, 10, .inl (fun _ => 0))), (pl_9, .inl (cI, 10, .inl (fun _ => 0))), (en_9, .inl (cI, 10, .inl (fun _ => 0))), (q16, .inr (3, [.ref va_20, .ref vb_20, .int 0])), (va_20, .inl (cI, 48, .inl (fun _ => 0))), (vb_20, .inl (cI, 48, .inl (fun _ => 0))), (q27, .inr (5, [.ref rp_31])), (rp_31, .inl (cI, 32, .inl (fun _ => 0))), (q38, .inr (4, [.ref ro_42, .int 0, .int 0, .int 0])), (ro_42, .inl (cI, 336, .inl (fun _ => 0)))]) [0, 1, 2, 3, 4, 5, 6, 7, 8, 9, 10, 11, 12, 13, 14, 15, 16, 17, 18, 19, 20] rfl) (hD.sub (ws' := [(h, .inr (6, [.ref q5, .ref q16, .ref q27, .ref q38, .int 0, .int 0, .int 0, .int 0, .int 0, .int 0, .int 0])), (q5, .inr (2, [.ref p_9, .ref g_9, .ref q_9, .ref ki_9, .ref pl_9, .ref en_9, .int 0, .int 0])), (p_9, .inr (1, [.ref pb_9, .int 0])), (pb_9, .inr (0, [.ref pa_9, .int 0])), (pa_9, .inl (cB, 64, .inl (fun _ => 0))), (g_9, .inr (1, [.ref gb_9, .int 0])), (gb_9, .inr (0, [.ref ga_9, .int 0])), (ga_9, .inl (cB, 64, .inl (fun _ => 0))), (q_9, .inr (1, [.ref qb_9, .int 0])), (qb_9, .inr (0, [.ref qa_9, .int 0])), (qa_9, .inl (cB, 64, .inl (fun _ => 0))), (ki_9, .inl (cI, 10, .inl (fun _ => 0))), (pl_9, .inl (cI, 10, .inl (fun _ => 0))), (en_9, .inl (cI, 10, .inl (fun _ => 0))), (q16, .inr (3, [.ref va_20, .ref vb_20, .int 0])), (va_20, .inl (cI, 48, .inl (fun _ => 0))), (vb_20, .inl (cI, 48, .inl (fun _ => 0))), (q27, .inr (5, [.ref rp_31])), (rp_31, .inl (cI, 32, .inl (fun _ => 0))), (q38, .inr (4, [.ref ro_42, .int 0, .int 0, .int 0])), (ro_42, .inl (cI, 336, .inl (fun _ => 0)))]) [0, 1, 2, 3, 4, 5, 6, 7, 8, 9, 10, 11, 12, 13, 14, 15, 16, 17, 18, 19, 20] rfl rfl) hS ⟨rfl, q5, p_9, pb_9, pa_9, g_9, gb_9, ga_9, q_9, qb_9, qa_9, ki_9, pl_9, en_9, q16, va_20, vb_20, q27, rp_31, q38, ro_42, rfl, rfl, rfl⟩
set_option maxHeartbeats 1000000 in
set_option maxRecDepth 100000 in
theorem c_CO_init (l : Launch) (D : va_G) (cB cI cJ : ClassId) (h : Nat) : Tr l D classes (TY cB cI cJ) gd_tbl nx_tbl y_CO_init b_CO_init 1 none ({ frames := 5, cells := 23, slots := 791, locals := 92 }) [.ref h] [(h, .inr (7, [.null, .null]))] (pV (fun w k n => ∃ rw ra ma ms p pb pa g gb ga q qb qa ki pl en mv va vb mr rp mo ro : Nat, w = [(h, .inr (7, [.ref rw, .ref ma])), (rw, .inr (0, [.ref ra, .int 0])), (ra, .inl (cB, 64, .inl (fun _ => 0))), (ma, .inr (6, [.ref ms, .ref mv, .ref mr, .ref mo, .int 0, .int 0, .int 0, .int 0, .int 0, .int 0, .int 0])), (ms, .inr (2, [.ref p, .ref g, .ref q, .ref ki, .ref pl, .ref en, .int 0, .int 0])), (p, .inr (1, [.ref pb, .int 0])), (pb, .inr (0, [.ref pa, .int 0])), (pa, .inl (cB, 64, .inl (fun _ => 0))), (g, .inr (1, [.ref gb, .int 0])), (gb, .inr (0, [.ref ga, .int 0])), (ga, .inl (cB, 64, .inl (fun _ => 0))), (q, .inr (1, [.ref qb, .int 0])), (qb, .inr (0, [.ref qa, .int 0])), (qa, .inl (cB, 64, .inl (fun _ => 0))), (ki, .inl (cI, 10, .inl (fun _ => 0))), (pl, .inl (cI, 10, .inl (fun _ => 0))), (en, .inl (cI, 10, .inl (fun _ => 0))), (mv, .inr (3, [.ref va, .ref vb, .int 0])), (va, .inl (cI, 48, .inl (fun _ => 0))), (vb, .inl (cI, 48, .inl (fun _ => 0))), (mr, .inr (5, [.ref rp])), (rp, .inl (cI, 32, .inl (fun _ => 0))), (mo, .inr (4, [.ref ro, .int 0, .int 0, .int 0])), (ro, .inl (cI, 336, .inl (fun _ => 0)))] ∧ k = 23 ∧ n = 791)) := by
  refine Tr.intro (by decide +kernel) nx_ok (Nat.le_of_ble_eq_true rfl) ?_
  intro p e s m args below meth c A ls hx hb hml hown hts hr hlk hnm hZ hP hD hS hl
  have hl : lv_has ls 1 [(0, .ref h)] := hl
  refine lv_aload_n hx hb d_CO_init_0 rfl (lv_at hl 0 rfl) ?_
  refine W.objInit hx hb hown (hts _ ml_CO_1) (hts _ im_objectInit) (hts _ co_objectInit) rfl (by rw [hml]; exact hl.1) rfl d_CO_init_1 (Nat.le_of_ble_eq_true rfl) (Nat.le_of_ble_eq_true rfl) ?_
  refine W.eq (g2 := F0 m 4 ls []) rfl ?_
  refine lv_aload_n hx hb d_CO_init_4 rfl (lv_at hl 0 rfl) ?_
  refine va_new (ci := 0) (fs := [.null, .int 0]) (C := R_By) (T := F_By) (N := 2) hx hb hts i_By t_By t_By_ok hown (hts _ cl_CO_7) (hts _ in_By) (hts _ ini_By) hZ.1 hP hD hS hZ.2.2.2 rfl (fun j hj => by rcases (show j = 0 ∨ j = 1 by omega) with rfl | rfl <;> rfl) (Nat.le_of_ble_eq_true rfl) (Nat.le_of_ble_eq_true rfl) d_CO_init_5 (fun q5 H hP hD hS => ?_)
  have hP : va_P D classes [(h, .inr (7, [.null, .null])), (q5, .inr (0, [.null, .int 0]))] H := hP
  have hD : va_D A [(h, .inr (7, [.null, .null])), (q5, .inr (0, [.null, .int 0]))] := hD
  refine W.widen (k := 1) (n := 2) (by omega) (by omega) ?_
  refine lv_dup hx hb d_CO_init_8 rfl ?_
  have hC : Cut [(h, .inr (7, [.null, .null])), (q5, .inr (0, [.null, .int 0]))] [(q5, .inr (0, [.null, .int 0]))] [(h, .inr (7, [.null, .null]))] [1] [0] := ⟨rfl, rfl, rfl, rfl, by decide⟩
  refine goV (trIN (As := []) (rest := [.ref q5, .ref h]) ⟨hx, hb, hml, hown, hts⟩ gd_good (c_By_init l D cB cI cJ q5) cal_By_init mn_CO_9 ⟨Nat.le_of_ble_eq_true rfl, Nat.le_of_ble_eq_true rfl⟩ hZ hP hD hC rfl hl.1 rfl (Nat.le_of_ble_eq_true rfl) d_CO_init_9 ⟨Nat.le_of_ble_eq_true rfl, Nat.le_of_ble_eq_true rfl⟩) hZ hP hD hS hC (fun w1 k_9 n_9 H locs hq hP hD hS => ?_)
  obtain ⟨a_9, rfl, rfl, rfl⟩ := hq
  have hP : va_P D classes [(h, .inr (7, [.null, .null])), (q5, .inr (0, [.ref a_9, .int 0])), (a_9, .inl (cB, 64, .inl (fun _ => 0)))] H := hP
  have hD : va_D A [(h, .inr (7, [.null, .null])), (q5, .inr (0, [.ref a_9, .int 0])), (a_9, .inl (cB, 64, .inl (fun _ => 0)))] := hD
  refine va_putF (D := D) (ci := 7) (v := .ref q5) (ty := .object "CharOutlines$Bytes") (C := R_CO) (T := F_CO) (N := 2) hx hb hts i_CO t_CO t_CO_ok n_CO hown hZ.1 hP hD hS 0 rfl rfl 0 (by decide) (hts _ fl_CO_10) (fun _ h9 => h9) rfl hnm rfl (by decide +kernel) rfl rfl (Nat.le_of_ble_eq_true rfl) d_CO_init_12 (fun H locs hP hD hS => ?_)
  have hP : va_P D classes [(h, .inr (7, [.ref q5, .null])), (q5, .inr (0, [.ref a_9, .int 0])), (a_9, .inl (cB, 64, .inl (fun _ => 0)))] H := hP
  have hD : va_D A [(h, .inr (7, [.ref q5, .null])), (q5, .inr (0, [.ref a_9, .int 0])), (a_9, .inl (cB, 64, .inl (fun _ => 0)))] := hD
  refine lv_aload_n hx hb d_CO_init_15 rfl (lv_at hl 0 rfl) ?_
  refine va_new (ci := 6) (fs := [.null, .null, .null, .null, .int 0, .int 0, .int 0, .int 0, .int 0, .int 0, .int 0]) (C := R_Ma) (T := F_Ma) (N := 11) hx hb hts i_Ma t_Ma t_Ma_ok hown (hts _ cl_CO_16) (hts _ in_Ma) (hts _ ini_Ma) hZ.1 hP hD hS hZ.2.2.2 rfl (fun j hj => by rcases (show j = 0 ∨ j = 1 ∨ j = 2 ∨ j = 3 ∨ j = 4 ∨ j = 5 ∨ j = 6 ∨ j = 7 ∨ j = 8 ∨ j = 9 ∨ j = 10 by omega) with rfl | rfl | rfl | rfl | rfl | rfl | rfl | rfl | rfl | rfl | rfl <;> rfl) (Nat.le_of_ble_eq_true rfl) (Nat.le_of_ble_eq_true rfl) d_CO_init_16 (fun q16 H hP hD hS => ?_)
  have hP : va_P D classes [(h, .inr (7, [.ref q5, .null])), (q5, .inr (0, [.ref a_9, .int 0])), (a_9, .inl (cB, 64, .inl (fun _ => 0))), (q16, .inr (6, [.null, .null, .null, .null, .int 0, .int 0, .int 0, .int 0, .int 0, .int 0, .int 0]))] H := hP
  have hD : va_D A [(h, .inr (7, [.ref q5, .null])), (q5, .inr (0, [.ref a_9, .int 0])), (a_9, .inl (cB, 64, .inl (fun _ => 0))), (q16, .inr (6, [.null, .null, .null, .null, .int 0, .int 0, .int 0, .int 0, .int 0, .int 0, .int 0]))] := hD
  refine W.widen (k := 3) (n := 77) (by omega) (by omega) ?_
  refine lv_dup hx hb d_CO_init_19 rfl ?_
  have hC : Cut [(h, .inr (7, [.ref q5, .null])), (q5, .inr (0, [.ref a_9, .int 0])), (a_9, .inl (cB, 64, .inl (fun _ => 0))), (q16, .inr (6, [.null, .null, .null, .null, .int 0, .int 0, .int 0, .int 0, .int 0, .int 0, .int 0]))] [(q16, .inr (6, [.null, .null, .null, .null, .int 0, .int 0, .int 0, .int 0, .int 0, .int 0, .int 0]))] [(h, .inr (7, [.ref q5, .null])), (q5, .inr (0, [.ref a_9, .int 0])), (a_9, .inl (cB, 64, .inl (fun _ => 0)))] [3] [0, 1, 2] := ⟨rfl, rfl, rfl, rfl, by decide⟩
  refine goV (trIN (As := []) (rest := [.ref q16, .ref h]) ⟨hx, hb, hml, hown, hts⟩ gd_good (c_Ma_init l D cB cI cJ q16) cal_Ma_init mn_CO_18 ⟨Nat.le_of_ble_eq_true rfl, Nat.le_of_ble_eq_true rfl⟩ hZ hP hD hC rfl hl.1 rfl (Nat.le_of_ble_eq_true rfl) d_CO_init_20 ⟨Nat.le_of_ble_eq_true rfl, Nat.le_of_ble_eq_true rfl⟩) hZ hP hD hS hC (fun w1 k_20 n_20 H locs hq hP hD hS => ?_)
  obtain ⟨ms_20, p_20, pb_20, pa_20, g_20, gb_20, ga_20, q_20, qb_20, qa_20, ki_20, pl_20, en_20, mv_20, va_20, vb_20, mr_20, rp_20, mo_20, ro_20, rfl, rfl, rfl⟩ := hq
  have hP : va_P D classes [(h, .inr (7, [.ref q5, .null])), (q5, .inr (0, [.ref a_9, .int 0])), (a_9, .inl (cB, 64, .inl (fun _ => 0))), (q16, .inr (6, [.ref ms_20, .ref mv_20, .ref mr_20, .ref mo_20, .int 0, .int 0, .int 0, .int 0, .int 0, .int 0, .int 0])), (ms_20, .inr (2, [.ref p_20, .ref g_20, .ref q_20, .ref ki_20, .ref pl_20, .ref en_20, .int 0, .int 0])), (p_20, .inr (1, [.ref pb_20, .int 0])), (pb_20, .inr (0, [.ref pa_20, .int 0])), (pa_20, .inl (cB, 64, .inl (fun _ => 0))), (g_20, .inr (1, [.ref gb_20, .int 0])), (gb_20, .inr (0, [.ref ga_20, .int 0])), (ga_20, .inl (cB, 64, .inl (fun _ => 0))), (q_20, .inr (1, [.ref qb_20, .int 0])), (qb_20, .inr (0, [.ref qa_20, .int 0])), (qa_20, .inl (cB, 64, .inl (fun _ => 0))), (ki_20, .inl (cI, 10, .inl (fun _ => 0))), (pl_20, .inl (cI, 10, .inl (fun _ => 0))), (en_20, .inl (cI, 10, .inl (fun _ => 0))), (mv_20, .inr (3, [.ref va_20, .ref vb_20, .int 0])), (va_20, .inl (cI, 48, .inl (fun _ => 0))), (vb_20, .inl (cI, 48, .inl (fun _ => 0))), (mr_20, .inr (5, [.ref rp_20])), (rp_20, .inl (cI, 32, .inl (fun _ => 0))), (mo_20, .inr (4, [.ref ro_20, .int 0, .int 0, .int 0])), (ro_20, .inl (cI, 336, .inl (fun _ => 0)))] H := hP
  have hD : va_D A [(h, .inr (7, [.ref q5, .null])), (q5, .inr (0, [.ref a_9, .int 0])), (a_9, .inl (cB, 64, .inl (fun _ => 0))), (q16, .inr (6, [.ref ms_20, .ref mv_20, .ref mr_20, .ref mo_20, .int 0, .int 0, .int 0, .int 0, .int 0, .int 0, .int 0])), (ms_20, .inr (2, [.ref p_20, .ref g_20, .ref q_20, .ref ki_20, .ref pl_20, .ref en_20, .int 0, .int 0])), (p_20, .inr (1, [.ref pb_20, .int 0])), (pb_20, .inr (0, [.ref pa_20, .int 0])), (pa_20, .inl (cB, 64, .inl (fun _ => 0))), (g_20, .inr (1, [.ref gb_20, .int 0])), (gb_20, .inr (0, [.ref ga_20, .int 0])), (ga_20, .inl (cB, 64, .inl (fun _ => 0))), (q_20, .inr (1, [.ref qb_20, .int 0])), (qb_20, .inr (0, [.ref qa_20, .int 0])), (qa_20, .inl (cB, 64, .inl (fun _ => 0))), (ki_20, .inl (cI, 10, .inl (fun _ => 0))), (pl_20, .inl (cI, 10, .inl (fun _ => 0))), (en_20, .inl (cI, 10, .inl (fun _ => 0))), (mv_20, .inr (3, [.ref va_20, .ref vb_20, .int 0])), (va_20, .inl (cI, 48, .inl (fun _ => 0))), (vb_20, .inl (cI, 48, .inl (fun _ => 0))), (mr_20, .inr (5, [.ref rp_20])), (rp_20, .inl (cI, 32, .inl (fun _ => 0))), (mo_20, .inr (4, [.ref ro_20, .int 0, .int 0, .int 0])), (ro_20, .inl (cI, 336, .inl (fun _ => 0)))] := hD
  refine va_putF (D := D) (ci := 7) (v := .ref q16) (ty := .object "CharOutlines$Machine") (C := R_CO) (T := F_CO) (N := 2) hx hb hts i_CO t_CO t_CO_ok n_CO hown hZ.1 hP hD hS 0 rfl rfl 1 (by decide) (hts _ fl_CO_19) (fun _ h9 => h9) rfl hnm rfl (by decide +kernel) rfl rfl (Nat.le_of_ble_eq_true rfl) d_CO_init_23 (fun H locs hP hD hS => ?_)
  have hP : va_P D classes [(h, .inr (7, [.ref q5, .ref q16])), (q5, .inr (0, [.ref a_9, .int 0])), (a_9, .inl (cB, 64, .inl (fun _ => 0))), (q16, .inr (6, [.ref ms_20, .ref mv_20, .ref mr_20, .ref mo_20, .int 0, .int 0, .int 0, .int 0, .int 0, .int 0, .int 0])), (ms_20, .inr (2, [.ref p_20, .ref g_20, .ref q_20, .ref ki_20, .ref pl_20, .ref en_20, .int 0, .int 0])), (p_20, .inr (1, [.ref pb_20, .int 0])), (pb_20, .inr (0, [.ref pa_20, .int 0])), (pa_20, .inl (cB, 64, .inl (fun _ => 0))), (g_20, .inr (1, [.ref gb_20, .int 0])), (gb_20, .inr (0, [.ref ga_20, .int 0])), (ga_20, .inl (cB, 64, .inl (fun _ => 0))), (q_20, .inr (1, [.ref qb_20, .int 0])), (qb_20, .inr (0, [.ref qa_20, .int 0])), (qa_20, .inl (cB, 64, .inl (fun _ => 0))), (ki_20, .inl (cI, 10, .inl (fun _ => 0))), (pl_20, .inl (cI, 10, .inl (fun _ => 0))), (en_20, .inl (cI, 10, .inl (fun _ => 0))), (mv_20, .inr (3, [.ref va_20, .ref vb_20, .int 0])), (va_20, .inl (cI, 48, .inl (fun _ => 0))), (vb_20, .inl (cI, 48, .inl (fun _ => 0))), (mr_20, .inr (5, [.ref rp_20])), (rp_20, .inl (cI, 32, .inl (fun _ => 0))), (mo_20, .inr (4, [.ref ro_20, .int 0, .int 0, .int 0])), (ro_20, .inl (cI, 336, .inl (fun _ => 0)))] H := hP
  have hD : va_D A [(h, .inr (7, [.ref q5, .ref q16])), (q5, .inr (0, [.ref a_9, .int 0])), (a_9, .inl (cB, 64, .inl (fun _ => 0))), (q16, .inr (6, [.ref ms_20, .ref mv_20, .ref mr_20, .ref mo_20, .int 0, .int 0, .int 0, .int 0, .int 0, .int 0, .int 0])), (ms_20, .inr (2, [.ref p_20, .ref g_20, .ref q_20, .ref ki_20, .ref pl_20, .ref en_20, .int 0, .int 0])), (p_20, .inr (1, [.ref pb_20, .int 0])), (pb_20, .inr (0, [.ref pa_20, .int 0])), (pa_20, .inl (cB, 64, .inl (fun _ => 0))), (g_20, .inr (1, [.ref gb_20, .int 0])), (gb_20, .inr (0, [.ref ga_20, .int 0])), (ga_20, .inl (cB, 64, .inl (fun _ => 0))), (q_20, .inr (1, [.ref qb_20, .int 0])), (qb_20, .inr (0, [.ref qa_20, .int 0])), (qa_20, .inl (cB, 64, .inl (fun _ => 0))), (ki_20, .inl (cI, 10, .inl (fun _ => 0))), (pl_20, .inl (cI, 10, .inl (fun _ => 0))), (en_20, .inl (cI, 10, .inl (fun _ => 0))), (mv_20, .inr (3, [.ref va_20, .ref vb_20, .int 0])), (va_20, .inl (cI, 48, .inl (fun _ => 0))), (vb_20, .inl (cI, 48, .inl (fun _ => 0))), (mr_20, .inr (5, [.ref rp_20])), (rp_20, .inl (cI, 32, .inl (fun _ => 0))), (mo_20, .inr (4, [.ref ro_20, .int 0, .int 0, .int 0])), (ro_20, .inl (cI, 336, .inl (fun _ => 0)))] := hD
  exact t_vret hx hb hr hlk d_CO_init_26 (hP.subm (ws' := [(h, .inr (7, [.ref q5, .ref q16])), (q5, .inr (0, [.ref a_9, .int 0])), (a_9, .inl (cB, 64, .inl (fun _ => 0))), (q16, .inr (6, [.ref ms_20, .ref mv_20, .ref mr_20, .ref mo_20, .int 0, .int 0, .int 0, .int 0, .int 0, .int 0, .int 0])), (ms_20, .inr (2, [.ref p_20, .ref g_20, .ref q_20, .ref ki_20, .ref pl_20, .ref en_20, .int 0, .int 0])), (p_20, .inr (1, [.ref pb_20, .int 0])), (pb_20, .inr (0, [.ref pa_20, .int 0])), (pa_20, .inl (cB, 64, .inl (fun _ => 0))), (g_20, .inr (1, [.ref gb_20, .int 0])), (gb_20, .inr (0, [.ref ga_20, .int 0])), (ga_20, .inl (cB, 64, .inl (fun _ => 0))), (q_20, .inr (1, [.ref qb_20, .int 0])), (qb_20, .inr (0, [.ref qa_20, .int 0])), (qa_20, .inl (cB, 64, .inl (fun _ => 0))), (ki_20, .inl (cI, 10, .inl (fun _ => 0))), (pl_20, .inl (cI, 10, .inl (fun _ => 0))), (en_20, .inl (cI, 10, .inl (fun _ => 0))), (mv_20, .inr (3, [.ref va_20, .ref vb_20, .int 0])), (va_20, .inl (cI, 48, .inl (fun _ => 0))), (vb_20, .inl (cI, 48, .inl (fun _ => 0))), (mr_20, .inr (5, [.ref rp_20])), (rp_20, .inl (cI, 32, .inl (fun _ => 0))), (mo_20, .inr (4, [.ref ro_20, .int 0, .int 0, .int 0])), (ro_20, .inl (cI, 336, .inl (fun _ => 0)))]) [0, 1, 2, 3, 4, 5, 6, 7, 8, 9, 10, 11, 12, 13, 14, 15, 16, 17, 18, 19, 20, 21, 22, 23] rfl) (hD.sub (ws' := [(h, .inr (7, [.ref q5, .ref q16])), (q5, .inr (0, [.ref a_9, .int 0])), (a_9, .inl (cB, 64, .inl (fun _ => 0))), (q16, .inr (6, [.ref ms_20, .ref mv_20, .ref mr_20, .ref mo_20, .int 0, .int 0, .int 0, .int 0, .int 0, .int 0, .int 0])), (ms_20, .inr (2, [.ref p_20, .ref g_20, .ref q_20, .ref ki_20, .ref pl_20, .ref en_20, .int 0, .int 0])), (p_20, .inr (1, [.ref pb_20, .int 0])), (pb_20, .inr (0, [.ref pa_20, .int 0])), (pa_20, .inl (cB, 64, .inl (fun _ => 0))), (g_20, .inr (1, [.ref gb_20, .int 0])), (gb_20, .inr (0, [.ref ga_20, .int 0])), (ga_20, .inl (cB, 64, .inl (fun _ => 0))), (q_20, .inr (1, [.ref qb_20, .int 0])), (qb_20, .inr (0, [.ref qa_20, .int 0])), (qa_20, .inl (cB, 64, .inl (fun _ => 0))), (ki_20, .inl (cI, 10, .inl (fun _ => 0))), (pl_20, .inl (cI, 10, .inl (fun _ => 0))), (en_20, .inl (cI, 10, .inl (fun _ => 0))), (mv_20, .inr (3, [.ref va_20, .ref vb_20, .int 0])), (va_20, .inl (cI, 48, .inl (fun _ => 0))), (vb_20, .inl (cI, 48, .inl (fun _ => 0))), (mr_20, .inr (5, [.ref rp_20])), (rp_20, .inl (cI, 32, .inl (fun _ => 0))), (mo_20, .inr (4, [.ref ro_20, .int 0, .int 0, .int 0])), (ro_20, .inl (cI, 336, .inl (fun _ => 0)))]) [0, 1, 2, 3, 4, 5, 6, 7, 8, 9, 10, 11, 12, 13, 14, 15, 16, 17, 18, 19, 20, 21, 22, 23] rfl rfl) hS ⟨rfl, q5, a_9, q16, ms_20, p_20, pb_20, pa_20, g_20, gb_20, ga_20, q_20, qb_20, qa_20, ki_20, pl_20, en_20, mv_20, va_20, vb_20, mr_20, rp_20, mo_20, ro_20, rfl, rfl, rfl⟩
set_option maxHeartbeats 1000000 in
set_option maxRecDepth 100000 in
theorem c_Mo_init (l : Launch) (D : va_G) (cB cI cJ : ClassId) (h : Nat) : Tr l D classes (TY cB cI cJ) gd_tbl nx_tbl y_Mo_init b_Mo_init 1 none ({ frames := 1, cells := 11, slots := 121655, locals := 12 }) [.ref h] [(h, .inr (8, [.int 0, .int 0, .null, .null, .null, .null, .int 0, .null, .int 0, .null, .int 0, .int 0, .int 0, .int 0, .int 0, .int 0, .int 0, .int 0, .int 0, .int 0, .int 0, .int 0, .int 0, .null, .null, .int 0, .null, .null, .null]))] (pV (fun w k n => ∃ m_row m_shelves m_many m_widths m_mark m_shownMark m_stack m_places m_kinds m_ats m_ends : Nat, w = [(h, .inr (8, [.int 0, .int 0, .ref m_row, .ref m_shelves, .ref m_many, .ref m_widths, .int 0, .ref m_mark, .int 0, .ref m_shownMark, .int 0, .int 0, .int 0, .int 0, .int 0, .int 0, .int 0, .int 0, .int 0, .int 0, .int 0, .int 0, .int 0, .ref m_stack, .ref m_places, .int 0, .ref m_kinds, .ref m_ats, .ref m_ends])), (m_row, .inl (cI, 16384, .inl (fun _ => 0))), (m_shelves, .inl (cI, 49152, .inl (fun _ => 0))), (m_many, .inl (cI, 3, .inl (fun _ => 0))), (m_widths, .inl (cI, 3, .inl (fun _ => 0))), (m_mark, .inl (cI, 28000, .inl (fun _ => 0))), (m_shownMark, .inl (cI, 28000, .inl (fun _ => 0))), (m_stack, .inl (cI, 48, .inl (fun _ => 0))), (m_places, .inl (cI, 32, .inl (fun _ => 0))), (m_kinds, .inl (cI, 11, .inl (fun _ => 0))), (m_ats, .inl (cI, 11, .inl (fun _ => 0))), (m_ends, .inl (cI, 11, .inl (fun _ => 0)))] ∧ k = 11 ∧ n = 121655)) := by
  refine Tr.intro (by decide +kernel) nx_ok (Nat.le_of_ble_eq_true rfl) ?_
  intro p e s m args below meth c A ls hx hb hml hown hts hr hlk hnm hZ hP hD hS hl
  have hl : lv_has ls 1 [(0, .ref h)] := hl
  refine lv_aload_n hx hb d_Mo_init_0 rfl (lv_at hl 0 rfl) ?_
  refine W.objInit hx hb hown (hts _ ml_Mo_1) (hts _ im_objectInit) (hts _ co_objectInit) rfl (by rw [hml]; exact hl.1) rfl d_Mo_init_1 (Nat.le_of_ble_eq_true rfl) (Nat.le_of_ble_eq_true rfl) ?_
  refine W.eq (g2 := F0 m 4 ls []) rfl ?_
  refine lv_aload_n hx hb d_Mo_init_4 rfl (lv_at hl 0 rfl) ?_
  refine lv_sipush (v := 16384) hx hb d_Mo_init_5 (by decide) ?_
  refine t_newa (atype := .int) (a0 := (16384, .inl (fun _ => 0))) (N' := 16384) hx hb (hts _ ar_I) rfl hZ.1 hP hD hS hZ.2.2.2 1 rfl (fun _ => rfl) (by decide) (by decide) (by decide) (Nat.le_of_ble_eq_true rfl) (Nat.le_of_ble_eq_true rfl) d_Mo_init_8 (fun q8 H hP hD hS => ?_)
  have hP : va_P D classes [(h, .inr (8, [.int 0, .int 0, .null, .null, .null, .null, .int 0, .null, .int 0, .null, .int 0, .int 0, .int 0, .int 0, .int 0, .int 0, .int 0, .int 0, .int 0, .int 0, .int 0, .int 0, .int 0, .null, .null, .int 0, .null, .null, .null])), (q8, .inl (cI, 16384, .inl (fun _ => 0)))] H := hP
  have hD : va_D A [(h, .inr (8, [.int 0, .int 0, .null, .null, .null, .null, .int 0, .null, .int 0, .null, .int 0, .int 0, .int 0, .int 0, .int 0, .int 0, .int 0, .int 0, .int 0, .int 0, .int 0, .int 0, .int 0, .null, .null, .int 0, .null, .null, .null])), (q8, .inl (cI, 16384, .inl (fun _ => 0)))] := hD
  refine va_putF (D := D) (ci := 8) (v := .ref q8) (ty := .array .int) (C := R_Mo) (T := F_Mo) (N := 29) hx hb hts i_Mo t_Mo t_Mo_ok n_Mo hown hZ.1 hP hD hS 0 rfl rfl 2 (by decide) (hts _ fl_Mo_7) (fun _ h9 => h9) rfl hnm rfl (by decide +kernel) rfl rfl (Nat.le_of_ble_eq_true rfl) d_Mo_init_10 (fun H locs hP hD hS => ?_)
  have hP : va_P D classes [(h, .inr (8, [.int 0, .int 0, .ref q8, .null, .null, .null, .int 0, .null, .int 0, .null, .int 0, .int 0, .int 0, .int 0, .int 0, .int 0, .int 0, .int 0, .int 0, .int 0, .int 0, .int 0, .int 0, .null, .null, .int 0, .null, .null, .null])), (q8, .inl (cI, 16384, .inl (fun _ => 0)))] H := hP
  have hD : va_D A [(h, .inr (8, [.int 0, .int 0, .ref q8, .null, .null, .null, .int 0, .null, .int 0, .null, .int 0, .int 0, .int 0, .int 0, .int 0, .int 0, .int 0, .int 0, .int 0, .int 0, .int 0, .int 0, .int 0, .null, .null, .int 0, .null, .null, .null])), (q8, .inl (cI, 16384, .inl (fun _ => 0)))] := hD
  refine lv_aload_n hx hb d_Mo_init_13 rfl (lv_at hl 0 rfl) ?_
  refine lv_ldc (v := 49152) hx hb hown (hts _ kc_Mo_13) d_Mo_init_14 ?_
  refine t_newa (atype := .int) (a0 := (49152, .inl (fun _ => 0))) (N' := 49152) hx hb (hts _ ar_I) rfl hZ.1 hP hD hS hZ.2.2.2 1 rfl (fun _ => rfl) (by decide) (by decide) (by decide) (Nat.le_of_ble_eq_true rfl) (Nat.le_of_ble_eq_true rfl) d_Mo_init_16 (fun q16 H hP hD hS => ?_)
  have hP : va_P D classes [(h, .inr (8, [.int 0, .int 0, .ref q8, .null, .null, .null, .int 0, .null, .int 0, .null, .int 0, .int 0, .int 0, .int 0, .int 0, .int 0, .int 0, .int 0, .int 0, .int 0, .int 0, .int 0, .int 0, .null, .null, .int 0, .null, .null, .null])), (q8, .inl (cI, 16384, .inl (fun _ => 0))), (q16, .inl (cI, 49152, .inl (fun _ => 0)))] H := hP
  have hD : va_D A [(h, .inr (8, [.int 0, .int 0, .ref q8, .null, .null, .null, .int 0, .null, .int 0, .null, .int 0, .int 0, .int 0, .int 0, .int 0, .int 0, .int 0, .int 0, .int 0, .int 0, .int 0, .int 0, .int 0, .null, .null, .int 0, .null, .null, .null])), (q8, .inl (cI, 16384, .inl (fun _ => 0))), (q16, .inl (cI, 49152, .inl (fun _ => 0)))] := hD
  refine va_putF (D := D) (ci := 8) (v := .ref q16) (ty := .array .int) (C := R_Mo) (T := F_Mo) (N := 29) hx hb hts i_Mo t_Mo t_Mo_ok n_Mo hown hZ.1 hP hD hS 0 rfl rfl 3 (by decide) (hts _ fl_Mo_14) (fun _ h9 => h9) rfl hnm rfl (by decide +kernel) rfl rfl (Nat.le_of_ble_eq_true rfl) d_Mo_init_18 (fun H locs hP hD hS => ?_)
  have hP : va_P D classes [(h, .inr (8, [.int 0, .int 0, .ref q8, .ref q16, .null, .null, .int 0, .null, .int 0, .null, .int 0, .int 0, .int 0, .int 0, .int 0, .int 0, .int 0, .int 0, .int 0, .int 0, .int 0, .int 0, .int 0, .null, .null, .int 0, .null, .null, .null])), (q8, .inl (cI, 16384, .inl (fun _ => 0))), (q16, .inl (cI, 49152, .inl (fun _ => 0)))] H := hP
  have hD : va_D A [(h, .inr (8, [.int 0, .int 0, .ref q8, .ref q16, .null, .null, .int 0, .null, .int 0, .null, .int 0, .int 0, .int 0, .int 0, .int 0, .int 0, .int 0, .int 0, .int 0, .int 0, .int 0, .int 0, .int 0, .null, .null, .int 0, .null, .null, .null])), (q8, .inl (cI, 16384, .inl (fun _ => 0))), (q16, .inl (cI, 49152, .inl (fun _ => 0)))] := hD
  refine lv_aload_n hx hb d_Mo_init_21 rfl (lv_at hl 0 rfl) ?_
  refine lv_iconst (v := 3) hx hb d_Mo_init_22 (by decide) ?_
  refine t_newa (atype := .int) (a0 := (3, .inl (fun _ => 0))) (N' := 3) hx hb (hts _ ar_I) rfl hZ.1 hP hD hS hZ.2.2.2 1 rfl (fun _ => rfl) (by decide) (by decide) (by decide) (Nat.le_of_ble_eq_true rfl) (Nat.le_of_ble_eq_true rfl) d_Mo_init_23 (fun q23 H hP hD hS => ?_)
  have hP : va_P D classes [(h, .inr (8, [.int 0, .int 0, .ref q8, .ref q16, .null, .null, .int 0, .null, .int 0, .null, .int 0, .int 0, .int 0, .int 0, .int 0, .int 0, .int 0, .int 0, .int 0, .int 0, .int 0, .int 0, .int 0, .null, .null, .int 0, .null, .null, .null])), (q8, .inl (cI, 16384, .inl (fun _ => 0))), (q16, .inl (cI, 49152, .inl (fun _ => 0))), (q23, .inl (cI, 3, .inl (fun _ => 0)))] H := hP
  have hD : va_D A [(h, .inr (8, [.int 0, .int 0, .ref q8, .ref q16, .null, .null, .int 0, .null, .int 0, .null, .int 0, .int 0, .int 0, .int 0, .int 0, .int 0, .int 0, .int 0, .int 0, .int 0, .int 0, .int 0, .int 0, .null, .null, .int 0, .null, .null, .null])), (q8, .inl (cI, 16384, .inl (fun _ => 0))), (q16, .inl (cI, 49152, .inl (fun _ => 0))), (q23, .inl (cI, 3, .inl (fun _ => 0)))] := hD
  refine va_putF (D := D) (ci := 8) (v := .ref q23) (ty := .array .int) (C := R_Mo) (T := F_Mo) (N := 29) hx hb hts i_Mo t_Mo t_Mo_ok n_Mo hown hZ.1 hP hD hS 0 rfl rfl 4 (by decide) (hts _ fl_Mo_17) (fun _ h9 => h9) rfl hnm rfl (by decide +kernel) rfl rfl (Nat.le_of_ble_eq_true rfl) d_Mo_init_25 (fun H locs hP hD hS => ?_)
  have hP : va_P D classes [(h, .inr (8, [.int 0, .int 0, .ref q8, .ref q16, .ref q23, .null, .int 0, .null, .int 0, .null, .int 0, .int 0, .int 0, .int 0, .int 0, .int 0, .int 0, .int 0, .int 0, .int 0, .int 0, .int 0, .int 0, .null, .null, .int 0, .null, .null, .null])), (q8, .inl (cI, 16384, .inl (fun _ => 0))), (q16, .inl (cI, 49152, .inl (fun _ => 0))), (q23, .inl (cI, 3, .inl (fun _ => 0)))] H := hP
  have hD : va_D A [(h, .inr (8, [.int 0, .int 0, .ref q8, .ref q16, .ref q23, .null, .int 0, .null, .int 0, .null, .int 0, .int 0, .int 0, .int 0, .int 0, .int 0, .int 0, .int 0, .int 0, .int 0, .int 0, .int 0, .int 0, .null, .null, .int 0, .null, .null, .null])), (q8, .inl (cI, 16384, .inl (fun _ => 0))), (q16, .inl (cI, 49152, .inl (fun _ => 0))), (q23, .inl (cI, 3, .inl (fun _ => 0)))] := hD
  refine lv_aload_n hx hb d_Mo_init_28 rfl (lv_at hl 0 rfl) ?_
  refine lv_iconst (v := 3) hx hb d_Mo_init_29 (by decide) ?_
  refine t_newa (atype := .int) (a0 := (3, .inl (fun _ => 0))) (N' := 3) hx hb (hts _ ar_I) rfl hZ.1 hP hD hS hZ.2.2.2 1 rfl (fun _ => rfl) (by decide) (by decide) (by decide) (Nat.le_of_ble_eq_true rfl) (Nat.le_of_ble_eq_true rfl) d_Mo_init_30 (fun q30 H hP hD hS => ?_)
  have hP : va_P D classes [(h, .inr (8, [.int 0, .int 0, .ref q8, .ref q16, .ref q23, .null, .int 0, .null, .int 0, .null, .int 0, .int 0, .int 0, .int 0, .int 0, .int 0, .int 0, .int 0, .int 0, .int 0, .int 0, .int 0, .int 0, .null, .null, .int 0, .null, .null, .null])), (q8, .inl (cI, 16384, .inl (fun _ => 0))), (q16, .inl (cI, 49152, .inl (fun _ => 0))), (q23, .inl (cI, 3, .inl (fun _ => 0))), (q30, .inl (cI, 3, .inl (fun _ => 0)))] H := hP
  have hD : va_D A [(h, .inr (8, [.int 0, .int 0, .ref q8, .ref q16, .ref q23, .null, .int 0, .null, .int 0, .null, .int 0, .int 0, .int 0, .int 0, .int 0, .int 0, .int 0, .int 0, .int 0, .int 0, .int 0, .int 0, .int 0, .null, .null, .int 0, .null, .null, .null])), (q8, .inl (cI, 16384, .inl (fun _ => 0))), (q16, .inl (cI, 49152, .inl (fun _ => 0))), (q23, .inl (cI, 3, .inl (fun _ => 0))), (q30, .inl (cI, 3, .inl (fun _ => 0)))] := hD
  refine va_putF (D := D) (ci := 8) (v := .ref q30) (ty := .array .int) (C := R_Mo) (T := F_Mo) (N := 29) hx hb hts i_Mo t_Mo t_Mo_ok n_Mo hown hZ.1 hP hD hS 0 rfl rfl 5 (by decide) (hts _ fl_Mo_20) (fun _ h9 => h9) rfl hnm rfl (by decide +kernel) rfl rfl (Nat.le_of_ble_eq_true rfl) d_Mo_init_32 (fun H locs hP hD hS => ?_)
  have hP : va_P D classes [(h, .inr (8, [.int 0, .int 0, .ref q8, .ref q16, .ref q23, .ref q30, .int 0, .null, .int 0, .null, .int 0, .int 0, .int 0, .int 0, .int 0, .int 0, .int 0, .int 0, .int 0, .int 0, .int 0, .int 0, .int 0, .null, .null, .int 0, .null, .null, .null])), (q8, .inl (cI, 16384, .inl (fun _ => 0))), (q16, .inl (cI, 49152, .inl (fun _ => 0))), (q23, .inl (cI, 3, .inl (fun _ => 0))), (q30, .inl (cI, 3, .inl (fun _ => 0)))] H := hP
  have hD : va_D A [(h, .inr (8, [.int 0, .int 0, .ref q8, .ref q16, .ref q23, .ref q30, .int 0, .null, .int 0, .null, .int 0, .int 0, .int 0, .int 0, .int 0, .int 0, .int 0, .int 0, .int 0, .int 0, .int 0, .int 0, .int 0, .null, .null, .int 0, .null, .null, .null])), (q8, .inl (cI, 16384, .inl (fun _ => 0))), (q16, .inl (cI, 49152, .inl (fun _ => 0))), (q23, .inl (cI, 3, .inl (fun _ => 0))), (q30, .inl (cI, 3, .inl (fun _ => 0)))] := hD
  refine lv_aload_n hx hb d_Mo_init_35 rfl (lv_at hl 0 rfl) ?_
  refine lv_sipush (v := 28000) hx hb d_Mo_init_36 (by decide) ?_
  refine t_newa (atype := .int) (a0 := (28000, .inl (fun _ => 0))) (N' := 28000) hx hb (hts _ ar_I) rfl hZ.1 hP hD hS hZ.2.2.2 1 rfl (fun _ => rfl) (by decide) (by decide) (by decide) (Nat.le_of_ble_eq_true rfl) (Nat.le_of_ble_eq_true rfl) d_Mo_init_39 (fun q39 H hP hD hS => ?_)
  have hP : va_P D classes [(h, .inr (8, [.int 0, .int 0, .ref q8, .ref q16, .ref q23, .ref q30, .int 0, .null, .int 0, .null, .int 0, .int 0, .int 0, .int 0, .int 0, .int 0, .int 0, .int 0, .int 0, .int 0, .int 0, .int 0, .int 0, .null, .null, .int 0, .null, .null, .null])), (q8, .inl (cI, 16384, .inl (fun _ => 0))), (q16, .inl (cI, 49152, .inl (fun _ => 0))), (q23, .inl (cI, 3, .inl (fun _ => 0))), (q30, .inl (cI, 3, .inl (fun _ => 0))), (q39, .inl (cI, 28000, .inl (fun _ => 0)))] H := hP
  have hD : va_D A [(h, .inr (8, [.int 0, .int 0, .ref q8, .ref q16, .ref q23, .ref q30, .int 0, .null, .int 0, .null, .int 0, .int 0, .int 0, .int 0, .int 0, .int 0, .int 0, .int 0, .int 0, .int 0, .int 0, .int 0, .int 0, .null, .null, .int 0, .null, .null, .null])), (q8, .inl (cI, 16384, .inl (fun _ => 0))), (q16, .inl (cI, 49152, .inl (fun _ => 0))), (q23, .inl (cI, 3, .inl (fun _ => 0))), (q30, .inl (cI, 3, .inl (fun _ => 0))), (q39, .inl (cI, 28000, .inl (fun _ => 0)))] := hD
  refine va_putF (D := D) (ci := 8) (v := .ref q39) (ty := .array .int) (C := R_Mo) (T := F_Mo) (N := 29) hx hb hts i_Mo t_Mo t_Mo_ok n_Mo hown hZ.1 hP hD hS 0 rfl rfl 7 (by decide) (hts _ fl_Mo_23) (fun _ h9 => h9) rfl hnm rfl (by decide +kernel) rfl rfl (Nat.le_of_ble_eq_true rfl) d_Mo_init_41 (fun H locs hP hD hS => ?_)
  have hP : va_P D classes [(h, .inr (8, [.int 0, .int 0, .ref q8, .ref q16, .ref q23, .ref q30, .int 0, .ref q39, .int 0, .null, .int 0, .int 0, .int 0, .int 0, .int 0, .int 0, .int 0, .int 0, .int 0, .int 0, .int 0, .int 0, .int 0, .null, .null, .int 0, .null, .null, .null])), (q8, .inl (cI, 16384, .inl (fun _ => 0))), (q16, .inl (cI, 49152, .inl (fun _ => 0))), (q23, .inl (cI, 3, .inl (fun _ => 0))), (q30, .inl (cI, 3, .inl (fun _ => 0))), (q39, .inl (cI, 28000, .inl (fun _ => 0)))] H := hP
  have hD : va_D A [(h, .inr (8, [.int 0, .int 0, .ref q8, .ref q16, .ref q23, .ref q30, .int 0, .ref q39, .int 0, .null, .int 0, .int 0, .int 0, .int 0, .int 0, .int 0, .int 0, .int 0, .int 0, .int 0, .int 0, .int 0, .int 0, .null, .null, .int 0, .null, .null, .null])), (q8, .inl (cI, 16384, .inl (fun _ => 0))), (q16, .inl (cI, 49152, .inl (fun _ => 0))), (q23, .inl (cI, 3, .inl (fun _ => 0))), (q30, .inl (cI, 3, .inl (fun _ => 0))), (q39, .inl (cI, 28000, .inl (fun _ => 0)))] := hD
  refine lv_aload_n hx hb d_Mo_init_44 rfl (lv_at hl 0 rfl) ?_
  refine lv_sipush (v := 28000) hx hb d_Mo_init_45 (by decide) ?_
  refine t_newa (atype := .int) (a0 := (28000, .inl (fun _ => 0))) (N' := 28000) hx hb (hts _ ar_I) rfl hZ.1 hP hD hS hZ.2.2.2 1 rfl (fun _ => rfl) (by decide) (by decide) (by decide) (Nat.le_of_ble_eq_true rfl) (Nat.le_of_ble_eq_true rfl) d_Mo_init_48 (fun q48 H hP hD hS => ?_)
  have hP : va_P D classes [(h, .inr (8, [.int 0, .int 0, .ref q8, .ref q16, .ref q23, .ref q30, .int 0, .ref q39, .int 0, .null, .int 0, .int 0, .int 0, .int 0, .int 0, .int 0, .int 0, .int 0, .int 0, .int 0, .int 0, .int 0, .int 0, .null, .null, .int 0, .null, .null, .null])), (q8, .inl (cI, 16384, .inl (fun _ => 0))), (q16, .inl (cI, 49152, .inl (fun _ => 0))), (q23, .inl (cI, 3, .inl (fun _ => 0))), (q30, .inl (cI, 3, .inl (fun _ => 0))), (q39, .inl (cI, 28000, .inl (fun _ => 0))), (q48, .inl (cI, 28000, .inl (fun _ => 0)))] H := hP
  have hD : va_D A [(h, .inr (8, [.int 0, .int 0, .ref q8, .ref q16, .ref q23, .ref q30, .int 0, .ref q39, .int 0, .null, .int 0, .int 0, .int 0, .int 0, .int 0, .int 0, .int 0, .int 0, .int 0, .int 0, .int 0, .int 0, .int 0, .null, .null, .int 0, .null, .null, .null])), (q8, .inl (cI, 16384, .inl (fun _ => 0))), (q16, .inl (cI, 49152, .inl (fun _ => 0))), (q23, .inl (cI, 3, .inl (fun _ => 0))), (q30, .inl (cI, 3, .inl (fun _ => 0))), (q39, .inl (cI, 28000, .inl (fun _ => 0))), (q48, .inl (cI, 28000, .inl (fun _ => 0)))] := hD
  refine va_putF (D := D) (ci := 8) (v := .ref q48) (ty := .array .int) (C := R_Mo) (T := F_Mo) (N := 29) hx hb hts i_Mo t_Mo t_Mo_ok n_Mo hown hZ.1 hP hD hS 0 rfl rfl 9 (by decide) (hts _ fl_Mo_26) (fun _ h9 => h9) rfl hnm rfl (by decide +kernel) rfl rfl (Nat.le_of_ble_eq_true rfl) d_Mo_init_50 (fun H locs hP hD hS => ?_)
  have hP : va_P D classes [(h, .inr (8, [.int 0, .int 0, .ref q8, .ref q16, .ref q23, .ref q30, .int 0, .ref q39, .int 0, .ref q48, .int 0, .int 0, .int 0, .int 0, .int 0, .int 0, .int 0, .int 0, .int 0, .int 0, .int 0, .int 0, .int 0, .null, .null, .int 0, .null, .null, .null])), (q8, .inl (cI, 16384, .inl (fun _ => 0))), (q16, .inl (cI, 49152, .inl (fun _ => 0))), (q23, .inl (cI, 3, .inl (fun _ => 0))), (q30, .inl (cI, 3, .inl (fun _ => 0))), (q39, .inl (cI, 28000, .inl (fun _ => 0))), (q48, .inl (cI, 28000, .inl (fun _ => 0)))] H := hP
  have hD : va_D A [(h, .inr (8, [.int 0, .int 0, .ref q8, .ref q16, .ref q23, .ref q30, .int 0, .ref q39, .int 0, .ref q48, .int 0, .int 0, .int 0, .int 0, .int 0, .int 0, .int 0, .int 0, .int 0, .int 0, .int 0, .int 0, .int 0, .null, .null, .int 0, .null, .null, .null])), (q8, .inl (cI, 16384, .inl (fun _ => 0))), (q16, .inl (cI, 49152, .inl (fun _ => 0))), (q23, .inl (cI, 3, .inl (fun _ => 0))), (q30, .inl (cI, 3, .inl (fun _ => 0))), (q39, .inl (cI, 28000, .inl (fun _ => 0))), (q48, .inl (cI, 28000, .inl (fun _ => 0)))] := hD
  refine lv_aload_n hx hb d_Mo_init_53 rfl (lv_at hl 0 rfl) ?_
  refine lv_bipush (v := 48) hx hb d_Mo_init_54 (by decide) ?_
  refine t_newa (atype := .int) (a0 := (48, .inl (fun _ => 0))) (N' := 48) hx hb (hts _ ar_I) rfl hZ.1 hP hD hS hZ.2.2.2 1 rfl (fun _ => rfl) (by decide) (by decide) (by decide) (Nat.le_of_ble_eq_true rfl) (Nat.le_of_ble_eq_true rfl) d_Mo_init_56 (fun q56 H hP hD hS => ?_)
  have hP : va_P D classes [(h, .inr (8, [.int 0, .int 0, .ref q8, .ref q16, .ref q23, .ref q30, .int 0, .ref q39, .int 0, .ref q48, .int 0, .int 0, .int 0, .int 0, .int 0, .int 0, .int 0, .int 0, .int 0, .int 0, .int 0, .int 0, .int 0, .null, .null, .int 0, .null, .null, .null])), (q8, .inl (cI, 16384, .inl (fun _ => 0))), (q16, .inl (cI, 49152, .inl (fun _ => 0))), (q23, .inl (cI, 3, .inl (fun _ => 0))), (q30, .inl (cI, 3, .inl (fun _ => 0))), (q39, .inl (cI, 28000, .inl (fun _ => 0))), (q48, .inl (cI, 28000, .inl (fun _ => 0))), (q56, .inl (cI, 48, .inl (fun _ => 0)))] H := hP
  have hD : va_D A [(h, .inr (8, [.int 0, .int 0, .ref q8, .ref q16, .ref q23, .ref q30, .int 0, .ref q39, .int 0, .ref q48, .int 0, .int 0, .int 0, .int 0, .int 0, .int 0, .int 0, .int 0, .int 0, .int 0, .int 0, .int 0, .int 0, .null, .null, .int 0, .null, .null, .null])), (q8, .inl (cI, 16384, .inl (fun _ => 0))), (q16, .inl (cI, 49152, .inl (fun _ => 0))), (q23, .inl (cI, 3, .inl (fun _ => 0))), (q30, .inl (cI, 3, .inl (fun _ => 0))), (q39, .inl (cI, 28000, .inl (fun _ => 0))), (q48, .inl (cI, 28000, .inl (fun _ => 0))), (q56, .inl (cI, 48, .inl (fun _ => 0)))] := hD
  refine va_putF (D := D) (ci := 8) (v := .ref q56) (ty := .array .int) (C := R_Mo) (T := F_Mo) (N := 29) hx hb hts i_Mo t_Mo t_Mo_ok n_Mo hown hZ.1 hP hD hS 0 rfl rfl 23 (by decide) (hts _ fl_Mo_29) (fun _ h9 => h9) rfl hnm rfl (by decide +kernel) rfl rfl (Nat.le_of_ble_eq_true rfl) d_Mo_init_58 (fun H locs hP hD hS => ?_)
  have hP : va_P D classes [(h, .inr (8, [.int 0, .int 0, .ref q8, .ref q16, .ref q23, .ref q30, .int 0, .ref q39, .int 0, .ref q48, .int 0, .int 0, .int 0, .int 0, .int 0, .int 0, .int 0, .int 0, .int 0, .int 0, .int 0, .int 0, .int 0, .ref q56, .null, .int 0, .null, .null, .null])), (q8, .inl (cI, 16384, .inl (fun _ => 0))), (q16, .inl (cI, 49152, .inl (fun _ => 0))), (q23, .inl (cI, 3, .inl (fun _ => 0))), (q30, .inl (cI, 3, .inl (fun _ => 0))), (q39, .inl (cI, 28000, .inl (fun _ => 0))), (q48, .inl (cI, 28000, .inl (fun _ => 0))), (q56, .inl (cI, 48, .inl (fun _ => 0)))] H := hP
  have hD : va_D A [(h, .inr (8, [.int 0, .int 0, .ref q8, .ref q16, .ref q23, .ref q30, .int 0, .ref q39, .int 0, .ref q48, .int 0, .int 0, .int 0, .int 0, .int 0, .int 0, .int 0, .int 0, .int 0, .int 0, .int 0, .int 0, .int 0, .ref q56, .null, .int 0, .null, .null, .null])), (q8, .inl (cI, 16384, .inl (fun _ => 0))), (q16, .inl (cI, 49152, .inl (fun _ => 0))), (q23, .inl (cI, 3, .inl (fun _ => 0))), (q30, .inl (cI, 3, .inl (fun _ => 0))), (q39, .inl (cI, 28000, .inl (fun _ => 0))), (q48, .inl (cI, 28000, .inl (fun _ => 0))), (q56, .inl (cI, 48, .inl (fun _ => 0)))] := hD
  refine lv_aload_n hx hb d_Mo_init_61 rfl (lv_at hl 0 rfl) ?_
  refine lv_bipush (v := 32) hx hb d_Mo_init_62 (by decide) ?_
  refine t_newa (atype := .int) (a0 := (32, .inl (fun _ => 0))) (N' := 32) hx hb (hts _ ar_I) rfl hZ.1 hP hD hS hZ.2.2.2 1 rfl (fun _ => rfl) (by decide) (by decide) (by decide) (Nat.le_of_ble_eq_true rfl) (Nat.le_of_ble_eq_true rfl) d_Mo_init_64 (fun q64 H hP hD hS => ?_)
  have hP : va_P D classes [(h, .inr (8, [.int 0, .int 0, .ref q8, .ref q16, .ref q23, .ref q30, .int 0, .ref q39, .int 0, .ref q48, .int 0, .int 0, .int 0, .int 0, .int 0, .int 0, .int 0, .int 0, .int 0, .int 0, .int 0, .int 0, .int 0, .ref q56, .null, .int 0, .null, .null, .null])), (q8, .inl (cI, 16384, .inl (fun _ => 0))), (q16, .inl (cI, 49152, .inl (fun _ => 0))), (q23, .inl (cI, 3, .inl (fun _ => 0))), (q30, .inl (cI, 3, .inl (fun _ => 0))), (q39, .inl (cI, 28000, .inl (fun _ => 0))), (q48, .inl (cI, 28000, .inl (fun _ => 0))), (q56, .inl (cI, 48, .inl (fun _ => 0))), (q64, .inl (cI, 32, .inl (fun _ => 0)))] H := hP
  have hD : va_D A [(h, .inr (8, [.int 0, .int 0, .ref q8, .ref q16, .ref q23, .ref q30, .int 0, .ref q39, .int 0, .ref q48, .int 0, .int 0, .int 0, .int 0, .int 0, .int 0, .int 0, .int 0, .int 0, .int 0, .int 0, .int 0, .int 0, .ref q56, .null, .int 0, .null, .null, .null])), (q8, .inl (cI, 16384, .inl (fun _ => 0))), (q16, .inl (cI, 49152, .inl (fun _ => 0))), (q23, .inl (cI, 3, .inl (fun _ => 0))), (q30, .inl (cI, 3, .inl (fun _ => 0))), (q39, .inl (cI, 28000, .inl (fun _ => 0))), (q48, .inl (cI, 28000, .inl (fun _ => 0))), (q56, .inl (cI, 48, .inl (fun _ => 0))), (q64, .inl (cI, 32, .inl (fun _ => 0)))] := hD
  refine va_putF (D := D) (ci := 8) (v := .ref q64) (ty := .array .int) (C := R_Mo) (T := F_Mo) (N := 29) hx hb hts i_Mo t_Mo t_Mo_ok n_Mo hown hZ.1 hP hD hS 0 rfl rfl 24 (by decide) (hts _ fl_Mo_32) (fun _ h9 => h9) rfl hnm rfl (by decide +kernel) rfl rfl (Nat.le_of_ble_eq_true rfl) d_Mo_init_66 (fun H locs hP hD hS => ?_)
  have hP : va_P D classes [(h, .inr (8, [.int 0, .int 0, .ref q8, .ref q16, .ref q23, .ref q30, .int 0, .ref q39, .int 0, .ref q48, .int 0, .int 0, .int 0, .int 0, .int 0, .int 0, .int 0, .int 0, .int 0, .int 0, .int 0, .int 0, .int 0, .ref q56, .ref q64, .int 0, .null, .null, .null])), (q8, .inl (cI, 16384, .inl (fun _ => 0))), (q16, .inl (cI, 49152, .inl (fun _ => 0))), (q23, .inl (cI, 3, .inl (fun _ => 0))), (q30, .inl (cI, 3, .inl (fun _ => 0))), (q39, .inl (cI, 28000, .inl (fun _ => 0))), (q48, .inl (cI, 28000, .inl (fun _ => 0))), (q56, .inl (cI, 48, .inl (fun _ => 0))), (q64, .inl (cI, 32, .inl (fun _ => 0)))] H := hP
  have hD : va_D A [(h, .inr (8, [.int 0, .int 0, .ref q8, .ref q16, .ref q23, .ref q30, .int 0, .ref q39, .int 0, .ref q48, .int 0, .int 0, .int 0, .int 0, .int 0, .int 0, .int 0, .int 0, .int 0, .int 0, .int 0, .int 0, .int 0, .ref q56, .ref q64, .int 0, .null, .null, .null])), (q8, .inl (cI, 16384, .inl (fun _ => 0))), (q16, .inl (cI, 49152, .inl (fun _ => 0))), (q23, .inl (cI, 3, .inl (fun _ => 0))), (q30, .inl (cI, 3, .inl (fun _ => 0))), (q39, .inl (cI, 28000, .inl (fun _ => 0))), (q48, .inl (cI, 28000, .inl (fun _ => 0))), (q56, .inl (cI, 48, .inl (fun _ => 0))), (q64, .inl (cI, 32, .inl (fun _ => 0)))] := hD
  refine lv_aload_n hx hb d_Mo_init_69 rfl (lv_at hl 0 rfl) ?_
  refine lv_bipush (v := 11) hx hb d_Mo_init_70 (by decide) ?_
  refine t_newa (atype := .int) (a0 := (11, .inl (fun _ => 0))) (N' := 11) hx hb (hts _ ar_I) rfl hZ.1 hP hD hS hZ.2.2.2 1 rfl (fun _ => rfl) (by decide) (by decide) (by decide) (Nat.le_of_ble_eq_true rfl) (Nat.le_of_ble_eq_true rfl) d_Mo_init_72 (fun q72 H hP hD hS => ?_)
  have hP : va_P D classes [(h, .inr (8, [.int 0, .int 0, .ref q8, .ref q16, .ref q23, .ref q30, .int 0, .ref q39, .int 0, .ref q48, .int 0, .int 0, .int 0, .int 0, .int 0, .int 0, .int 0, .int 0, .int 0, .int 0, .int 0, .int 0, .int 0, .ref q56, .ref q64, .int 0, .null, .null, .null])), (q8, .inl (cI, 16384, .inl (fun _ => 0))), (q16, .inl (cI, 49152, .inl (fun _ => 0))), (q23, .inl (cI, 3, .inl (fun _ => 0))), (q30, .inl (cI, 3, .inl (fun _ => 0))), (q39, .inl (cI, 28000, .inl (fun _ => 0))), (q48, .inl (cI, 28000, .inl (fun _ => 0))), (q56, .inl (cI, 48, .inl (fun _ => 0))), (q64, .inl (cI, 32, .inl (fun _ => 0))), (q72, .inl (cI, 11, .inl (fun _ => 0)))] H := hP
  have hD : va_D A [(h, .inr (8, [.int 0, .int 0, .ref q8, .ref q16, .ref q23, .ref q30, .int 0, .ref q39, .int 0, .ref q48, .int 0, .int 0, .int 0, .int 0, .int 0, .int 0, .int 0, .int 0, .int 0, .int 0, .int 0, .int 0, .int 0, .ref q56, .ref q64, .int 0, .null, .null, .null])), (q8, .inl (cI, 16384, .inl (fun _ => 0))), (q16, .inl (cI, 49152, .inl (fun _ => 0))), (q23, .inl (cI, 3, .inl (fun _ => 0))), (q30, .inl (cI, 3, .inl (fun _ => 0))), (q39, .inl (cI, 28000, .inl (fun _ => 0))), (q48, .inl (cI, 28000, .inl (fun _ => 0))), (q56, .inl (cI, 48, .inl (fun _ => 0))), (q64, .inl (cI, 32, .inl (fun _ => 0))), (q72, .inl (cI, 11, .inl (fun _ => 0)))] := hD
  refine va_putF (D := D) (ci := 8) (v := .ref q72) (ty := .array .int) (C := R_Mo) (T := F_Mo) (N := 29) hx hb hts i_Mo t_Mo t_Mo_ok n_Mo hown hZ.1 hP hD hS 0 rfl rfl 26 (by decide) (hts _ fl_Mo_35) (fun _ h9 => h9) rfl hnm rfl (by decide +kernel) rfl rfl (Nat.le_of_ble_eq_true rfl) d_Mo_init_74 (fun H locs hP hD hS => ?_)
  have hP : va_P D classes [(h, .inr (8, [.int 0, .int 0, .ref q8, .ref q16, .ref q23, .ref q30, .int 0, .ref q39, .int 0, .ref q48, .int 0, .int 0, .int 0, .int 0, .int 0, .int 0, .int 0, .int 0, .int 0, .int 0, .int 0, .int 0, .int 0, .ref q56, .ref q64, .int 0, .ref q72, .null, .null])), (q8, .inl (cI, 16384, .inl (fun _ => 0))), (q16, .inl (cI, 49152, .inl (fun _ => 0))), (q23, .inl (cI, 3, .inl (fun _ => 0))), (q30, .inl (cI, 3, .inl (fun _ => 0))), (q39, .inl (cI, 28000, .inl (fun _ => 0))), (q48, .inl (cI, 28000, .inl (fun _ => 0))), (q56, .inl (cI, 48, .inl (fun _ => 0))), (q64, .inl (cI, 32, .inl (fun _ => 0))), (q72, .inl (cI, 11, .inl (fun _ => 0)))] H := hP
  have hD : va_D A [(h, .inr (8, [.int 0, .int 0, .ref q8, .ref q16, .ref q23, .ref q30, .int 0, .ref q39, .int 0, .ref q48, .int 0, .int 0, .int 0, .int 0, .int 0, .int 0, .int 0, .int 0, .int 0, .int 0, .int 0, .int 0, .int 0, .ref q56, .ref q64, .int 0, .ref q72, .null, .null])), (q8, .inl (cI, 16384, .inl (fun _ => 0))), (q16, .inl (cI, 49152, .inl (fun _ => 0))), (q23, .inl (cI, 3, .inl (fun _ => 0))), (q30, .inl (cI, 3, .inl (fun _ => 0))), (q39, .inl (cI, 28000, .inl (fun _ => 0))), (q48, .inl (cI, 28000, .inl (fun _ => 0))), (q56, .inl (cI, 48, .inl (fun _ => 0))), (q64, .inl (cI, 32, .inl (fun _ => 0))), (q72, .inl (cI, 11, .inl (fun _ => 0)))] := hD
  refine lv_aload_n hx hb d_Mo_init_77 rfl (lv_at hl 0 rfl) ?_
  refine lv_bipush (v := 11) hx hb d_Mo_init_78 (by decide) ?_
  refine t_newa (atype := .int) (a0 := (11, .inl (fun _ => 0))) (N' := 11) hx hb (hts _ ar_I) rfl hZ.1 hP hD hS hZ.2.2.2 1 rfl (fun _ => rfl) (by decide) (by decide) (by decide) (Nat.le_of_ble_eq_true rfl) (Nat.le_of_ble_eq_true rfl) d_Mo_init_80 (fun q80 H hP hD hS => ?_)
  have hP : va_P D classes [(h, .inr (8, [.int 0, .int 0, .ref q8, .ref q16, .ref q23, .ref q30, .int 0, .ref q39, .int 0, .ref q48, .int 0, .int 0, .int 0, .int 0, .int 0, .int 0, .int 0, .int 0, .int 0, .int 0, .int 0, .int 0, .int 0, .ref q56, .ref q64, .int 0, .ref q72, .null, .null])), (q8, .inl (cI, 16384, .inl (fun _ => 0))), (q16, .inl (cI, 49152, .inl (fun _ => 0))), (q23, .inl (cI, 3, .inl (fun _ => 0))), (q30, .inl (cI, 3, .inl (fun _ => 0))), (q39, .inl (cI, 28000, .inl (fun _ => 0))), (q48, .inl (cI, 28000, .inl (fun _ => 0))), (q56, .inl (cI, 48, .inl (fun _ => 0))), (q64, .inl (cI, 32, .inl (fun _ => 0))), (q72, .inl (cI, 11, .inl (fun _ => 0))), (q80, .inl (cI, 11, .inl (fun _ => 0)))] H := hP
  have hD : va_D A [(h, .inr (8, [.int 0, .int 0, .ref q8, .ref q16, .ref q23, .ref q30, .int 0, .ref q39, .int 0, .ref q48, .int 0, .int 0, .int 0, .int 0, .int 0, .int 0, .int 0, .int 0, .int 0, .int 0, .int 0, .int 0, .int 0, .ref q56, .ref q64, .int 0, .ref q72, .null, .null])), (q8, .inl (cI, 16384, .inl (fun _ => 0))), (q16, .inl (cI, 49152, .inl (fun _ => 0))), (q23, .inl (cI, 3, .inl (fun _ => 0))), (q30, .inl (cI, 3, .inl (fun _ => 0))), (q39, .inl (cI, 28000, .inl (fun _ => 0))), (q48, .inl (cI, 28000, .inl (fun _ => 0))), (q56, .inl (cI, 48, .inl (fun _ => 0))), (q64, .inl (cI, 32, .inl (fun _ => 0))), (q72, .inl (cI, 11, .inl (fun _ => 0))), (q80, .inl (cI, 11, .inl (fun _ => 0)))] := hD
  refine va_putF (D := D) (ci := 8) (v := .ref q80) (ty := .array .int) (C := R_Mo) (T := F_Mo) (N := 29) hx hb hts i_Mo t_Mo t_Mo_ok n_Mo hown hZ.1 hP hD hS 0 rfl rfl 27 (by decide) (hts _ fl_Mo_38) (fun _ h9 => h9) rfl hnm rfl (by decide +kernel) rfl rfl (Nat.le_of_ble_eq_true rfl) d_Mo_init_82 (fun H locs hP hD hS => ?_)
  have hP : va_P D classes [(h, .inr (8, [.int 0, .int 0, .ref q8, .ref q16, .ref q23, .ref q30, .int 0, .ref q39, .int 0, .ref q48, .int 0, .int 0, .int 0, .int 0, .int 0, .int 0, .int 0, .int 0, .int 0, .int 0, .int 0, .int 0, .int 0, .ref q56, .ref q64, .int 0, .ref q72, .ref q80, .null])), (q8, .inl (cI, 16384, .inl (fun _ => 0))), (q16, .inl (cI, 49152, .inl (fun _ => 0))), (q23, .inl (cI, 3, .inl (fun _ => 0))), (q30, .inl (cI, 3, .inl (fun _ => 0))), (q39, .inl (cI, 28000, .inl (fun _ => 0))), (q48, .inl (cI, 28000, .inl (fun _ => 0))), (q56, .inl (cI, 48, .inl (fun _ => 0))), (q64, .inl (cI, 32, .inl (fun _ => 0))), (q72, .inl (cI, 11, .inl (fun _ => 0))), (q80, .inl (cI, 11, .inl (fun _ => 0)))] H := hP
  have hD : va_D A [(h, .inr (8, [.int 0, .int 0, .ref q8, .ref q16, .ref q23, .ref q30, .int 0, .ref q39, .int 0, .ref q48, .int 0, .int 0, .int 0, .int 0, .int 0, .int 0, .int 0, .int 0, .int 0, .int 0, .int 0, .int 0, .int 0, .ref q56, .ref q64, .int 0, .ref q72, .ref q80, .null])), (q8, .inl (cI, 16384, .inl (fun _ => 0))), (q16, .inl (cI, 49152, .inl (fun _ => 0))), (q23, .inl (cI, 3, .inl (fun _ => 0))), (q30, .inl (cI, 3, .inl (fun _ => 0))), (q39, .inl (cI, 28000, .inl (fun _ => 0))), (q48, .inl (cI, 28000, .inl (fun _ => 0))), (q56, .inl (cI, 48, .inl (fun _ => 0))), (q64, .inl (cI, 32, .inl (fun _ => 0))), (q72, .inl (cI, 11, .inl (fun _ => 0))), (q80, .inl (cI, 11, .inl (fun _ => 0)))] := hD
  refine lv_aload_n hx hb d_Mo_init_85 rfl (lv_at hl 0 rfl) ?_
  refine lv_bipush (v := 11) hx hb d_Mo_init_86 (by decide) ?_
  refine t_newa (atype := .int) (a0 := (11, .inl (fun _ => 0))) (N' := 11) hx hb (hts _ ar_I) rfl hZ.1 hP hD hS hZ.2.2.2 1 rfl (fun _ => rfl) (by decide) (by decide) (by decide) (Nat.le_of_ble_eq_true rfl) (Nat.le_of_ble_eq_true rfl) d_Mo_init_88 (fun q88 H hP hD hS => ?_)
  have hP : va_P D classes [(h, .inr (8, [.int 0, .int 0, .ref q8, .ref q16, .ref q23, .ref q30, .int 0, .ref q39, .int 0, .ref q48, .int 0, .int 0, .int 0, .int 0, .int 0, .int 0, .int 0, .int 0, .int 0, .int 0, .int 0, .int 0, .int 0, .ref q56, .ref q64, .int 0, .ref q72, .ref q80, .null])), (q8, .inl (cI, 16384, .inl (fun _ => 0))), (q16, .inl (cI, 49152, .inl (fun _ => 0))), (q23, .inl (cI, 3, .inl (fun _ => 0))), (q30, .inl (cI, 3, .inl (fun _ => 0))), (q39, .inl (cI, 28000, .inl (fun _ => 0))), (q48, .inl (cI, 28000, .inl (fun _ => 0))), (q56, .inl (cI, 48, .inl (fun _ => 0))), (q64, .inl (cI, 32, .inl (fun _ => 0))), (q72, .inl (cI, 11, .inl (fun _ => 0))), (q80, .inl (cI, 11, .inl (fun _ => 0))), (q88, .inl (cI, 11, .inl (fun _ => 0)))] H := hP
  have hD : va_D A [(h, .inr (8, [.int 0, .int 0, .ref q8, .ref q16, .ref q23, .ref q30, .int 0, .ref q39, .int 0, .ref q48, .int 0, .int 0, .int 0, .int 0, .int 0, .int 0, .int 0, .int 0, .int 0, .int 0, .int 0, .int 0, .int 0, .ref q56, .ref q64, .int 0, .ref q72, .ref q80, .null])), (q8, .inl (cI, 16384, .inl (fun _ => 0))), (q16, .inl (cI, 49152, .inl (fun _ => 0))), (q23, .inl (cI, 3, .inl (fun _ => 0))), (q30, .inl (cI, 3, .inl (fun _ => 0))), (q39, .inl (cI, 28000, .inl (fun _ => 0))), (q48, .inl (cI, 28000, .inl (fun _ => 0))), (q56, .inl (cI, 48, .inl (fun _ => 0))), (q64, .inl (cI, 32, .inl (fun _ => 0))), (q72, .inl (cI, 11, .inl (fun _ => 0))), (q80, .inl (cI, 11, .inl (fun _ => 0))), (q88, .inl (cI, 11, .inl (fun _ => 0)))] := hD
  refine va_putF (D := D) (ci := 8) (v := .ref q88) (ty := .array .int) (C := R_Mo) (T := F_Mo) (N := 29) hx hb hts i_Mo t_Mo t_Mo_ok n_Mo hown hZ.1 hP hD hS 0 rfl rfl 28 (by decide) (hts _ fl_Mo_41) (fun _ h9 => h9) rfl hnm rfl (by decide +kernel) rfl rfl (Nat.le_of_ble_eq_true rfl) d_Mo_init_90 (fun H locs hP hD hS => ?_)
  have hP : va_P D classes [(h, .inr (8, [.int 0, .int 0, .ref q8, .ref q16, .ref q23, .ref q30, .int 0, .ref q39, .int 0, .ref q48, .int 0, .int 0, .int 0, .int 0, .int 0, .int 0, .int 0, .int 0, .int 0, .int 0, .int 0, .int 0, .int 0, .ref q56, .ref q64, .int 0, .ref q72, .ref q80, .ref q88])), (q8, .inl (cI, 16384, .inl (fun _ => 0))), (q16, .inl (cI, 49152, .inl (fun _ => 0))), (q23, .inl (cI, 3, .inl (fun _ => 0))), (q30, .inl (cI, 3, .inl (fun _ => 0))), (q39, .inl (cI, 28000, .inl (fun _ => 0))), (q48, .inl (cI, 28000, .inl (fun _ => 0))), (q56, .inl (cI, 48, .inl (fun _ => 0))), (q64, .inl (cI, 32, .inl (fun _ => 0))), (q72, .inl (cI, 11, .inl (fun _ => 0))), (q80, .inl (cI, 11, .inl (fun _ => 0))), (q88, .inl (cI, 11, .inl (fun _ => 0)))] H := hP
  have hD : va_D A [(h, .inr (8, [.int 0, .int 0, .ref q8, .ref q16, .ref q23, .ref q30, .int 0, .ref q39, .int 0, .ref q48, .int 0, .int 0, .int 0, .int 0, .int 0, .int 0, .int 0, .int 0, .int 0, .int 0, .int 0, .int 0, .int 0, .ref q56, .ref q64, .int 0, .ref q72, .ref q80, .ref q88])), (q8, .inl (cI, 16384, .inl (fun _ => 0))), (q16, .inl (cI, 49152, .inl (fun _ => 0))), (q23, .inl (cI, 3, .inl (fun _ => 0))), (q30, .inl (cI, 3, .inl (fun _ => 0))), (q39, .inl (cI, 28000, .inl (fun _ => 0))), (q48, .inl (cI, 28000, .inl (fun _ => 0))), (q56, .inl (cI, 48, .inl (fun _ => 0))), (q64, .inl (cI, 32, .inl (fun _ => 0))), (q72, .inl (cI, 11, .inl (fun _ => 0))), (q80, .inl (cI, 11, .inl (fun _ => 0))), (q88, .inl (cI, 11, .inl (fun _ => 0)))] := hD
  exact t_vret hx hb hr hlk d_Mo_init_93 (hP.subm (ws' := [(h, .inr (8, [.int 0, .int 0, .ref q8, .ref q16, .ref q23, .ref q30, .int 0, .ref q39, .int 0, .ref q48, .int 0, .int 0, .int 0, .int 0, .int 0, .int 0, .int 0, .int 0, .int 0, .int 0, .int 0, .int 0, .int 0, .ref q56, .ref q64, .int 0, .ref q72, .ref q80, .ref q88])), (q8, .inl (cI, 16384, .inl (fun _ => 0))), (q16, .inl (cI, 49152, .inl (fun _ => 0))), (q23, .inl (cI, 3, .inl (fun _ => 0))), (q30, .inl (cI, 3, .inl (fun _ => 0))), (q39, .inl (cI, 28000, .inl (fun _ => 0))), (q48, .inl (cI, 28000, .inl (fun _ => 0))), (q56, .inl (cI, 48, .inl (fun _ => 0))), (q64, .inl (cI, 32, .inl (fun _ => 0))), (q72, .inl (cI, 11, .inl (fun _ => 0))), (q80, .inl (cI, 11, .inl (fun _ => 0))), (q88, .inl (cI, 11, .inl (fun _ => 0)))]) [0, 1, 2, 3, 4, 5, 6, 7, 8, 9, 10, 11] rfl) (hD.sub (ws' := [(h, .inr (8, [.int 0, .int 0, .ref q8, .ref q16, .ref q23, .ref q30, .int 0, .ref q39, .int 0, .ref q48, .int 0, .int 0, .int 0, .int 0, .int 0, .int 0, .int 0, .int 0, .int 0, .int 0, .int 0, .int 0, .int 0, .ref q56, .ref q64, .int 0, .ref q72, .ref q80, .ref q88])), (q8, .inl (cI, 16384, .inl (fun _ => 0))), (q16, .inl (cI, 49152, .inl (fun _ => 0))), (q23, .inl (cI, 3, .inl (fun _ => 0))), (q30, .inl (cI, 3, .inl (fun _ => 0))), (q39, .inl (cI, 28000, .inl (fun _ => 0))), (q48, .inl (cI, 28000, .inl (fun _ => 0))), (q56, .inl (cI, 48, .inl (fun _ => 0))), (q64, .inl (cI, 32, .inl (fun _ => 0))), (q72, .inl (cI, 11, .inl (fun _ => 0))), (q80, .inl (cI, 11, .inl (fun _ => 0))), (q88, .inl (cI, 11, .inl (fun _ => 0)))]) [0, 1, 2, 3, 4, 5, 6, 7, 8, 9, 10, 11] rfl rfl) hS ⟨rfl, q8, q16, q23, q30, q39, q48, q56, q64, q72, q80, q88, rfl, rfl, rfl⟩
end
